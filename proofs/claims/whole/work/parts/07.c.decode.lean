theorem dX12_added_0 : decode cX12_added 0 = .ok (.iload_n 1, 1) := by decide +kernel
theorem dX12_added_1 : decode cX12_added 1 = .ok (.iconst 0, 1) := by decide +kernel
theorem dX12_added_2 : decode cX12_added 2 = .ok (.iconst 1, 1) := by decide +kernel
theorem dX12_added_3 : decode cX12_added 3 = .ok (.invokestatic 141, 3) := by decide +kernel
theorem dX12_added_6 : decode cX12_added 6 = .ok (.ifCond .eq 10, 3) := by decide +kernel
theorem dX12_added_9 : decode cX12_added 9 = .ok (.aload_n 0, 1) := by decide +kernel
theorem dX12_added_10 : decode cX12_added 10 = .ok (.getfield 145, 3) := by decide +kernel
theorem dX12_added_13 : decode cX12_added 13 = .ok (.ifCond .ne 5, 3) := by decide +kernel
theorem dX12_added_16 : decode cX12_added 16 = .ok (.iconst (-1), 1) := by decide +kernel
theorem dX12_added_17 : decode cX12_added 17 = .ok (.ireturn, 1) := by decide +kernel
theorem dX12_added_18 : decode cX12_added 18 = .ok (.aload_n 0, 1) := by decide +kernel
theorem dX12_added_19 : decode cX12_added 19 = .ok (.invokevirtual 212, 3) := by decide +kernel
theorem dX12_added_22 : decode cX12_added 22 = .ok (.aload_n 0, 1) := by decide +kernel
theorem dX12_added_23 : decode cX12_added 23 = .ok (.iconst 0, 1) := by decide +kernel
theorem dX12_added_24 : decode cX12_added 24 = .ok (.putfield 370, 3) := by decide +kernel
theorem dX12_added_27 : decode cX12_added 27 = .ok (.iconst 0, 1) := by decide +kernel
theorem dX12_added_28 : decode cX12_added 28 = .ok (.istore_n 2, 1) := by decide +kernel
theorem dX12_added_29 : decode cX12_added 29 = .ok (.iload_n 2, 1) := by decide +kernel
theorem dX12_added_30 : decode cX12_added 30 = .ok (.aload_n 0, 1) := by decide +kernel
theorem dX12_added_31 : decode cX12_added 31 = .ok (.getfield 145, 3) := by decide +kernel
theorem dX12_added_34 : decode cX12_added 34 = .ok (.if_icmp .ge 119, 3) := by decide +kernel
theorem dX12_added_37 : decode cX12_added 37 = .ok (.iconst 0, 1) := by decide +kernel
theorem dX12_added_38 : decode cX12_added 38 = .ok (.istore_n 3, 1) := by decide +kernel
theorem dX12_added_39 : decode cX12_added 39 = .ok (.iload_n 3, 1) := by decide +kernel
theorem dX12_added_40 : decode cX12_added 40 = .ok (.aload_n 0, 1) := by decide +kernel
theorem dX12_added_41 : decode cX12_added 41 = .ok (.getfield 134, 3) := by decide +kernel
theorem dX12_added_44 : decode cX12_added 44 = .ok (.if_icmp .ge 103, 3) := by decide +kernel
theorem dX12_added_47 : decode cX12_added 47 = .ok (.iload_n 3, 1) := by decide +kernel
theorem dX12_added_48 : decode cX12_added 48 = .ok (.aload_n 0, 1) := by decide +kernel
theorem dX12_added_49 : decode cX12_added 49 = .ok (.getfield 44, 3) := by decide +kernel
theorem dX12_added_52 : decode cX12_added 52 = .ok (.iload_n 2, 1) := by decide +kernel
theorem dX12_added_53 : decode cX12_added 53 = .ok (.iaload, 1) := by decide +kernel
theorem dX12_added_54 : decode cX12_added 54 = .ok (.if_icmp .ne 6, 3) := by decide +kernel
theorem dX12_added_57 : decode cX12_added 57 = .ok (.goto 84, 3) := by decide +kernel
theorem dX12_added_60 : decode cX12_added 60 = .ok (.aload_n 0, 1) := by decide +kernel
theorem dX12_added_61 : decode cX12_added 61 = .ok (.aload_n 0, 1) := by decide +kernel
theorem dX12_added_62 : decode cX12_added 62 = .ok (.getfield 44, 3) := by decide +kernel
theorem dX12_added_65 : decode cX12_added 65 = .ok (.aload_n 0, 1) := by decide +kernel
theorem dX12_added_66 : decode cX12_added 66 = .ok (.getfield 47, 3) := by decide +kernel
theorem dX12_added_69 : decode cX12_added 69 = .ok (.iload_n 2, 1) := by decide +kernel
theorem dX12_added_70 : decode cX12_added 70 = .ok (.iload_n 3, 1) := by decide +kernel
theorem dX12_added_71 : decode cX12_added 71 = .ok (.invokevirtual 228, 3) := by decide +kernel
theorem dX12_added_74 : decode cX12_added 74 = .ok (.iconst 0, 1) := by decide +kernel
theorem dX12_added_75 : decode cX12_added 75 = .ok (.istore 4, 2) := by decide +kernel
theorem dX12_added_77 : decode cX12_added 77 = .ok (.iconst 0, 1) := by decide +kernel
theorem dX12_added_78 : decode cX12_added 78 = .ok (.istore 5, 2) := by decide +kernel
theorem dX12_added_80 : decode cX12_added 80 = .ok (.iload 5, 2) := by decide +kernel
theorem dX12_added_82 : decode cX12_added 82 = .ok (.aload_n 0, 1) := by decide +kernel
theorem dX12_added_83 : decode cX12_added 83 = .ok (.getfield 145, 3) := by decide +kernel
theorem dX12_added_86 : decode cX12_added 86 = .ok (.if_icmp .ge 35, 3) := by decide +kernel
theorem dX12_added_89 : decode cX12_added 89 = .ok (.aload_n 0, 1) := by decide +kernel
theorem dX12_added_90 : decode cX12_added 90 = .ok (.getfield 47, 3) := by decide +kernel
theorem dX12_added_93 : decode cX12_added 93 = .ok (.iload 5, 2) := by decide +kernel
theorem dX12_added_95 : decode cX12_added 95 = .ok (.iaload, 1) := by decide +kernel
theorem dX12_added_96 : decode cX12_added 96 = .ok (.aload_n 0, 1) := by decide +kernel
theorem dX12_added_97 : decode cX12_added 97 = .ok (.getfield 44, 3) := by decide +kernel
theorem dX12_added_100 : decode cX12_added 100 = .ok (.iload 5, 2) := by decide +kernel
theorem dX12_added_102 : decode cX12_added 102 = .ok (.iaload, 1) := by decide +kernel
theorem dX12_added_103 : decode cX12_added 103 = .ok (.if_icmp .eq 12, 3) := by decide +kernel
theorem dX12_added_106 : decode cX12_added 106 = .ok (.iload 4, 2) := by decide +kernel
theorem dX12_added_108 : decode cX12_added 108 = .ok (.iconst 1, 1) := by decide +kernel
theorem dX12_added_109 : decode cX12_added 109 = .ok (.iload 5, 2) := by decide +kernel
theorem dX12_added_111 : decode cX12_added 111 = .ok (.ishl, 1) := by decide +kernel
theorem dX12_added_112 : decode cX12_added 112 = .ok (.ior, 1) := by decide +kernel
theorem dX12_added_113 : decode cX12_added 113 = .ok (.istore 4, 2) := by decide +kernel
theorem dX12_added_115 : decode cX12_added 115 = .ok (.iinc 5 1, 3) := by decide +kernel
theorem dX12_added_118 : decode cX12_added 118 = .ok (.goto (-38), 3) := by decide +kernel
theorem dX12_added_121 : decode cX12_added 121 = .ok (.iload 4, 2) := by decide +kernel
theorem dX12_added_123 : decode cX12_added 123 = .ok (.aload_n 0, 1) := by decide +kernel
theorem dX12_added_124 : decode cX12_added 124 = .ok (.getfield 145, 3) := by decide +kernel
theorem dX12_added_127 : decode cX12_added 127 = .ok (.iconst 1, 1) := by decide +kernel
theorem dX12_added_128 : decode cX12_added 128 = .ok (.isub, 1) := by decide +kernel
theorem dX12_added_129 : decode cX12_added 129 = .ok (.invokestatic 327, 3) := by decide +kernel
theorem dX12_added_132 : decode cX12_added 132 = .ok (.ifCond .ne 9, 3) := by decide +kernel
theorem dX12_added_135 : decode cX12_added 135 = .ok (.aload_n 0, 1) := by decide +kernel
theorem dX12_added_136 : decode cX12_added 136 = .ok (.iload 4, 2) := by decide +kernel
theorem dX12_added_138 : decode cX12_added 138 = .ok (.invokevirtual 373, 3) := by decide +kernel
theorem dX12_added_141 : decode cX12_added 141 = .ok (.iinc 3 1, 3) := by decide +kernel
theorem dX12_added_144 : decode cX12_added 144 = .ok (.goto (-105), 3) := by decide +kernel
theorem dX12_added_147 : decode cX12_added 147 = .ok (.iinc 2 1, 3) := by decide +kernel
theorem dX12_added_150 : decode cX12_added 150 = .ok (.goto (-121), 3) := by decide +kernel
theorem dX12_added_153 : decode cX12_added 153 = .ok (.iconst (-1), 1) := by decide +kernel
theorem dX12_added_154 : decode cX12_added 154 = .ok (.istore_n 2, 1) := by decide +kernel
theorem dX12_added_155 : decode cX12_added 155 = .ok (.ldc_w 333, 3) := by decide +kernel
theorem dX12_added_158 : decode cX12_added 158 = .ok (.istore_n 3, 1) := by decide +kernel
theorem dX12_added_159 : decode cX12_added 159 = .ok (.iconst 0, 1) := by decide +kernel
theorem dX12_added_160 : decode cX12_added 160 = .ok (.istore 4, 2) := by decide +kernel
theorem dX12_added_162 : decode cX12_added 162 = .ok (.iload 4, 2) := by decide +kernel
theorem dX12_added_164 : decode cX12_added 164 = .ok (.aload_n 0, 1) := by decide +kernel
theorem dX12_added_165 : decode cX12_added 165 = .ok (.invokevirtual 337, 3) := by decide +kernel
theorem dX12_added_168 : decode cX12_added 168 = .ok (.if_icmp .gt 39, 3) := by decide +kernel
theorem dX12_added_171 : decode cX12_added 171 = .ok (.iload 4, 2) := by decide +kernel
theorem dX12_added_173 : decode cX12_added 173 = .ok (.invokestatic 340, 3) := by decide +kernel
theorem dX12_added_176 : decode cX12_added 176 = .ok (.iload_n 3, 1) := by decide +kernel
theorem dX12_added_177 : decode cX12_added 177 = .ok (.if_icmp .ge 24, 3) := by decide +kernel
theorem dX12_added_180 : decode cX12_added 180 = .ok (.aload_n 0, 1) := by decide +kernel
theorem dX12_added_181 : decode cX12_added 181 = .ok (.iload 4, 2) := by decide +kernel
theorem dX12_added_183 : decode cX12_added 183 = .ok (.invokevirtual 376, 3) := by decide +kernel
theorem dX12_added_186 : decode cX12_added 186 = .ok (.ifCond .ne 6, 3) := by decide +kernel
theorem dX12_added_189 : decode cX12_added 189 = .ok (.goto 12, 3) := by decide +kernel
theorem dX12_added_192 : decode cX12_added 192 = .ok (.iload 4, 2) := by decide +kernel
theorem dX12_added_194 : decode cX12_added 194 = .ok (.istore_n 2, 1) := by decide +kernel
theorem dX12_added_195 : decode cX12_added 195 = .ok (.iload 4, 2) := by decide +kernel
theorem dX12_added_197 : decode cX12_added 197 = .ok (.invokestatic 340, 3) := by decide +kernel
theorem dX12_added_200 : decode cX12_added 200 = .ok (.istore_n 3, 1) := by decide +kernel
theorem dX12_added_201 : decode cX12_added 201 = .ok (.iinc 4 1, 3) := by decide +kernel
theorem dX12_added_204 : decode cX12_added 204 = .ok (.goto (-42), 3) := by decide +kernel
theorem dX12_added_207 : decode cX12_added 207 = .ok (.iload_n 1, 1) := by decide +kernel
theorem dX12_added_208 : decode cX12_added 208 = .ok (.ifCond .ne 7, 3) := by decide +kernel
theorem dX12_added_211 : decode cX12_added 211 = .ok (.iload_n 3, 1) := by decide +kernel
theorem dX12_added_212 : decode cX12_added 212 = .ok (.goto 4, 3) := by decide +kernel
theorem dX12_added_215 : decode cX12_added 215 = .ok (.iload_n 2, 1) := by decide +kernel
theorem dX12_added_216 : decode cX12_added 216 = .ok (.ireturn, 1) := by decide +kernel
theorem dX12_addsShow_0 : decode cX12_addsShow 0 = .ok (.iconst 0, 1) := by decide +kernel
theorem dX12_addsShow_1 : decode cX12_addsShow 1 = .ok (.istore_n 2, 1) := by decide +kernel
theorem dX12_addsShow_2 : decode cX12_addsShow 2 = .ok (.iload_n 2, 1) := by decide +kernel
theorem dX12_addsShow_3 : decode cX12_addsShow 3 = .ok (.aload_n 0, 1) := by decide +kernel
theorem dX12_addsShow_4 : decode cX12_addsShow 4 = .ok (.getfield 370, 3) := by decide +kernel
theorem dX12_addsShow_7 : decode cX12_addsShow 7 = .ok (.if_icmp .ge 20, 3) := by decide +kernel
theorem dX12_addsShow_10 : decode cX12_addsShow 10 = .ok (.aload_n 0, 1) := by decide +kernel
theorem dX12_addsShow_11 : decode cX12_addsShow 11 = .ok (.getfield 98, 3) := by decide +kernel
theorem dX12_addsShow_14 : decode cX12_addsShow 14 = .ok (.iload_n 2, 1) := by decide +kernel
theorem dX12_addsShow_15 : decode cX12_addsShow 15 = .ok (.iaload, 1) := by decide +kernel
theorem dX12_addsShow_16 : decode cX12_addsShow 16 = .ok (.iload_n 1, 1) := by decide +kernel
theorem dX12_addsShow_17 : decode cX12_addsShow 17 = .ok (.if_icmp .ne 4, 3) := by decide +kernel
theorem dX12_addsShow_20 : decode cX12_addsShow 20 = .ok (.return_, 1) := by decide +kernel
theorem dX12_addsShow_21 : decode cX12_addsShow 21 = .ok (.iinc 2 1, 3) := by decide +kernel
theorem dX12_addsShow_24 : decode cX12_addsShow 24 = .ok (.goto (-22), 3) := by decide +kernel
theorem dX12_addsShow_27 : decode cX12_addsShow 27 = .ok (.aload_n 0, 1) := by decide +kernel
theorem dX12_addsShow_28 : decode cX12_addsShow 28 = .ok (.getfield 98, 3) := by decide +kernel
theorem dX12_addsShow_31 : decode cX12_addsShow 31 = .ok (.aload_n 0, 1) := by decide +kernel
theorem dX12_addsShow_32 : decode cX12_addsShow 32 = .ok (.getfield 370, 3) := by decide +kernel
theorem dX12_addsShow_35 : decode cX12_addsShow 35 = .ok (.iload_n 1, 1) := by decide +kernel
theorem dX12_addsShow_36 : decode cX12_addsShow 36 = .ok (.iastore, 1) := by decide +kernel
theorem dX12_addsShow_37 : decode cX12_addsShow 37 = .ok (.aload_n 0, 1) := by decide +kernel
theorem dX12_addsShow_38 : decode cX12_addsShow 38 = .ok (.aload_n 0, 1) := by decide +kernel
theorem dX12_addsShow_39 : decode cX12_addsShow 39 = .ok (.getfield 370, 3) := by decide +kernel
theorem dX12_addsShow_42 : decode cX12_addsShow 42 = .ok (.iconst 1, 1) := by decide +kernel
theorem dX12_addsShow_43 : decode cX12_addsShow 43 = .ok (.iadd, 1) := by decide +kernel
theorem dX12_addsShow_44 : decode cX12_addsShow 44 = .ok (.putfield 370, 3) := by decide +kernel
theorem dX12_addsShow_47 : decode cX12_addsShow 47 = .ok (.return_, 1) := by decide +kernel
theorem dX12_allLines_0 : decode cX12_allLines 0 = .ok (.iconst 1, 1) := by decide +kernel
theorem dX12_allLines_1 : decode cX12_allLines 1 = .ok (.aload_n 0, 1) := by decide +kernel
theorem dX12_allLines_2 : decode cX12_allLines 2 = .ok (.getfield 145, 3) := by decide +kernel
theorem dX12_allLines_5 : decode cX12_allLines 5 = .ok (.ishl, 1) := by decide +kernel
theorem dX12_allLines_6 : decode cX12_allLines 6 = .ok (.iconst 1, 1) := by decide +kernel
theorem dX12_allLines_7 : decode cX12_allLines 7 = .ok (.isub, 1) := by decide +kernel
theorem dX12_allLines_8 : decode cX12_allLines 8 = .ok (.ireturn, 1) := by decide +kernel
theorem dX12_anew_0 : decode cX12_anew 0 = .ok (.aload_n 0, 1) := by decide +kernel
theorem dX12_anew_1 : decode cX12_anew 1 = .ok (.iload_n 1, 1) := by decide +kernel
theorem dX12_anew_2 : decode cX12_anew 2 = .ok (.invokevirtual 209, 3) := by decide +kernel
theorem dX12_anew_5 : decode cX12_anew 5 = .ok (.ifCond .eq 32, 3) := by decide +kernel
theorem dX12_anew_8 : decode cX12_anew 8 = .ok (.iload_n 2, 1) := by decide +kernel
theorem dX12_anew_9 : decode cX12_anew 9 = .ok (.ifCond .lt 28, 3) := by decide +kernel
theorem dX12_anew_12 : decode cX12_anew 12 = .ok (.iload_n 2, 1) := by decide +kernel
theorem dX12_anew_13 : decode cX12_anew 13 = .ok (.aload_n 0, 1) := by decide +kernel
theorem dX12_anew_14 : decode cX12_anew 14 = .ok (.invokevirtual 337, 3) := by decide +kernel
theorem dX12_anew_17 : decode cX12_anew 17 = .ok (.if_icmp .gt 20, 3) := by decide +kernel
theorem dX12_anew_20 : decode cX12_anew 20 = .ok (.iload_n 2, 1) := by decide +kernel
theorem dX12_anew_21 : decode cX12_anew 21 = .ok (.iload_n 1, 1) := by decide +kernel
theorem dX12_anew_22 : decode cX12_anew 22 = .ok (.invokestatic 327, 3) := by decide +kernel
theorem dX12_anew_25 : decode cX12_anew 25 = .ok (.ifCond .ne 12, 3) := by decide +kernel
theorem dX12_anew_28 : decode cX12_anew 28 = .ok (.iload_n 3, 1) := by decide +kernel
theorem dX12_anew_29 : decode cX12_anew 29 = .ok (.iconst 0, 1) := by decide +kernel
theorem dX12_anew_30 : decode cX12_anew 30 = .ok (.iconst 1, 1) := by decide +kernel
theorem dX12_anew_31 : decode cX12_anew 31 = .ok (.invokestatic 141, 3) := by decide +kernel
theorem dX12_anew_34 : decode cX12_anew 34 = .ok (.ifCond .ne 5, 3) := by decide +kernel
theorem dX12_anew_37 : decode cX12_anew 37 = .ok (.iconst (-1), 1) := by decide +kernel
theorem dX12_anew_38 : decode cX12_anew 38 = .ok (.ireturn, 1) := by decide +kernel
theorem dX12_anew_39 : decode cX12_anew 39 = .ok (.iconst 0, 1) := by decide +kernel
theorem dX12_anew_40 : decode cX12_anew 40 = .ok (.istore 4, 2) := by decide +kernel
theorem dX12_anew_42 : decode cX12_anew 42 = .ok (.iconst 0, 1) := by decide +kernel
theorem dX12_anew_43 : decode cX12_anew 43 = .ok (.istore 5, 2) := by decide +kernel
theorem dX12_anew_45 : decode cX12_anew 45 = .ok (.iload 5, 2) := by decide +kernel
theorem dX12_anew_47 : decode cX12_anew 47 = .ok (.aload_n 0, 1) := by decide +kernel
theorem dX12_anew_48 : decode cX12_anew 48 = .ok (.getfield 145, 3) := by decide +kernel
theorem dX12_anew_51 : decode cX12_anew 51 = .ok (.if_icmp .ge 53, 3) := by decide +kernel
theorem dX12_anew_54 : decode cX12_anew 54 = .ok (.aload_n 0, 1) := by decide +kernel
theorem dX12_anew_55 : decode cX12_anew 55 = .ok (.iload_n 1, 1) := by decide +kernel
theorem dX12_anew_56 : decode cX12_anew 56 = .ok (.iconst 0, 1) := by decide +kernel
theorem dX12_anew_57 : decode cX12_anew 57 = .ok (.invokevirtual 364, 3) := by decide +kernel
theorem dX12_anew_60 : decode cX12_anew 60 = .ok (.iload 5, 2) := by decide +kernel
theorem dX12_anew_62 : decode cX12_anew 62 = .ok (.invokestatic 327, 3) := by decide +kernel
theorem dX12_anew_65 : decode cX12_anew 65 = .ok (.ifCond .eq 33, 3) := by decide +kernel
theorem dX12_anew_68 : decode cX12_anew 68 = .ok (.iload_n 2, 1) := by decide +kernel
theorem dX12_anew_69 : decode cX12_anew 69 = .ok (.iload 5, 2) := by decide +kernel
theorem dX12_anew_71 : decode cX12_anew 71 = .ok (.invokestatic 327, 3) := by decide +kernel
theorem dX12_anew_74 : decode cX12_anew 74 = .ok (.ifCond .ne 24, 3) := by decide +kernel
theorem dX12_anew_77 : decode cX12_anew 77 = .ok (.aload_n 0, 1) := by decide +kernel
theorem dX12_anew_78 : decode cX12_anew 78 = .ok (.iload 5, 2) := by decide +kernel
theorem dX12_anew_80 : decode cX12_anew 80 = .ok (.iconst 0, 1) := by decide +kernel
theorem dX12_anew_81 : decode cX12_anew 81 = .ok (.invokevirtual 364, 3) := by decide +kernel
theorem dX12_anew_84 : decode cX12_anew 84 = .ok (.iload_n 2, 1) := by decide +kernel
theorem dX12_anew_85 : decode cX12_anew 85 = .ok (.iand, 1) := by decide +kernel
theorem dX12_anew_86 : decode cX12_anew 86 = .ok (.ifCond .eq 12, 3) := by decide +kernel
theorem dX12_anew_89 : decode cX12_anew 89 = .ok (.iload 4, 2) := by decide +kernel
theorem dX12_anew_91 : decode cX12_anew 91 = .ok (.iconst 1, 1) := by decide +kernel
theorem dX12_anew_92 : decode cX12_anew 92 = .ok (.iload 5, 2) := by decide +kernel
theorem dX12_anew_94 : decode cX12_anew 94 = .ok (.ishl, 1) := by decide +kernel
theorem dX12_anew_95 : decode cX12_anew 95 = .ok (.ior, 1) := by decide +kernel
theorem dX12_anew_96 : decode cX12_anew 96 = .ok (.istore 4, 2) := by decide +kernel
theorem dX12_anew_98 : decode cX12_anew 98 = .ok (.iinc 5 1, 3) := by decide +kernel
theorem dX12_anew_101 : decode cX12_anew 101 = .ok (.goto (-56), 3) := by decide +kernel
theorem dX12_anew_104 : decode cX12_anew 104 = .ok (.iconst 0, 1) := by decide +kernel
theorem dX12_anew_105 : decode cX12_anew 105 = .ok (.istore 5, 2) := by decide +kernel
theorem dX12_anew_107 : decode cX12_anew 107 = .ok (.iload 5, 2) := by decide +kernel
theorem dX12_anew_109 : decode cX12_anew 109 = .ok (.aload_n 0, 1) := by decide +kernel
theorem dX12_anew_110 : decode cX12_anew 110 = .ok (.getfield 145, 3) := by decide +kernel
theorem dX12_anew_113 : decode cX12_anew 113 = .ok (.if_icmp .ge 31, 3) := by decide +kernel
theorem dX12_anew_116 : decode cX12_anew 116 = .ok (.iload_n 2, 1) := by decide +kernel
theorem dX12_anew_117 : decode cX12_anew 117 = .ok (.iload 5, 2) := by decide +kernel
theorem dX12_anew_119 : decode cX12_anew 119 = .ok (.invokestatic 327, 3) := by decide +kernel
theorem dX12_anew_122 : decode cX12_anew 122 = .ok (.ifCond .eq 16, 3) := by decide +kernel
theorem dX12_anew_125 : decode cX12_anew 125 = .ok (.aload_n 0, 1) := by decide +kernel
theorem dX12_anew_126 : decode cX12_anew 126 = .ok (.iload 5, 2) := by decide +kernel
theorem dX12_anew_128 : decode cX12_anew 128 = .ok (.iload_n 1, 1) := by decide +kernel
theorem dX12_anew_129 : decode cX12_anew 129 = .ok (.invokevirtual 206, 3) := by decide +kernel
theorem dX12_anew_132 : decode cX12_anew 132 = .ok (.ifCond .eq 6, 3) := by decide +kernel
theorem dX12_anew_135 : decode cX12_anew 135 = .ok (.bipush (-2), 2) := by decide +kernel
theorem dX12_anew_137 : decode cX12_anew 137 = .ok (.ireturn, 1) := by decide +kernel
theorem dX12_anew_138 : decode cX12_anew 138 = .ok (.iinc 5 1, 3) := by decide +kernel
theorem dX12_anew_141 : decode cX12_anew 141 = .ok (.goto (-34), 3) := by decide +kernel
theorem dX12_anew_144 : decode cX12_anew 144 = .ok (.iconst (-1), 1) := by decide +kernel
theorem dX12_anew_145 : decode cX12_anew 145 = .ok (.istore 5, 2) := by decide +kernel
theorem dX12_anew_147 : decode cX12_anew 147 = .ok (.iconst 0, 1) := by decide +kernel
theorem dX12_anew_148 : decode cX12_anew 148 = .ok (.istore 6, 2) := by decide +kernel
theorem dX12_anew_150 : decode cX12_anew 150 = .ok (.iload 6, 2) := by decide +kernel
theorem dX12_anew_152 : decode cX12_anew 152 = .ok (.iload 4, 2) := by decide +kernel
theorem dX12_anew_154 : decode cX12_anew 154 = .ok (.if_icmp .gt 54, 3) := by decide +kernel
theorem dX12_anew_157 : decode cX12_anew 157 = .ok (.iload 6, 2) := by decide +kernel
theorem dX12_anew_159 : decode cX12_anew 159 = .ok (.iload 4, 2) := by decide +kernel
theorem dX12_anew_161 : decode cX12_anew 161 = .ok (.iconst (-1), 1) := by decide +kernel
theorem dX12_anew_162 : decode cX12_anew 162 = .ok (.ixor, 1) := by decide +kernel
theorem dX12_anew_163 : decode cX12_anew 163 = .ok (.iand, 1) := by decide +kernel
theorem dX12_anew_164 : decode cX12_anew 164 = .ok (.ifCond .ne 38, 3) := by decide +kernel
theorem dX12_anew_167 : decode cX12_anew 167 = .ok (.iload 5, 2) := by decide +kernel
theorem dX12_anew_169 : decode cX12_anew 169 = .ok (.iconst (-1), 1) := by decide +kernel
theorem dX12_anew_170 : decode cX12_anew 170 = .ok (.if_icmp .eq 16, 3) := by decide +kernel
theorem dX12_anew_173 : decode cX12_anew 173 = .ok (.iload 6, 2) := by decide +kernel
theorem dX12_anew_175 : decode cX12_anew 175 = .ok (.invokestatic 340, 3) := by decide +kernel
theorem dX12_anew_178 : decode cX12_anew 178 = .ok (.iload 5, 2) := by decide +kernel
theorem dX12_anew_180 : decode cX12_anew 180 = .ok (.invokestatic 340, 3) := by decide +kernel
theorem dX12_anew_183 : decode cX12_anew 183 = .ok (.if_icmp .ge 19, 3) := by decide +kernel
theorem dX12_anew_186 : decode cX12_anew 186 = .ok (.aload_n 0, 1) := by decide +kernel
theorem dX12_anew_187 : decode cX12_anew 187 = .ok (.iload_n 1, 1) := by decide +kernel
theorem dX12_anew_188 : decode cX12_anew 188 = .ok (.iload 6, 2) := by decide +kernel
theorem dX12_anew_190 : decode cX12_anew 190 = .ok (.invokevirtual 364, 3) := by decide +kernel
theorem dX12_anew_193 : decode cX12_anew 193 = .ok (.iload_n 2, 1) := by decide +kernel
theorem dX12_anew_194 : decode cX12_anew 194 = .ok (.iand, 1) := by decide +kernel
theorem dX12_anew_195 : decode cX12_anew 195 = .ok (.ifCond .ne 7, 3) := by decide +kernel
theorem dX12_anew_198 : decode cX12_anew 198 = .ok (.iload 6, 2) := by decide +kernel
theorem dX12_anew_200 : decode cX12_anew 200 = .ok (.istore 5, 2) := by decide +kernel
theorem dX12_anew_202 : decode cX12_anew 202 = .ok (.iinc 6 1, 3) := by decide +kernel
theorem dX12_anew_205 : decode cX12_anew 205 = .ok (.goto (-55), 3) := by decide +kernel
theorem dX12_anew_208 : decode cX12_anew 208 = .ok (.iload 5, 2) := by decide +kernel
theorem dX12_anew_210 : decode cX12_anew 210 = .ok (.iconst (-1), 1) := by decide +kernel
theorem dX12_anew_211 : decode cX12_anew 211 = .ok (.if_icmp .ne 8, 3) := by decide +kernel
theorem dX12_anew_214 : decode cX12_anew 214 = .ok (.bipush (-2), 2) := by decide +kernel
theorem dX12_anew_216 : decode cX12_anew 216 = .ok (.goto 17, 3) := by decide +kernel
theorem dX12_anew_219 : decode cX12_anew 219 = .ok (.iload_n 3, 1) := by decide +kernel
theorem dX12_anew_220 : decode cX12_anew 220 = .ok (.ifCond .ne 11, 3) := by decide +kernel
theorem dX12_anew_223 : decode cX12_anew 223 = .ok (.iload 5, 2) := by decide +kernel
theorem dX12_anew_225 : decode cX12_anew 225 = .ok (.invokestatic 340, 3) := by decide +kernel
theorem dX12_anew_228 : decode cX12_anew 228 = .ok (.goto 5, 3) := by decide +kernel
theorem dX12_anew_231 : decode cX12_anew 231 = .ok (.iload 5, 2) := by decide +kernel
theorem dX12_anew_233 : decode cX12_anew 233 = .ok (.ireturn, 1) := by decide +kernel
theorem dX12_author_0 : decode cX12_author 0 = .ok (.iload_n 1, 1) := by decide +kernel
theorem dX12_author_1 : decode cX12_author 1 = .ok (.iconst 1, 1) := by decide +kernel
theorem dX12_author_2 : decode cX12_author 2 = .ok (.iconst 5, 1) := by decide +kernel
theorem dX12_author_3 : decode cX12_author 3 = .ok (.invokestatic 141, 3) := by decide +kernel
theorem dX12_author_6 : decode cX12_author 6 = .ok (.ifCond .eq 32, 3) := by decide +kernel
theorem dX12_author_9 : decode cX12_author 9 = .ok (.iload_n 2, 1) := by decide +kernel
theorem dX12_author_10 : decode cX12_author 10 = .ok (.iconst 0, 1) := by decide +kernel
theorem dX12_author_11 : decode cX12_author 11 = .ok (.iconst 2, 1) := by decide +kernel
theorem dX12_author_12 : decode cX12_author 12 = .ok (.invokestatic 141, 3) := by decide +kernel
theorem dX12_author_15 : decode cX12_author 15 = .ok (.ifCond .eq 23, 3) := by decide +kernel
theorem dX12_author_18 : decode cX12_author 18 = .ok (.aload_n 0, 1) := by decide +kernel
theorem dX12_author_19 : decode cX12_author 19 = .ok (.getfield 145, 3) := by decide +kernel
theorem dX12_author_22 : decode cX12_author 22 = .ok (.ifCond .eq 16, 3) := by decide +kernel
theorem dX12_author_25 : decode cX12_author 25 = .ok (.iload_n 1, 1) := by decide +kernel
theorem dX12_author_26 : decode cX12_author 26 = .ok (.aload_n 0, 1) := by decide +kernel
theorem dX12_author_27 : decode cX12_author 27 = .ok (.getfield 145, 3) := by decide +kernel
theorem dX12_author_30 : decode cX12_author 30 = .ok (.imul, 1) := by decide +kernel
theorem dX12_author_31 : decode cX12_author 31 = .ok (.aload_n 0, 1) := by decide +kernel
theorem dX12_author_32 : decode cX12_author 32 = .ok (.getfield 148, 3) := by decide +kernel
theorem dX12_author_35 : decode cX12_author 35 = .ok (.if_icmp .le 5, 3) := by decide +kernel
theorem dX12_author_38 : decode cX12_author 38 = .ok (.iconst (-1), 1) := by decide +kernel
theorem dX12_author_39 : decode cX12_author 39 = .ok (.ireturn, 1) := by decide +kernel
theorem dX12_author_40 : decode cX12_author 40 = .ok (.aload_n 0, 1) := by decide +kernel
theorem dX12_author_41 : decode cX12_author 41 = .ok (.iconst 0, 1) := by decide +kernel
theorem dX12_author_42 : decode cX12_author 42 = .ok (.putfield 148, 3) := by decide +kernel
theorem dX12_author_45 : decode cX12_author 45 = .ok (.iconst 0, 1) := by decide +kernel
theorem dX12_author_46 : decode cX12_author 46 = .ok (.istore_n 3, 1) := by decide +kernel
theorem dX12_author_47 : decode cX12_author 47 = .ok (.iload_n 3, 1) := by decide +kernel
theorem dX12_author_48 : decode cX12_author 48 = .ok (.iload_n 1, 1) := by decide +kernel
theorem dX12_author_49 : decode cX12_author 49 = .ok (.aload_n 0, 1) := by decide +kernel
theorem dX12_author_50 : decode cX12_author 50 = .ok (.getfield 145, 3) := by decide +kernel
theorem dX12_author_53 : decode cX12_author 53 = .ok (.imul, 1) := by decide +kernel
theorem dX12_author_54 : decode cX12_author 54 = .ok (.if_icmp .ge 25, 3) := by decide +kernel
theorem dX12_author_57 : decode cX12_author 57 = .ok (.aload_n 0, 1) := by decide +kernel
theorem dX12_author_58 : decode cX12_author 58 = .ok (.getfield 110, 3) := by decide +kernel
theorem dX12_author_61 : decode cX12_author 61 = .ok (.iload_n 3, 1) := by decide +kernel
theorem dX12_author_62 : decode cX12_author 62 = .ok (.aload_n 0, 1) := by decide +kernel
theorem dX12_author_63 : decode cX12_author 63 = .ok (.getfield 28, 3) := by decide +kernel
theorem dX12_author_66 : decode cX12_author 66 = .ok (.iload_n 3, 1) := by decide +kernel
theorem dX12_author_67 : decode cX12_author 67 = .ok (.baload, 1) := by decide +kernel
theorem dX12_author_68 : decode cX12_author 68 = .ok (.sipush 255, 3) := by decide +kernel
theorem dX12_author_71 : decode cX12_author 71 = .ok (.iand, 1) := by decide +kernel
theorem dX12_author_72 : decode cX12_author 72 = .ok (.iastore, 1) := by decide +kernel
theorem dX12_author_73 : decode cX12_author 73 = .ok (.iinc 3 1, 3) := by decide +kernel
theorem dX12_author_76 : decode cX12_author 76 = .ok (.goto (-29), 3) := by decide +kernel
theorem dX12_author_79 : decode cX12_author 79 = .ok (.aload_n 0, 1) := by decide +kernel
theorem dX12_author_80 : decode cX12_author 80 = .ok (.invokevirtual 212, 3) := by decide +kernel
theorem dX12_author_83 : decode cX12_author 83 = .ok (.iconst 0, 1) := by decide +kernel
theorem dX12_author_84 : decode cX12_author 84 = .ok (.istore_n 3, 1) := by decide +kernel
theorem dX12_author_85 : decode cX12_author 85 = .ok (.iconst (-1), 1) := by decide +kernel
theorem dX12_author_86 : decode cX12_author 86 = .ok (.istore 4, 2) := by decide +kernel
theorem dX12_author_88 : decode cX12_author 88 = .ok (.iconst 0, 1) := by decide +kernel
theorem dX12_author_89 : decode cX12_author 89 = .ok (.istore 5, 2) := by decide +kernel
theorem dX12_author_91 : decode cX12_author 91 = .ok (.iload 5, 2) := by decide +kernel
theorem dX12_author_93 : decode cX12_author 93 = .ok (.aload_n 0, 1) := by decide +kernel
theorem dX12_author_94 : decode cX12_author 94 = .ok (.getfield 145, 3) := by decide +kernel
theorem dX12_author_97 : decode cX12_author 97 = .ok (.aload_n 0, 1) := by decide +kernel
theorem dX12_author_98 : decode cX12_author 98 = .ok (.getfield 134, 3) := by decide +kernel
theorem dX12_author_101 : decode cX12_author 101 = .ok (.imul, 1) := by decide +kernel
theorem dX12_author_102 : decode cX12_author 102 = .ok (.if_icmp .ge 125, 3) := by decide +kernel
theorem dX12_author_105 : decode cX12_author 105 = .ok (.iload 5, 2) := by decide +kernel
theorem dX12_author_107 : decode cX12_author 107 = .ok (.aload_n 0, 1) := by decide +kernel
theorem dX12_author_108 : decode cX12_author 108 = .ok (.getfield 134, 3) := by decide +kernel
theorem dX12_author_111 : decode cX12_author 111 = .ok (.idiv, 1) := by decide +kernel
theorem dX12_author_112 : decode cX12_author 112 = .ok (.istore 6, 2) := by decide +kernel
theorem dX12_author_114 : decode cX12_author 114 = .ok (.iload 5, 2) := by decide +kernel
theorem dX12_author_116 : decode cX12_author 116 = .ok (.aload_n 0, 1) := by decide +kernel
theorem dX12_author_117 : decode cX12_author 117 = .ok (.getfield 134, 3) := by decide +kernel
theorem dX12_author_120 : decode cX12_author 120 = .ok (.irem, 1) := by decide +kernel
theorem dX12_author_121 : decode cX12_author 121 = .ok (.aload_n 0, 1) := by decide +kernel
theorem dX12_author_122 : decode cX12_author 122 = .ok (.getfield 44, 3) := by decide +kernel
theorem dX12_author_125 : decode cX12_author 125 = .ok (.iload 6, 2) := by decide +kernel
theorem dX12_author_127 : decode cX12_author 127 = .ok (.iaload, 1) := by decide +kernel
theorem dX12_author_128 : decode cX12_author 128 = .ok (.if_icmp .ne 6, 3) := by decide +kernel
theorem dX12_author_131 : decode cX12_author 131 = .ok (.goto 90, 3) := by decide +kernel
theorem dX12_author_134 : decode cX12_author 134 = .ok (.aload_n 0, 1) := by decide +kernel
theorem dX12_author_135 : decode cX12_author 135 = .ok (.aload_n 0, 1) := by decide +kernel
theorem dX12_author_136 : decode cX12_author 136 = .ok (.getfield 44, 3) := by decide +kernel
theorem dX12_author_139 : decode cX12_author 139 = .ok (.aload_n 0, 1) := by decide +kernel
theorem dX12_author_140 : decode cX12_author 140 = .ok (.getfield 47, 3) := by decide +kernel
theorem dX12_author_143 : decode cX12_author 143 = .ok (.iload 6, 2) := by decide +kernel
theorem dX12_author_145 : decode cX12_author 145 = .ok (.iload 5, 2) := by decide +kernel
theorem dX12_author_147 : decode cX12_author 147 = .ok (.aload_n 0, 1) := by decide +kernel
theorem dX12_author_148 : decode cX12_author 148 = .ok (.getfield 134, 3) := by decide +kernel
theorem dX12_author_151 : decode cX12_author 151 = .ok (.irem, 1) := by decide +kernel
theorem dX12_author_152 : decode cX12_author 152 = .ok (.invokevirtual 228, 3) := by decide +kernel
theorem dX12_author_155 : decode cX12_author 155 = .ok (.iconst 1, 1) := by decide +kernel
theorem dX12_author_156 : decode cX12_author 156 = .ok (.istore 7, 2) := by decide +kernel
theorem dX12_author_158 : decode cX12_author 158 = .ok (.iconst 0, 1) := by decide +kernel
theorem dX12_author_159 : decode cX12_author 159 = .ok (.istore 8, 2) := by decide +kernel
theorem dX12_author_161 : decode cX12_author 161 = .ok (.iload 8, 2) := by decide +kernel
theorem dX12_author_163 : decode cX12_author 163 = .ok (.iload_n 1, 1) := by decide +kernel
theorem dX12_author_164 : decode cX12_author 164 = .ok (.if_icmp .ge 30, 3) := by decide +kernel
theorem dX12_author_167 : decode cX12_author 167 = .ok (.iload 7, 2) := by decide +kernel
theorem dX12_author_169 : decode cX12_author 169 = .ok (.ifCond .eq 16, 3) := by decide +kernel
theorem dX12_author_172 : decode cX12_author 172 = .ok (.aload_n 0, 1) := by decide +kernel
theorem dX12_author_173 : decode cX12_author 173 = .ok (.iload 8, 2) := by decide +kernel
theorem dX12_author_175 : decode cX12_author 175 = .ok (.invokevirtual 396, 3) := by decide +kernel
theorem dX12_author_178 : decode cX12_author 178 = .ok (.ifCond .eq 7, 3) := by decide +kernel
theorem dX12_author_181 : decode cX12_author 181 = .ok (.iconst 1, 1) := by decide +kernel
theorem dX12_author_182 : decode cX12_author 182 = .ok (.goto 4, 3) := by decide +kernel
theorem dX12_author_185 : decode cX12_author 185 = .ok (.iconst 0, 1) := by decide +kernel
theorem dX12_author_186 : decode cX12_author 186 = .ok (.istore 7, 2) := by decide +kernel
theorem dX12_author_188 : decode cX12_author 188 = .ok (.iinc 8 1, 3) := by decide +kernel
theorem dX12_author_191 : decode cX12_author 191 = .ok (.goto (-30), 3) := by decide +kernel
theorem dX12_author_194 : decode cX12_author 194 = .ok (.iload 7, 2) := by decide +kernel
theorem dX12_author_196 : decode cX12_author 196 = .ok (.ifCond .ne 6, 3) := by decide +kernel
theorem dX12_author_199 : decode cX12_author 199 = .ok (.goto 22, 3) := by decide +kernel
theorem dX12_author_202 : decode cX12_author 202 = .ok (.iload 4, 2) := by decide +kernel
theorem dX12_author_204 : decode cX12_author 204 = .ok (.iconst (-1), 1) := by decide +kernel
theorem dX12_author_205 : decode cX12_author 205 = .ok (.if_icmp .ne 8, 3) := by decide +kernel
theorem dX12_author_208 : decode cX12_author 208 = .ok (.iload 5, 2) := by decide +kernel
theorem dX12_author_210 : decode cX12_author 210 = .ok (.goto 5, 3) := by decide +kernel
theorem dX12_author_213 : decode cX12_author 213 = .ok (.iload 4, 2) := by decide +kernel
theorem dX12_author_215 : decode cX12_author 215 = .ok (.istore 4, 2) := by decide +kernel
theorem dX12_author_217 : decode cX12_author 217 = .ok (.iload_n 3, 1) := by decide +kernel
theorem dX12_author_218 : decode cX12_author 218 = .ok (.iconst 1, 1) := by decide +kernel
theorem dX12_author_219 : decode cX12_author 219 = .ok (.iadd, 1) := by decide +kernel
theorem dX12_author_220 : decode cX12_author 220 = .ok (.istore_n 3, 1) := by decide +kernel
theorem dX12_author_221 : decode cX12_author 221 = .ok (.iinc 5 1, 3) := by decide +kernel
theorem dX12_author_224 : decode cX12_author 224 = .ok (.goto (-133), 3) := by decide +kernel
theorem dX12_author_227 : decode cX12_author 227 = .ok (.iload_n 2, 1) := by decide +kernel
theorem dX12_author_228 : decode cX12_author 228 = .ok (.ifCond .ne 7, 3) := by decide +kernel
theorem dX12_author_231 : decode cX12_author 231 = .ok (.iload_n 3, 1) := by decide +kernel
theorem dX12_author_232 : decode cX12_author 232 = .ok (.goto 36, 3) := by decide +kernel
theorem dX12_author_235 : decode cX12_author 235 = .ok (.iload 4, 2) := by decide +kernel
theorem dX12_author_237 : decode cX12_author 237 = .ok (.iconst (-1), 1) := by decide +kernel
theorem dX12_author_238 : decode cX12_author 238 = .ok (.if_icmp .ne 8, 3) := by decide +kernel
theorem dX12_author_241 : decode cX12_author 241 = .ok (.bipush (-2), 2) := by decide +kernel
theorem dX12_author_243 : decode cX12_author 243 = .ok (.goto 25, 3) := by decide +kernel
theorem dX12_author_246 : decode cX12_author 246 = .ok (.iload_n 2, 1) := by decide +kernel
theorem dX12_author_247 : decode cX12_author 247 = .ok (.iconst 1, 1) := by decide +kernel
theorem dX12_author_248 : decode cX12_author 248 = .ok (.if_icmp .ne 13, 3) := by decide +kernel
theorem dX12_author_251 : decode cX12_author 251 = .ok (.iload 4, 2) := by decide +kernel
theorem dX12_author_253 : decode cX12_author 253 = .ok (.aload_n 0, 1) := by decide +kernel
theorem dX12_author_254 : decode cX12_author 254 = .ok (.getfield 134, 3) := by decide +kernel
theorem dX12_author_257 : decode cX12_author 257 = .ok (.idiv, 1) := by decide +kernel
theorem dX12_author_258 : decode cX12_author 258 = .ok (.goto 10, 3) := by decide +kernel
theorem dX12_author_261 : decode cX12_author 261 = .ok (.iload 4, 2) := by decide +kernel
theorem dX12_author_263 : decode cX12_author 263 = .ok (.aload_n 0, 1) := by decide +kernel
theorem dX12_author_264 : decode cX12_author 264 = .ok (.getfield 134, 3) := by decide +kernel
theorem dX12_author_267 : decode cX12_author 267 = .ok (.irem, 1) := by decide +kernel
theorem dX12_author_268 : decode cX12_author 268 = .ok (.ireturn, 1) := by decide +kernel
theorem dX12_axiom_0 : decode cX12_axiom 0 = .ok (.iload_n 1, 1) := by decide +kernel
theorem dX12_axiom_1 : decode cX12_axiom 1 = .ok (.iconst 0, 1) := by decide +kernel
theorem dX12_axiom_2 : decode cX12_axiom 2 = .ok (.bipush 9, 2) := by decide +kernel
theorem dX12_axiom_4 : decode cX12_axiom 4 = .ok (.invokestatic 141, 3) := by decide +kernel
theorem dX12_axiom_7 : decode cX12_axiom 7 = .ok (.ifCond .eq 17, 3) := by decide +kernel
theorem dX12_axiom_10 : decode cX12_axiom 10 = .ok (.iload_n 2, 1) := by decide +kernel
theorem dX12_axiom_11 : decode cX12_axiom 11 = .ok (.iconst 0, 1) := by decide +kernel
theorem dX12_axiom_12 : decode cX12_axiom 12 = .ok (.aload_n 0, 1) := by decide +kernel
theorem dX12_axiom_13 : decode cX12_axiom 13 = .ok (.getfield 134, 3) := by decide +kernel
theorem dX12_axiom_16 : decode cX12_axiom 16 = .ok (.iconst 1, 1) := by decide +kernel
theorem dX12_axiom_17 : decode cX12_axiom 17 = .ok (.isub, 1) := by decide +kernel
theorem dX12_axiom_18 : decode cX12_axiom 18 = .ok (.invokestatic 141, 3) := by decide +kernel
theorem dX12_axiom_21 : decode cX12_axiom 21 = .ok (.ifCond .ne 5, 3) := by decide +kernel
theorem dX12_axiom_24 : decode cX12_axiom 24 = .ok (.iconst 0, 1) := by decide +kernel
theorem dX12_axiom_25 : decode cX12_axiom 25 = .ok (.ireturn, 1) := by decide +kernel
theorem dX12_axiom_26 : decode cX12_axiom 26 = .ok (.aload_n 0, 1) := by decide +kernel
theorem dX12_axiom_27 : decode cX12_axiom 27 = .ok (.getfield 7, 3) := by decide +kernel
theorem dX12_axiom_30 : decode cX12_axiom 30 = .ok (.iload_n 1, 1) := by decide +kernel
theorem dX12_axiom_31 : decode cX12_axiom 31 = .ok (.iload_n 2, 1) := by decide +kernel
theorem dX12_axiom_32 : decode cX12_axiom 32 = .ok (.iastore, 1) := by decide +kernel
theorem dX12_axiom_33 : decode cX12_axiom 33 = .ok (.iconst 1, 1) := by decide +kernel
theorem dX12_axiom_34 : decode cX12_axiom 34 = .ok (.ireturn, 1) := by decide +kernel
theorem dX12_bits_0 : decode cX12_bits 0 = .ok (.iconst 0, 1) := by decide +kernel
theorem dX12_bits_1 : decode cX12_bits 1 = .ok (.istore_n 1, 1) := by decide +kernel
theorem dX12_bits_2 : decode cX12_bits 2 = .ok (.iconst 0, 1) := by decide +kernel
theorem dX12_bits_3 : decode cX12_bits 3 = .ok (.istore_n 2, 1) := by decide +kernel
theorem dX12_bits_4 : decode cX12_bits 4 = .ok (.iload_n 2, 1) := by decide +kernel
theorem dX12_bits_5 : decode cX12_bits 5 = .ok (.bipush 20, 2) := by decide +kernel
theorem dX12_bits_7 : decode cX12_bits 7 = .ok (.if_icmp .ge 17, 3) := by decide +kernel
theorem dX12_bits_10 : decode cX12_bits 10 = .ok (.iload_n 1, 1) := by decide +kernel
theorem dX12_bits_11 : decode cX12_bits 11 = .ok (.iload_n 0, 1) := by decide +kernel
theorem dX12_bits_12 : decode cX12_bits 12 = .ok (.iload_n 2, 1) := by decide +kernel
theorem dX12_bits_13 : decode cX12_bits 13 = .ok (.ishr, 1) := by decide +kernel
theorem dX12_bits_14 : decode cX12_bits 14 = .ok (.iconst 1, 1) := by decide +kernel
theorem dX12_bits_15 : decode cX12_bits 15 = .ok (.iand, 1) := by decide +kernel
theorem dX12_bits_16 : decode cX12_bits 16 = .ok (.iadd, 1) := by decide +kernel
theorem dX12_bits_17 : decode cX12_bits 17 = .ok (.istore_n 1, 1) := by decide +kernel
theorem dX12_bits_18 : decode cX12_bits 18 = .ok (.iinc 2 1, 3) := by decide +kernel
theorem dX12_bits_21 : decode cX12_bits 21 = .ok (.goto (-17), 3) := by decide +kernel
theorem dX12_bits_24 : decode cX12_bits 24 = .ok (.iload_n 1, 1) := by decide +kernel
theorem dX12_bits_25 : decode cX12_bits 25 = .ok (.ireturn, 1) := by decide +kernel
theorem dX12_blind_0 : decode cX12_blind 0 = .ok (.aload_n 0, 1) := by decide +kernel
theorem dX12_blind_1 : decode cX12_blind 1 = .ok (.iload_n 1, 1) := by decide +kernel
theorem dX12_blind_2 : decode cX12_blind 2 = .ok (.invokevirtual 209, 3) := by decide +kernel
theorem dX12_blind_5 : decode cX12_blind 5 = .ok (.ifCond .ne 5, 3) := by decide +kernel
theorem dX12_blind_8 : decode cX12_blind 8 = .ok (.iconst (-1), 1) := by decide +kernel
theorem dX12_blind_9 : decode cX12_blind 9 = .ok (.ireturn, 1) := by decide +kernel
theorem dX12_blind_10 : decode cX12_blind 10 = .ok (.aload_n 0, 1) := by decide +kernel
theorem dX12_blind_11 : decode cX12_blind 11 = .ok (.invokevirtual 212, 3) := by decide +kernel
theorem dX12_blind_14 : decode cX12_blind 14 = .ok (.iconst 0, 1) := by decide +kernel
theorem dX12_blind_15 : decode cX12_blind 15 = .ok (.istore_n 2, 1) := by decide +kernel
theorem dX12_blind_16 : decode cX12_blind 16 = .ok (.iconst 0, 1) := by decide +kernel
theorem dX12_blind_17 : decode cX12_blind 17 = .ok (.istore_n 3, 1) := by decide +kernel
theorem dX12_blind_18 : decode cX12_blind 18 = .ok (.iload_n 3, 1) := by decide +kernel
theorem dX12_blind_19 : decode cX12_blind 19 = .ok (.aload_n 0, 1) := by decide +kernel
theorem dX12_blind_20 : decode cX12_blind 20 = .ok (.getfield 134, 3) := by decide +kernel
theorem dX12_blind_23 : decode cX12_blind 23 = .ok (.if_icmp .ge 66, 3) := by decide +kernel
theorem dX12_blind_26 : decode cX12_blind 26 = .ok (.aload_n 0, 1) := by decide +kernel
theorem dX12_blind_27 : decode cX12_blind 27 = .ok (.aload_n 0, 1) := by decide +kernel
theorem dX12_blind_28 : decode cX12_blind 28 = .ok (.getfield 44, 3) := by decide +kernel
theorem dX12_blind_31 : decode cX12_blind 31 = .ok (.aload_n 0, 1) := by decide +kernel
theorem dX12_blind_32 : decode cX12_blind 32 = .ok (.getfield 47, 3) := by decide +kernel
theorem dX12_blind_35 : decode cX12_blind 35 = .ok (.iload_n 1, 1) := by decide +kernel
theorem dX12_blind_36 : decode cX12_blind 36 = .ok (.iload_n 3, 1) := by decide +kernel
theorem dX12_blind_37 : decode cX12_blind 37 = .ok (.invokevirtual 228, 3) := by decide +kernel
theorem dX12_blind_40 : decode cX12_blind 40 = .ok (.iload_n 2, 1) := by decide +kernel
theorem dX12_blind_41 : decode cX12_blind 41 = .ok (.iload_n 3, 1) := by decide +kernel
theorem dX12_blind_42 : decode cX12_blind 42 = .ok (.aload_n 0, 1) := by decide +kernel
theorem dX12_blind_43 : decode cX12_blind 43 = .ok (.getfield 44, 3) := by decide +kernel
theorem dX12_blind_46 : decode cX12_blind 46 = .ok (.iload_n 1, 1) := by decide +kernel
theorem dX12_blind_47 : decode cX12_blind 47 = .ok (.iaload, 1) := by decide +kernel
theorem dX12_blind_48 : decode cX12_blind 48 = .ok (.if_icmp .eq 32, 3) := by decide +kernel
theorem dX12_blind_51 : decode cX12_blind 51 = .ok (.aload_n 0, 1) := by decide +kernel
theorem dX12_blind_52 : decode cX12_blind 52 = .ok (.getfield 47, 3) := by decide +kernel
theorem dX12_blind_55 : decode cX12_blind 55 = .ok (.aload_n 0, 1) := by decide +kernel
theorem dX12_blind_56 : decode cX12_blind 56 = .ok (.getfield 145, 3) := by decide +kernel
theorem dX12_blind_59 : decode cX12_blind 59 = .ok (.iconst 1, 1) := by decide +kernel
theorem dX12_blind_60 : decode cX12_blind 60 = .ok (.isub, 1) := by decide +kernel
theorem dX12_blind_61 : decode cX12_blind 61 = .ok (.iaload, 1) := by decide +kernel
theorem dX12_blind_62 : decode cX12_blind 62 = .ok (.aload_n 0, 1) := by decide +kernel
theorem dX12_blind_63 : decode cX12_blind 63 = .ok (.getfield 44, 3) := by decide +kernel
theorem dX12_blind_66 : decode cX12_blind 66 = .ok (.aload_n 0, 1) := by decide +kernel
theorem dX12_blind_67 : decode cX12_blind 67 = .ok (.getfield 145, 3) := by decide +kernel
theorem dX12_blind_70 : decode cX12_blind 70 = .ok (.iconst 1, 1) := by decide +kernel
theorem dX12_blind_71 : decode cX12_blind 71 = .ok (.isub, 1) := by decide +kernel
theorem dX12_blind_72 : decode cX12_blind 72 = .ok (.iaload, 1) := by decide +kernel
theorem dX12_blind_73 : decode cX12_blind 73 = .ok (.if_icmp .ne 7, 3) := by decide +kernel
theorem dX12_blind_76 : decode cX12_blind 76 = .ok (.iconst 1, 1) := by decide +kernel
theorem dX12_blind_77 : decode cX12_blind 77 = .ok (.goto 4, 3) := by decide +kernel
theorem dX12_blind_80 : decode cX12_blind 80 = .ok (.iconst 0, 1) := by decide +kernel
theorem dX12_blind_81 : decode cX12_blind 81 = .ok (.iadd, 1) := by decide +kernel
theorem dX12_blind_82 : decode cX12_blind 82 = .ok (.istore_n 2, 1) := by decide +kernel
theorem dX12_blind_83 : decode cX12_blind 83 = .ok (.iinc 3 1, 3) := by decide +kernel
theorem dX12_blind_86 : decode cX12_blind 86 = .ok (.goto (-68), 3) := by decide +kernel
theorem dX12_blind_89 : decode cX12_blind 89 = .ok (.iload_n 2, 1) := by decide +kernel
theorem dX12_blind_90 : decode cX12_blind 90 = .ok (.ireturn, 1) := by decide +kernel
theorem dX12_byLaw_0 : decode cX12_byLaw 0 = .ok (.iconst 0, 1) := by decide +kernel
theorem dX12_byLaw_1 : decode cX12_byLaw 1 = .ok (.istore_n 3, 1) := by decide +kernel
theorem dX12_byLaw_2 : decode cX12_byLaw 2 = .ok (.iload_n 3, 1) := by decide +kernel
theorem dX12_byLaw_3 : decode cX12_byLaw 3 = .ok (.aload_n 0, 1) := by decide +kernel
theorem dX12_byLaw_4 : decode cX12_byLaw 4 = .ok (.getfield 301, 3) := by decide +kernel
theorem dX12_byLaw_7 : decode cX12_byLaw 7 = .ok (.if_icmp .ge 82, 3) := by decide +kernel
theorem dX12_byLaw_10 : decode cX12_byLaw 10 = .ok (.aload_n 0, 1) := by decide +kernel
theorem dX12_byLaw_11 : decode cX12_byLaw 11 = .ok (.getfield 77, 3) := by decide +kernel
theorem dX12_byLaw_14 : decode cX12_byLaw 14 = .ok (.iload_n 3, 1) := by decide +kernel
theorem dX12_byLaw_15 : decode cX12_byLaw 15 = .ok (.iaload, 1) := by decide +kernel
theorem dX12_byLaw_16 : decode cX12_byLaw 16 = .ok (.iload_n 1, 1) := by decide +kernel
theorem dX12_byLaw_17 : decode cX12_byLaw 17 = .ok (.if_icmp .ne 66, 3) := by decide +kernel
theorem dX12_byLaw_20 : decode cX12_byLaw 20 = .ok (.aload_n 0, 1) := by decide +kernel
theorem dX12_byLaw_21 : decode cX12_byLaw 21 = .ok (.aload_n 0, 1) := by decide +kernel
theorem dX12_byLaw_22 : decode cX12_byLaw 22 = .ok (.getfield 83, 3) := by decide +kernel
theorem dX12_byLaw_25 : decode cX12_byLaw 25 = .ok (.iload_n 3, 1) := by decide +kernel
theorem dX12_byLaw_26 : decode cX12_byLaw 26 = .ok (.iaload, 1) := by decide +kernel
theorem dX12_byLaw_27 : decode cX12_byLaw 27 = .ok (.aload_n 0, 1) := by decide +kernel
theorem dX12_byLaw_28 : decode cX12_byLaw 28 = .ok (.getfield 86, 3) := by decide +kernel
theorem dX12_byLaw_31 : decode cX12_byLaw 31 = .ok (.iload_n 3, 1) := by decide +kernel
theorem dX12_byLaw_32 : decode cX12_byLaw 32 = .ok (.iaload, 1) := by decide +kernel
theorem dX12_byLaw_33 : decode cX12_byLaw 33 = .ok (.invokevirtual 308, 3) := by decide +kernel
theorem dX12_byLaw_36 : decode cX12_byLaw 36 = .ok (.iconst 1, 1) := by decide +kernel
theorem dX12_byLaw_37 : decode cX12_byLaw 37 = .ok (.if_icmp .eq 6, 3) := by decide +kernel
theorem dX12_byLaw_40 : decode cX12_byLaw 40 = .ok (.goto 43, 3) := by decide +kernel
theorem dX12_byLaw_43 : decode cX12_byLaw 43 = .ok (.aload_n 0, 1) := by decide +kernel
theorem dX12_byLaw_44 : decode cX12_byLaw 44 = .ok (.aload_n 0, 1) := by decide +kernel
theorem dX12_byLaw_45 : decode cX12_byLaw 45 = .ok (.getfield 80, 3) := by decide +kernel
theorem dX12_byLaw_48 : decode cX12_byLaw 48 = .ok (.iload_n 3, 1) := by decide +kernel
theorem dX12_byLaw_49 : decode cX12_byLaw 49 = .ok (.iaload, 1) := by decide +kernel
theorem dX12_byLaw_50 : decode cX12_byLaw 50 = .ok (.aload_n 0, 1) := by decide +kernel
theorem dX12_byLaw_51 : decode cX12_byLaw 51 = .ok (.getfield 83, 3) := by decide +kernel
theorem dX12_byLaw_54 : decode cX12_byLaw 54 = .ok (.iload_n 3, 1) := by decide +kernel
theorem dX12_byLaw_55 : decode cX12_byLaw 55 = .ok (.iaload, 1) := by decide +kernel
theorem dX12_byLaw_56 : decode cX12_byLaw 56 = .ok (.invokevirtual 308, 3) := by decide +kernel
theorem dX12_byLaw_59 : decode cX12_byLaw 59 = .ok (.istore 4, 2) := by decide +kernel
theorem dX12_byLaw_61 : decode cX12_byLaw 61 = .ok (.iload 4, 2) := by decide +kernel
theorem dX12_byLaw_63 : decode cX12_byLaw 63 = .ok (.ifCond .ge 7, 3) := by decide +kernel
theorem dX12_byLaw_66 : decode cX12_byLaw 66 = .ok (.iconst 0, 1) := by decide +kernel
theorem dX12_byLaw_67 : decode cX12_byLaw 67 = .ok (.goto 15, 3) := by decide +kernel
theorem dX12_byLaw_70 : decode cX12_byLaw 70 = .ok (.iload 4, 2) := by decide +kernel
theorem dX12_byLaw_72 : decode cX12_byLaw 72 = .ok (.iload_n 2, 1) := by decide +kernel
theorem dX12_byLaw_73 : decode cX12_byLaw 73 = .ok (.if_icmp .le 7, 3) := by decide +kernel
theorem dX12_byLaw_76 : decode cX12_byLaw 76 = .ok (.iload_n 2, 1) := by decide +kernel
theorem dX12_byLaw_77 : decode cX12_byLaw 77 = .ok (.goto 5, 3) := by decide +kernel
theorem dX12_byLaw_80 : decode cX12_byLaw 80 = .ok (.iload 4, 2) := by decide +kernel
theorem dX12_byLaw_82 : decode cX12_byLaw 82 = .ok (.ireturn, 1) := by decide +kernel
theorem dX12_byLaw_83 : decode cX12_byLaw 83 = .ok (.iinc 3 1, 3) := by decide +kernel
theorem dX12_byLaw_86 : decode cX12_byLaw 86 = .ok (.goto (-84), 3) := by decide +kernel
theorem dX12_byLaw_89 : decode cX12_byLaw 89 = .ok (.iconst 0, 1) := by decide +kernel
theorem dX12_byLaw_90 : decode cX12_byLaw 90 = .ok (.ireturn, 1) := by decide +kernel
theorem dX12_cancel_0 : decode cX12_cancel 0 = .ok (.iload_n 1, 1) := by decide +kernel
theorem dX12_cancel_1 : decode cX12_cancel 1 = .ok (.iconst 0, 1) := by decide +kernel
theorem dX12_cancel_2 : decode cX12_cancel 2 = .ok (.iconst 4, 1) := by decide +kernel
theorem dX12_cancel_3 : decode cX12_cancel 3 = .ok (.invokestatic 141, 3) := by decide +kernel
theorem dX12_cancel_6 : decode cX12_cancel 6 = .ok (.ifCond .eq 19, 3) := by decide +kernel
theorem dX12_cancel_9 : decode cX12_cancel 9 = .ok (.aload_n 0, 1) := by decide +kernel
theorem dX12_cancel_10 : decode cX12_cancel 10 = .ok (.getfield 145, 3) := by decide +kernel
theorem dX12_cancel_13 : decode cX12_cancel 13 = .ok (.ifCond .eq 12, 3) := by decide +kernel
theorem dX12_cancel_16 : decode cX12_cancel 16 = .ok (.aload_n 0, 1) := by decide +kernel
theorem dX12_cancel_17 : decode cX12_cancel 17 = .ok (.getfield 145, 3) := by decide +kernel
theorem dX12_cancel_20 : decode cX12_cancel 20 = .ok (.bipush 8, 2) := by decide +kernel
theorem dX12_cancel_22 : decode cX12_cancel 22 = .ok (.if_icmp .le 5, 3) := by decide +kernel
theorem dX12_cancel_25 : decode cX12_cancel 25 = .ok (.iconst (-1), 1) := by decide +kernel
theorem dX12_cancel_26 : decode cX12_cancel 26 = .ok (.ireturn, 1) := by decide +kernel
theorem dX12_cancel_27 : decode cX12_cancel 27 = .ok (.aload_n 0, 1) := by decide +kernel
theorem dX12_cancel_28 : decode cX12_cancel 28 = .ok (.invokevirtual 212, 3) := by decide +kernel
theorem dX12_cancel_31 : decode cX12_cancel 31 = .ok (.aload_n 0, 1) := by decide +kernel
theorem dX12_cancel_32 : decode cX12_cancel 32 = .ok (.iconst 0, 1) := by decide +kernel
theorem dX12_cancel_33 : decode cX12_cancel 33 = .ok (.putfield 346, 3) := by decide +kernel
theorem dX12_cancel_36 : decode cX12_cancel 36 = .ok (.iconst 0, 1) := by decide +kernel
theorem dX12_cancel_37 : decode cX12_cancel 37 = .ok (.istore_n 2, 1) := by decide +kernel
theorem dX12_cancel_38 : decode cX12_cancel 38 = .ok (.iload_n 2, 1) := by decide +kernel
theorem dX12_cancel_39 : decode cX12_cancel 39 = .ok (.aload_n 0, 1) := by decide +kernel
theorem dX12_cancel_40 : decode cX12_cancel 40 = .ok (.getfield 145, 3) := by decide +kernel
theorem dX12_cancel_43 : decode cX12_cancel 43 = .ok (.if_icmp .ge 41, 3) := by decide +kernel
theorem dX12_cancel_46 : decode cX12_cancel 46 = .ok (.iconst 0, 1) := by decide +kernel
theorem dX12_cancel_47 : decode cX12_cancel 47 = .ok (.istore_n 3, 1) := by decide +kernel
theorem dX12_cancel_48 : decode cX12_cancel 48 = .ok (.iload_n 3, 1) := by decide +kernel
theorem dX12_cancel_49 : decode cX12_cancel 49 = .ok (.aload_n 0, 1) := by decide +kernel
theorem dX12_cancel_50 : decode cX12_cancel 50 = .ok (.getfield 134, 3) := by decide +kernel
theorem dX12_cancel_53 : decode cX12_cancel 53 = .ok (.if_icmp .ge 25, 3) := by decide +kernel
theorem dX12_cancel_56 : decode cX12_cancel 56 = .ok (.iload_n 3, 1) := by decide +kernel
theorem dX12_cancel_57 : decode cX12_cancel 57 = .ok (.aload_n 0, 1) := by decide +kernel
theorem dX12_cancel_58 : decode cX12_cancel 58 = .ok (.getfield 44, 3) := by decide +kernel
theorem dX12_cancel_61 : decode cX12_cancel 61 = .ok (.iload_n 2, 1) := by decide +kernel
theorem dX12_cancel_62 : decode cX12_cancel 62 = .ok (.iaload, 1) := by decide +kernel
theorem dX12_cancel_63 : decode cX12_cancel 63 = .ok (.if_icmp .eq 9, 3) := by decide +kernel
theorem dX12_cancel_66 : decode cX12_cancel 66 = .ok (.aload_n 0, 1) := by decide +kernel
theorem dX12_cancel_67 : decode cX12_cancel 67 = .ok (.iload_n 2, 1) := by decide +kernel
theorem dX12_cancel_68 : decode cX12_cancel 68 = .ok (.iload_n 3, 1) := by decide +kernel
theorem dX12_cancel_69 : decode cX12_cancel 69 = .ok (.invokevirtual 361, 3) := by decide +kernel
theorem dX12_cancel_72 : decode cX12_cancel 72 = .ok (.iinc 3 1, 3) := by decide +kernel
theorem dX12_cancel_75 : decode cX12_cancel 75 = .ok (.goto (-27), 3) := by decide +kernel
theorem dX12_cancel_78 : decode cX12_cancel 78 = .ok (.iinc 2 1, 3) := by decide +kernel
theorem dX12_cancel_81 : decode cX12_cancel 81 = .ok (.goto (-43), 3) := by decide +kernel
theorem dX12_cancel_84 : decode cX12_cancel 84 = .ok (.iload_n 1, 1) := by decide +kernel
theorem dX12_cancel_85 : decode cX12_cancel 85 = .ok (.ifCond .ne 8, 3) := by decide +kernel
theorem dX12_cancel_88 : decode cX12_cancel 88 = .ok (.aload_n 0, 1) := by decide +kernel
theorem dX12_cancel_89 : decode cX12_cancel 89 = .ok (.getfield 346, 3) := by decide +kernel
theorem dX12_cancel_92 : decode cX12_cancel 92 = .ok (.ireturn, 1) := by decide +kernel
theorem dX12_cancel_93 : decode cX12_cancel 93 = .ok (.aload_n 0, 1) := by decide +kernel
theorem dX12_cancel_94 : decode cX12_cancel 94 = .ok (.getfield 346, 3) := by decide +kernel
theorem dX12_cancel_97 : decode cX12_cancel 97 = .ok (.ifCond .ne 8, 3) := by decide +kernel
theorem dX12_cancel_100 : decode cX12_cancel 100 = .ok (.bipush (-2), 2) := by decide +kernel
theorem dX12_cancel_102 : decode cX12_cancel 102 = .ok (.goto 43, 3) := by decide +kernel
theorem dX12_cancel_105 : decode cX12_cancel 105 = .ok (.iload_n 1, 1) := by decide +kernel
theorem dX12_cancel_106 : decode cX12_cancel 106 = .ok (.iconst 1, 1) := by decide +kernel
theorem dX12_cancel_107 : decode cX12_cancel 107 = .ok (.if_icmp .ne 10, 3) := by decide +kernel
theorem dX12_cancel_110 : decode cX12_cancel 110 = .ok (.aload_n 0, 1) := by decide +kernel
theorem dX12_cancel_111 : decode cX12_cancel 111 = .ok (.getfield 349, 3) := by decide +kernel
theorem dX12_cancel_114 : decode cX12_cancel 114 = .ok (.goto 31, 3) := by decide +kernel
theorem dX12_cancel_117 : decode cX12_cancel 117 = .ok (.iload_n 1, 1) := by decide +kernel
theorem dX12_cancel_118 : decode cX12_cancel 118 = .ok (.iconst 2, 1) := by decide +kernel
theorem dX12_cancel_119 : decode cX12_cancel 119 = .ok (.if_icmp .ne 10, 3) := by decide +kernel
theorem dX12_cancel_122 : decode cX12_cancel 122 = .ok (.aload_n 0, 1) := by decide +kernel
theorem dX12_cancel_123 : decode cX12_cancel 123 = .ok (.getfield 352, 3) := by decide +kernel
theorem dX12_cancel_126 : decode cX12_cancel 126 = .ok (.goto 19, 3) := by decide +kernel
theorem dX12_cancel_129 : decode cX12_cancel 129 = .ok (.iload_n 1, 1) := by decide +kernel
theorem dX12_cancel_130 : decode cX12_cancel 130 = .ok (.iconst 3, 1) := by decide +kernel
theorem dX12_cancel_131 : decode cX12_cancel 131 = .ok (.if_icmp .ne 10, 3) := by decide +kernel
theorem dX12_cancel_134 : decode cX12_cancel 134 = .ok (.aload_n 0, 1) := by decide +kernel
theorem dX12_cancel_135 : decode cX12_cancel 135 = .ok (.getfield 355, 3) := by decide +kernel
theorem dX12_cancel_138 : decode cX12_cancel 138 = .ok (.goto 7, 3) := by decide +kernel
theorem dX12_cancel_141 : decode cX12_cancel 141 = .ok (.aload_n 0, 1) := by decide +kernel
theorem dX12_cancel_142 : decode cX12_cancel 142 = .ok (.getfield 358, 3) := by decide +kernel
theorem dX12_cancel_145 : decode cX12_cancel 145 = .ok (.ireturn, 1) := by decide +kernel
theorem dX12_check_0 : decode cX12_check 0 = .ok (.iload_n 1, 1) := by decide +kernel
theorem dX12_check_1 : decode cX12_check 1 = .ok (.iconst 0, 1) := by decide +kernel
theorem dX12_check_2 : decode cX12_check 2 = .ok (.bipush 20, 2) := by decide +kernel
theorem dX12_check_4 : decode cX12_check 4 = .ok (.invokestatic 141, 3) := by decide +kernel
theorem dX12_check_7 : decode cX12_check 7 = .ok (.ifCond .eq 13, 3) := by decide +kernel
theorem dX12_check_10 : decode cX12_check 10 = .ok (.iload_n 1, 1) := by decide +kernel
theorem dX12_check_11 : decode cX12_check 11 = .ok (.aload_n 0, 1) := by decide +kernel
theorem dX12_check_12 : decode cX12_check 12 = .ok (.getfield 148, 3) := by decide +kernel
theorem dX12_check_15 : decode cX12_check 15 = .ok (.iconst 4, 1) := by decide +kernel
theorem dX12_check_16 : decode cX12_check 16 = .ok (.idiv, 1) := by decide +kernel
theorem dX12_check_17 : decode cX12_check 17 = .ok (.if_icmp .le 6, 3) := by decide +kernel
theorem dX12_check_20 : decode cX12_check 20 = .ok (.bipush (-2), 2) := by decide +kernel
theorem dX12_check_22 : decode cX12_check 22 = .ok (.ireturn, 1) := by decide +kernel
theorem dX12_check_23 : decode cX12_check 23 = .ok (.aload_n 0, 1) := by decide +kernel
theorem dX12_check_24 : decode cX12_check 24 = .ok (.iconst 0, 1) := by decide +kernel
theorem dX12_check_25 : decode cX12_check 25 = .ok (.putfield 148, 3) := by decide +kernel
theorem dX12_check_28 : decode cX12_check 28 = .ok (.iconst 0, 1) := by decide +kernel
theorem dX12_check_29 : decode cX12_check 29 = .ok (.istore_n 2, 1) := by decide +kernel
theorem dX12_check_30 : decode cX12_check 30 = .ok (.iload_n 2, 1) := by decide +kernel
theorem dX12_check_31 : decode cX12_check 31 = .ok (.iload_n 1, 1) := by decide +kernel
theorem dX12_check_32 : decode cX12_check 32 = .ok (.if_icmp .ge 33, 3) := by decide +kernel
theorem dX12_check_35 : decode cX12_check 35 = .ok (.iload_n 2, 1) := by decide +kernel
theorem dX12_check_36 : decode cX12_check 36 = .ok (.aload_n 0, 1) := by decide +kernel
theorem dX12_check_37 : decode cX12_check 37 = .ok (.getfield 145, 3) := by decide +kernel
theorem dX12_check_40 : decode cX12_check 40 = .ok (.if_icmp .eq 17, 3) := by decide +kernel
theorem dX12_check_43 : decode cX12_check 43 = .ok (.aload_n 0, 1) := by decide +kernel
theorem dX12_check_44 : decode cX12_check 44 = .ok (.iload_n 2, 1) := by decide +kernel
theorem dX12_check_45 : decode cX12_check 45 = .ok (.invokevirtual 419, 3) := by decide +kernel
theorem dX12_check_48 : decode cX12_check 48 = .ok (.aload_n 0, 1) := by decide +kernel
theorem dX12_check_49 : decode cX12_check 49 = .ok (.getfield 13, 3) := by decide +kernel
theorem dX12_check_52 : decode cX12_check 52 = .ok (.iload_n 2, 1) := by decide +kernel
theorem dX12_check_53 : decode cX12_check 53 = .ok (.iaload, 1) := by decide +kernel
theorem dX12_check_54 : decode cX12_check 54 = .ok (.if_icmp .eq 5, 3) := by decide +kernel
theorem dX12_check_57 : decode cX12_check 57 = .ok (.iload_n 2, 1) := by decide +kernel
theorem dX12_check_58 : decode cX12_check 58 = .ok (.ireturn, 1) := by decide +kernel
theorem dX12_check_59 : decode cX12_check 59 = .ok (.iinc 2 1, 3) := by decide +kernel
theorem dX12_check_62 : decode cX12_check 62 = .ok (.goto (-32), 3) := by decide +kernel
theorem dX12_check_65 : decode cX12_check 65 = .ok (.iconst (-1), 1) := by decide +kernel
theorem dX12_check_66 : decode cX12_check 66 = .ok (.ireturn, 1) := by decide +kernel
theorem dX12_closesSums_0 : decode cX12_closesSums 0 = .ok (.aload_n 0, 1) := by decide +kernel
theorem dX12_closesSums_1 : decode cX12_closesSums 1 = .ok (.invokevirtual 248, 3) := by decide +kernel
theorem dX12_closesSums_4 : decode cX12_closesSums 4 = .ok (.iconst 4, 1) := by decide +kernel
theorem dX12_closesSums_5 : decode cX12_closesSums 5 = .ok (.if_icmp .lt 12, 3) := by decide +kernel
theorem dX12_closesSums_8 : decode cX12_closesSums 8 = .ok (.aload_n 0, 1) := by decide +kernel
theorem dX12_closesSums_9 : decode cX12_closesSums 9 = .ok (.invokevirtual 248, 3) := by decide +kernel
theorem dX12_closesSums_12 : decode cX12_closesSums 12 = .ok (.bipush 6, 2) := by decide +kernel
theorem dX12_closesSums_14 : decode cX12_closesSums 14 = .ok (.if_icmp .le 23, 3) := by decide +kernel
theorem dX12_closesSums_17 : decode cX12_closesSums 17 = .ok (.iload_n 1, 1) := by decide +kernel
theorem dX12_closesSums_18 : decode cX12_closesSums 18 = .ok (.ifCond .eq 41, 3) := by decide +kernel
theorem dX12_closesSums_21 : decode cX12_closesSums 21 = .ok (.aload_n 0, 1) := by decide +kernel
theorem dX12_closesSums_22 : decode cX12_closesSums 22 = .ok (.invokevirtual 248, 3) := by decide +kernel
theorem dX12_closesSums_25 : decode cX12_closesSums 25 = .ok (.iconst 2, 1) := by decide +kernel
theorem dX12_closesSums_26 : decode cX12_closesSums 26 = .ok (.if_icmp .eq 11, 3) := by decide +kernel
theorem dX12_closesSums_29 : decode cX12_closesSums 29 = .ok (.aload_n 0, 1) := by decide +kernel
theorem dX12_closesSums_30 : decode cX12_closesSums 30 = .ok (.invokevirtual 248, 3) := by decide +kernel
theorem dX12_closesSums_33 : decode cX12_closesSums 33 = .ok (.iconst 3, 1) := by decide +kernel
theorem dX12_closesSums_34 : decode cX12_closesSums 34 = .ok (.if_icmp .ne 25, 3) := by decide +kernel
theorem dX12_closesSums_37 : decode cX12_closesSums 37 = .ok (.aload_n 0, 1) := by decide +kernel
theorem dX12_closesSums_38 : decode cX12_closesSums 38 = .ok (.aload_n 0, 1) := by decide +kernel
theorem dX12_closesSums_39 : decode cX12_closesSums 39 = .ok (.invokevirtual 248, 3) := by decide +kernel
theorem dX12_closesSums_42 : decode cX12_closesSums 42 = .ok (.iconst 0, 1) := by decide +kernel
theorem dX12_closesSums_43 : decode cX12_closesSums 43 = .ok (.invokevirtual 251, 3) := by decide +kernel
theorem dX12_closesSums_46 : decode cX12_closesSums 46 = .ok (.aload_n 0, 1) := by decide +kernel
theorem dX12_closesSums_47 : decode cX12_closesSums 47 = .ok (.aload_n 0, 1) := by decide +kernel
theorem dX12_closesSums_48 : decode cX12_closesSums 48 = .ok (.getfield 245, 3) := by decide +kernel
theorem dX12_closesSums_51 : decode cX12_closesSums 51 = .ok (.iconst 1, 1) := by decide +kernel
theorem dX12_closesSums_52 : decode cX12_closesSums 52 = .ok (.isub, 1) := by decide +kernel
theorem dX12_closesSums_53 : decode cX12_closesSums 53 = .ok (.putfield 245, 3) := by decide +kernel
theorem dX12_closesSums_56 : decode cX12_closesSums 56 = .ok (.goto (-56), 3) := by decide +kernel
theorem dX12_closesSums_59 : decode cX12_closesSums 59 = .ok (.return_, 1) := by decide +kernel
theorem dX12_comesFrom_0 : decode cX12_comesFrom 0 = .ok (.iconst 0, 1) := by decide +kernel
theorem dX12_comesFrom_1 : decode cX12_comesFrom 1 = .ok (.istore_n 2, 1) := by decide +kernel
theorem dX12_comesFrom_2 : decode cX12_comesFrom 2 = .ok (.iload_n 2, 1) := by decide +kernel
theorem dX12_comesFrom_3 : decode cX12_comesFrom 3 = .ok (.aload_n 0, 1) := by decide +kernel
theorem dX12_comesFrom_4 : decode cX12_comesFrom 4 = .ok (.getfield 145, 3) := by decide +kernel
theorem dX12_comesFrom_7 : decode cX12_comesFrom 7 = .ok (.if_icmp .ge 28, 3) := by decide +kernel
theorem dX12_comesFrom_10 : decode cX12_comesFrom 10 = .ok (.aload_n 0, 1) := by decide +kernel
theorem dX12_comesFrom_11 : decode cX12_comesFrom 11 = .ok (.getfield 113, 3) := by decide +kernel
theorem dX12_comesFrom_14 : decode cX12_comesFrom 14 = .ok (.iload_n 2, 1) := by decide +kernel
theorem dX12_comesFrom_15 : decode cX12_comesFrom 15 = .ok (.aload_n 0, 1) := by decide +kernel
theorem dX12_comesFrom_16 : decode cX12_comesFrom 16 = .ok (.getfield 110, 3) := by decide +kernel
theorem dX12_comesFrom_19 : decode cX12_comesFrom 19 = .ok (.aload_n 0, 1) := by decide +kernel
theorem dX12_comesFrom_20 : decode cX12_comesFrom 20 = .ok (.getfield 145, 3) := by decide +kernel
theorem dX12_comesFrom_23 : decode cX12_comesFrom 23 = .ok (.iload_n 1, 1) := by decide +kernel
theorem dX12_comesFrom_24 : decode cX12_comesFrom 24 = .ok (.imul, 1) := by decide +kernel
theorem dX12_comesFrom_25 : decode cX12_comesFrom 25 = .ok (.iload_n 2, 1) := by decide +kernel
theorem dX12_comesFrom_26 : decode cX12_comesFrom 26 = .ok (.iadd, 1) := by decide +kernel
theorem dX12_comesFrom_27 : decode cX12_comesFrom 27 = .ok (.iaload, 1) := by decide +kernel
theorem dX12_comesFrom_28 : decode cX12_comesFrom 28 = .ok (.iastore, 1) := by decide +kernel
theorem dX12_comesFrom_29 : decode cX12_comesFrom 29 = .ok (.iinc 2 1, 3) := by decide +kernel
theorem dX12_comesFrom_32 : decode cX12_comesFrom 32 = .ok (.goto (-30), 3) := by decide +kernel
theorem dX12_comesFrom_35 : decode cX12_comesFrom 35 = .ok (.iconst 0, 1) := by decide +kernel
theorem dX12_comesFrom_36 : decode cX12_comesFrom 36 = .ok (.istore_n 2, 1) := by decide +kernel
theorem dX12_comesFrom_37 : decode cX12_comesFrom 37 = .ok (.iload_n 2, 1) := by decide +kernel
theorem dX12_comesFrom_38 : decode cX12_comesFrom 38 = .ok (.aload_n 0, 1) := by decide +kernel
theorem dX12_comesFrom_39 : decode cX12_comesFrom 39 = .ok (.getfield 145, 3) := by decide +kernel
theorem dX12_comesFrom_42 : decode cX12_comesFrom 42 = .ok (.if_icmp .ge 25, 3) := by decide +kernel
theorem dX12_comesFrom_45 : decode cX12_comesFrom 45 = .ok (.aload_n 0, 1) := by decide +kernel
theorem dX12_comesFrom_46 : decode cX12_comesFrom 46 = .ok (.getfield 113, 3) := by decide +kernel
theorem dX12_comesFrom_49 : decode cX12_comesFrom 49 = .ok (.iload_n 2, 1) := by decide +kernel
theorem dX12_comesFrom_50 : decode cX12_comesFrom 50 = .ok (.iaload, 1) := by decide +kernel
theorem dX12_comesFrom_51 : decode cX12_comesFrom 51 = .ok (.aload_n 0, 1) := by decide +kernel
theorem dX12_comesFrom_52 : decode cX12_comesFrom 52 = .ok (.getfield 47, 3) := by decide +kernel
theorem dX12_comesFrom_55 : decode cX12_comesFrom 55 = .ok (.iload_n 2, 1) := by decide +kernel
theorem dX12_comesFrom_56 : decode cX12_comesFrom 56 = .ok (.iaload, 1) := by decide +kernel
theorem dX12_comesFrom_57 : decode cX12_comesFrom 57 = .ok (.if_icmp .ne 10, 3) := by decide +kernel
theorem dX12_comesFrom_60 : decode cX12_comesFrom 60 = .ok (.iload_n 2, 1) := by decide +kernel
theorem dX12_comesFrom_61 : decode cX12_comesFrom 61 = .ok (.iconst 1, 1) := by decide +kernel
theorem dX12_comesFrom_62 : decode cX12_comesFrom 62 = .ok (.iadd, 1) := by decide +kernel
theorem dX12_comesFrom_63 : decode cX12_comesFrom 63 = .ok (.istore_n 2, 1) := by decide +kernel
theorem dX12_comesFrom_64 : decode cX12_comesFrom 64 = .ok (.goto (-27), 3) := by decide +kernel
theorem dX12_comesFrom_67 : decode cX12_comesFrom 67 = .ok (.iload_n 2, 1) := by decide +kernel
theorem dX12_comesFrom_68 : decode cX12_comesFrom 68 = .ok (.aload_n 0, 1) := by decide +kernel
theorem dX12_comesFrom_69 : decode cX12_comesFrom 69 = .ok (.getfield 145, 3) := by decide +kernel
theorem dX12_comesFrom_72 : decode cX12_comesFrom 72 = .ok (.if_icmp .ne 5, 3) := by decide +kernel
theorem dX12_comesFrom_75 : decode cX12_comesFrom 75 = .ok (.iconst 1, 1) := by decide +kernel
theorem dX12_comesFrom_76 : decode cX12_comesFrom 76 = .ok (.ireturn, 1) := by decide +kernel
theorem dX12_comesFrom_77 : decode cX12_comesFrom 77 = .ok (.aload_n 0, 1) := by decide +kernel
theorem dX12_comesFrom_78 : decode cX12_comesFrom 78 = .ok (.aload_n 0, 1) := by decide +kernel
theorem dX12_comesFrom_79 : decode cX12_comesFrom 79 = .ok (.getfield 113, 3) := by decide +kernel
theorem dX12_comesFrom_82 : decode cX12_comesFrom 82 = .ok (.iload_n 2, 1) := by decide +kernel
theorem dX12_comesFrom_83 : decode cX12_comesFrom 83 = .ok (.iaload, 1) := by decide +kernel
theorem dX12_comesFrom_84 : decode cX12_comesFrom 84 = .ok (.invokevirtual 225, 3) := by decide +kernel
theorem dX12_comesFrom_87 : decode cX12_comesFrom 87 = .ok (.ifCond .ne 5, 3) := by decide +kernel
theorem dX12_comesFrom_90 : decode cX12_comesFrom 90 = .ok (.iconst 0, 1) := by decide +kernel
theorem dX12_comesFrom_91 : decode cX12_comesFrom 91 = .ok (.ireturn, 1) := by decide +kernel
theorem dX12_comesFrom_92 : decode cX12_comesFrom 92 = .ok (.iload_n 2, 1) := by decide +kernel
theorem dX12_comesFrom_93 : decode cX12_comesFrom 93 = .ok (.iconst 1, 1) := by decide +kernel
theorem dX12_comesFrom_94 : decode cX12_comesFrom 94 = .ok (.iadd, 1) := by decide +kernel
theorem dX12_comesFrom_95 : decode cX12_comesFrom 95 = .ok (.istore_n 3, 1) := by decide +kernel
theorem dX12_comesFrom_96 : decode cX12_comesFrom 96 = .ok (.iload_n 3, 1) := by decide +kernel
theorem dX12_comesFrom_97 : decode cX12_comesFrom 97 = .ok (.aload_n 0, 1) := by decide +kernel
theorem dX12_comesFrom_98 : decode cX12_comesFrom 98 = .ok (.getfield 145, 3) := by decide +kernel
theorem dX12_comesFrom_101 : decode cX12_comesFrom 101 = .ok (.if_icmp .ge 29, 3) := by decide +kernel
theorem dX12_comesFrom_104 : decode cX12_comesFrom 104 = .ok (.aload_n 0, 1) := by decide +kernel
theorem dX12_comesFrom_105 : decode cX12_comesFrom 105 = .ok (.getfield 113, 3) := by decide +kernel
theorem dX12_comesFrom_108 : decode cX12_comesFrom 108 = .ok (.iload_n 3, 1) := by decide +kernel
theorem dX12_comesFrom_109 : decode cX12_comesFrom 109 = .ok (.iaload, 1) := by decide +kernel
theorem dX12_comesFrom_110 : decode cX12_comesFrom 110 = .ok (.aload_n 0, 1) := by decide +kernel
theorem dX12_comesFrom_111 : decode cX12_comesFrom 111 = .ok (.iload_n 3, 1) := by decide +kernel
theorem dX12_comesFrom_112 : decode cX12_comesFrom 112 = .ok (.aload_n 0, 1) := by decide +kernel
theorem dX12_comesFrom_113 : decode cX12_comesFrom 113 = .ok (.getfield 113, 3) := by decide +kernel
theorem dX12_comesFrom_116 : decode cX12_comesFrom 116 = .ok (.invokevirtual 198, 3) := by decide +kernel
theorem dX12_comesFrom_119 : decode cX12_comesFrom 119 = .ok (.if_icmp .eq 5, 3) := by decide +kernel
theorem dX12_comesFrom_122 : decode cX12_comesFrom 122 = .ok (.iconst 0, 1) := by decide +kernel
theorem dX12_comesFrom_123 : decode cX12_comesFrom 123 = .ok (.ireturn, 1) := by decide +kernel
theorem dX12_comesFrom_124 : decode cX12_comesFrom 124 = .ok (.iinc 3 1, 3) := by decide +kernel
theorem dX12_comesFrom_127 : decode cX12_comesFrom 127 = .ok (.goto (-31), 3) := by decide +kernel
theorem dX12_comesFrom_130 : decode cX12_comesFrom 130 = .ok (.iconst 1, 1) := by decide +kernel
theorem dX12_comesFrom_131 : decode cX12_comesFrom 131 = .ok (.ireturn, 1) := by decide +kernel
theorem dX12_comesTo_0 : decode cX12_comesTo 0 = .ok (.iconst 0, 1) := by decide +kernel
theorem dX12_comesTo_1 : decode cX12_comesTo 1 = .ok (.istore_n 3, 1) := by decide +kernel
theorem dX12_comesTo_2 : decode cX12_comesTo 2 = .ok (.sipush 220, 3) := by decide +kernel
theorem dX12_comesTo_5 : decode cX12_comesTo 5 = .ok (.iload_n 1, 1) := by decide +kernel
theorem dX12_comesTo_6 : decode cX12_comesTo 6 = .ok (.sipush 220, 3) := by decide +kernel
theorem dX12_comesTo_9 : decode cX12_comesTo 9 = .ok (.idiv, 1) := by decide +kernel
theorem dX12_comesTo_10 : decode cX12_comesTo 10 = .ok (.imul, 1) := by decide +kernel
theorem dX12_comesTo_11 : decode cX12_comesTo 11 = .ok (.istore 4, 2) := by decide +kernel
theorem dX12_comesTo_13 : decode cX12_comesTo 13 = .ok (.iload_n 1, 1) := by decide +kernel
theorem dX12_comesTo_14 : decode cX12_comesTo 14 = .ok (.istore 5, 2) := by decide +kernel
theorem dX12_comesTo_16 : decode cX12_comesTo 16 = .ok (.iload 5, 2) := by decide +kernel
theorem dX12_comesTo_18 : decode cX12_comesTo 18 = .ok (.iload_n 2, 1) := by decide +kernel
theorem dX12_comesTo_19 : decode cX12_comesTo 19 = .ok (.if_icmp .ge 214, 3) := by decide +kernel
theorem dX12_comesTo_22 : decode cX12_comesTo 22 = .ok (.aload_n 0, 1) := by decide +kernel
theorem dX12_comesTo_23 : decode cX12_comesTo 23 = .ok (.getfield 74, 3) := by decide +kernel
theorem dX12_comesTo_26 : decode cX12_comesTo 26 = .ok (.iload 5, 2) := by decide +kernel
theorem dX12_comesTo_28 : decode cX12_comesTo 28 = .ok (.iaload, 1) := by decide +kernel
theorem dX12_comesTo_29 : decode cX12_comesTo 29 = .ok (.ldc 241, 2) := by decide +kernel
theorem dX12_comesTo_31 : decode cX12_comesTo 31 = .ok (.idiv, 1) := by decide +kernel
theorem dX12_comesTo_32 : decode cX12_comesTo 32 = .ok (.istore 6, 2) := by decide +kernel
theorem dX12_comesTo_34 : decode cX12_comesTo 34 = .ok (.aload_n 0, 1) := by decide +kernel
theorem dX12_comesTo_35 : decode cX12_comesTo 35 = .ok (.getfield 74, 3) := by decide +kernel
theorem dX12_comesTo_38 : decode cX12_comesTo 38 = .ok (.iload 5, 2) := by decide +kernel
theorem dX12_comesTo_40 : decode cX12_comesTo 40 = .ok (.iaload, 1) := by decide +kernel
theorem dX12_comesTo_41 : decode cX12_comesTo 41 = .ok (.ldc 241, 2) := by decide +kernel
theorem dX12_comesTo_43 : decode cX12_comesTo 43 = .ok (.irem, 1) := by decide +kernel
theorem dX12_comesTo_44 : decode cX12_comesTo 44 = .ok (.istore 7, 2) := by decide +kernel
theorem dX12_comesTo_46 : decode cX12_comesTo 46 = .ok (.iload 5, 2) := by decide +kernel
theorem dX12_comesTo_48 : decode cX12_comesTo 48 = .ok (.iconst 1, 1) := by decide +kernel
theorem dX12_comesTo_49 : decode cX12_comesTo 49 = .ok (.iadd, 1) := by decide +kernel
theorem dX12_comesTo_50 : decode cX12_comesTo 50 = .ok (.istore 5, 2) := by decide +kernel
theorem dX12_comesTo_52 : decode cX12_comesTo 52 = .ok (.iload 6, 2) := by decide +kernel
theorem dX12_comesTo_54 : decode cX12_comesTo 54 = .ok (.ifCond .eq 9, 3) := by decide +kernel
theorem dX12_comesTo_57 : decode cX12_comesTo 57 = .ok (.iload 6, 2) := by decide +kernel
theorem dX12_comesTo_59 : decode cX12_comesTo 59 = .ok (.iconst 1, 1) := by decide +kernel
theorem dX12_comesTo_60 : decode cX12_comesTo 60 = .ok (.if_icmp .ne 33, 3) := by decide +kernel
theorem dX12_comesTo_63 : decode cX12_comesTo 63 = .ok (.aload_n 0, 1) := by decide +kernel
theorem dX12_comesTo_64 : decode cX12_comesTo 64 = .ok (.getfield 89, 3) := by decide +kernel
theorem dX12_comesTo_67 : decode cX12_comesTo 67 = .ok (.iload_n 3, 1) := by decide +kernel
theorem dX12_comesTo_68 : decode cX12_comesTo 68 = .ok (.iload 6, 2) := by decide +kernel
theorem dX12_comesTo_70 : decode cX12_comesTo 70 = .ok (.ifCond .ne 8, 3) := by decide +kernel
theorem dX12_comesTo_73 : decode cX12_comesTo 73 = .ok (.iload 7, 2) := by decide +kernel
theorem dX12_comesTo_75 : decode cX12_comesTo 75 = .ok (.goto 10, 3) := by decide +kernel
theorem dX12_comesTo_78 : decode cX12_comesTo 78 = .ok (.aload_n 0, 1) := by decide +kernel
theorem dX12_comesTo_79 : decode cX12_comesTo 79 = .ok (.getfield 92, 3) := by decide +kernel
theorem dX12_comesTo_82 : decode cX12_comesTo 82 = .ok (.iload 7, 2) := by decide +kernel
theorem dX12_comesTo_84 : decode cX12_comesTo 84 = .ok (.iaload, 1) := by decide +kernel
theorem dX12_comesTo_85 : decode cX12_comesTo 85 = .ok (.iastore, 1) := by decide +kernel
theorem dX12_comesTo_86 : decode cX12_comesTo 86 = .ok (.iload_n 3, 1) := by decide +kernel
theorem dX12_comesTo_87 : decode cX12_comesTo 87 = .ok (.iconst 1, 1) := by decide +kernel
theorem dX12_comesTo_88 : decode cX12_comesTo 88 = .ok (.iadd, 1) := by decide +kernel
theorem dX12_comesTo_89 : decode cX12_comesTo 89 = .ok (.istore_n 3, 1) := by decide +kernel
theorem dX12_comesTo_90 : decode cX12_comesTo 90 = .ok (.goto 140, 3) := by decide +kernel
theorem dX12_comesTo_93 : decode cX12_comesTo 93 = .ok (.iload 6, 2) := by decide +kernel
theorem dX12_comesTo_95 : decode cX12_comesTo 95 = .ok (.bipush 10, 2) := by decide +kernel
theorem dX12_comesTo_97 : decode cX12_comesTo 97 = .ok (.if_icmp .ne 24, 3) := by decide +kernel
theorem dX12_comesTo_100 : decode cX12_comesTo 100 = .ok (.aload_n 0, 1) := by decide +kernel
theorem dX12_comesTo_101 : decode cX12_comesTo 101 = .ok (.getfield 89, 3) := by decide +kernel
theorem dX12_comesTo_104 : decode cX12_comesTo 104 = .ok (.iload_n 3, 1) := by decide +kernel
theorem dX12_comesTo_105 : decode cX12_comesTo 105 = .ok (.iconst 1, 1) := by decide +kernel
theorem dX12_comesTo_106 : decode cX12_comesTo 106 = .ok (.isub, 1) := by decide +kernel
theorem dX12_comesTo_107 : decode cX12_comesTo 107 = .ok (.iconst 1, 1) := by decide +kernel
theorem dX12_comesTo_108 : decode cX12_comesTo 108 = .ok (.aload_n 0, 1) := by decide +kernel
theorem dX12_comesTo_109 : decode cX12_comesTo 109 = .ok (.getfield 89, 3) := by decide +kernel
theorem dX12_comesTo_112 : decode cX12_comesTo 112 = .ok (.iload_n 3, 1) := by decide +kernel
theorem dX12_comesTo_113 : decode cX12_comesTo 113 = .ok (.iconst 1, 1) := by decide +kernel
theorem dX12_comesTo_114 : decode cX12_comesTo 114 = .ok (.isub, 1) := by decide +kernel
theorem dX12_comesTo_115 : decode cX12_comesTo 115 = .ok (.iaload, 1) := by decide +kernel
theorem dX12_comesTo_116 : decode cX12_comesTo 116 = .ok (.isub, 1) := by decide +kernel
theorem dX12_comesTo_117 : decode cX12_comesTo 117 = .ok (.iastore, 1) := by decide +kernel
theorem dX12_comesTo_118 : decode cX12_comesTo 118 = .ok (.goto 112, 3) := by decide +kernel
theorem dX12_comesTo_121 : decode cX12_comesTo 121 = .ok (.iload 6, 2) := by decide +kernel
theorem dX12_comesTo_123 : decode cX12_comesTo 123 = .ok (.bipush 11, 2) := by decide +kernel
theorem dX12_comesTo_125 : decode cX12_comesTo 125 = .ok (.if_icmp .eq 10, 3) := by decide +kernel
theorem dX12_comesTo_128 : decode cX12_comesTo 128 = .ok (.iload 6, 2) := by decide +kernel
theorem dX12_comesTo_130 : decode cX12_comesTo 130 = .ok (.bipush 12, 2) := by decide +kernel
theorem dX12_comesTo_132 : decode cX12_comesTo 132 = .ok (.if_icmp .ne 43, 3) := by decide +kernel
theorem dX12_comesTo_135 : decode cX12_comesTo 135 = .ok (.aload_n 0, 1) := by decide +kernel
theorem dX12_comesTo_136 : decode cX12_comesTo 136 = .ok (.getfield 89, 3) := by decide +kernel
theorem dX12_comesTo_139 : decode cX12_comesTo 139 = .ok (.iload_n 3, 1) := by decide +kernel
theorem dX12_comesTo_140 : decode cX12_comesTo 140 = .ok (.iconst 1, 1) := by decide +kernel
theorem dX12_comesTo_141 : decode cX12_comesTo 141 = .ok (.isub, 1) := by decide +kernel
theorem dX12_comesTo_142 : decode cX12_comesTo 142 = .ok (.iaload, 1) := by decide +kernel
theorem dX12_comesTo_143 : decode cX12_comesTo 143 = .ok (.iload 6, 2) := by decide +kernel
theorem dX12_comesTo_145 : decode cX12_comesTo 145 = .ok (.bipush 12, 2) := by decide +kernel
theorem dX12_comesTo_147 : decode cX12_comesTo 147 = .ok (.if_icmp .ne 7, 3) := by decide +kernel
theorem dX12_comesTo_150 : decode cX12_comesTo 150 = .ok (.iconst 1, 1) := by decide +kernel
theorem dX12_comesTo_151 : decode cX12_comesTo 151 = .ok (.goto 4, 3) := by decide +kernel
theorem dX12_comesTo_154 : decode cX12_comesTo 154 = .ok (.iconst 0, 1) := by decide +kernel
theorem dX12_comesTo_155 : decode cX12_comesTo 155 = .ok (.if_icmp .ne 13, 3) := by decide +kernel
theorem dX12_comesTo_158 : decode cX12_comesTo 158 = .ok (.iload 4, 2) := by decide +kernel
theorem dX12_comesTo_160 : decode cX12_comesTo 160 = .ok (.iload 7, 2) := by decide +kernel
theorem dX12_comesTo_162 : decode cX12_comesTo 162 = .ok (.iadd, 1) := by decide +kernel
theorem dX12_comesTo_163 : decode cX12_comesTo 163 = .ok (.istore 5, 2) := by decide +kernel
theorem dX12_comesTo_165 : decode cX12_comesTo 165 = .ok (.goto 65, 3) := by decide +kernel
theorem dX12_comesTo_168 : decode cX12_comesTo 168 = .ok (.iload_n 3, 1) := by decide +kernel
theorem dX12_comesTo_169 : decode cX12_comesTo 169 = .ok (.iconst 1, 1) := by decide +kernel
theorem dX12_comesTo_170 : decode cX12_comesTo 170 = .ok (.isub, 1) := by decide +kernel
theorem dX12_comesTo_171 : decode cX12_comesTo 171 = .ok (.istore_n 3, 1) := by decide +kernel
theorem dX12_comesTo_172 : decode cX12_comesTo 172 = .ok (.goto 58, 3) := by decide +kernel
theorem dX12_comesTo_175 : decode cX12_comesTo 175 = .ok (.iload_n 3, 1) := by decide +kernel
theorem dX12_comesTo_176 : decode cX12_comesTo 176 = .ok (.iconst 1, 1) := by decide +kernel
theorem dX12_comesTo_177 : decode cX12_comesTo 177 = .ok (.isub, 1) := by decide +kernel
theorem dX12_comesTo_178 : decode cX12_comesTo 178 = .ok (.istore_n 3, 1) := by decide +kernel
theorem dX12_comesTo_179 : decode cX12_comesTo 179 = .ok (.iload 6, 2) := by decide +kernel
theorem dX12_comesTo_181 : decode cX12_comesTo 181 = .ok (.iconst 5, 1) := by decide +kernel
theorem dX12_comesTo_182 : decode cX12_comesTo 182 = .ok (.if_icmp .eq 10, 3) := by decide +kernel
theorem dX12_comesTo_185 : decode cX12_comesTo 185 = .ok (.iload 6, 2) := by decide +kernel
theorem dX12_comesTo_187 : decode cX12_comesTo 187 = .ok (.bipush 6, 2) := by decide +kernel
theorem dX12_comesTo_189 : decode cX12_comesTo 189 = .ok (.if_icmp .ne 14, 3) := by decide +kernel
theorem dX12_comesTo_192 : decode cX12_comesTo 192 = .ok (.aload_n 0, 1) := by decide +kernel
theorem dX12_comesTo_193 : decode cX12_comesTo 193 = .ok (.getfield 89, 3) := by decide +kernel
theorem dX12_comesTo_196 : decode cX12_comesTo 196 = .ok (.iload_n 3, 1) := by decide +kernel
theorem dX12_comesTo_197 : decode cX12_comesTo 197 = .ok (.iaload, 1) := by decide +kernel
theorem dX12_comesTo_198 : decode cX12_comesTo 198 = .ok (.ifCond .ne 5, 3) := by decide +kernel
theorem dX12_comesTo_201 : decode cX12_comesTo 201 = .ok (.iconst 0, 1) := by decide +kernel
theorem dX12_comesTo_202 : decode cX12_comesTo 202 = .ok (.ireturn, 1) := by decide +kernel
theorem dX12_comesTo_203 : decode cX12_comesTo 203 = .ok (.aload_n 0, 1) := by decide +kernel
theorem dX12_comesTo_204 : decode cX12_comesTo 204 = .ok (.getfield 89, 3) := by decide +kernel
theorem dX12_comesTo_207 : decode cX12_comesTo 207 = .ok (.iload_n 3, 1) := by decide +kernel
theorem dX12_comesTo_208 : decode cX12_comesTo 208 = .ok (.iconst 1, 1) := by decide +kernel
theorem dX12_comesTo_209 : decode cX12_comesTo 209 = .ok (.isub, 1) := by decide +kernel
theorem dX12_comesTo_210 : decode cX12_comesTo 210 = .ok (.iload 6, 2) := by decide +kernel
theorem dX12_comesTo_212 : decode cX12_comesTo 212 = .ok (.aload_n 0, 1) := by decide +kernel
theorem dX12_comesTo_213 : decode cX12_comesTo 213 = .ok (.getfield 89, 3) := by decide +kernel
theorem dX12_comesTo_216 : decode cX12_comesTo 216 = .ok (.iload_n 3, 1) := by decide +kernel
theorem dX12_comesTo_217 : decode cX12_comesTo 217 = .ok (.iconst 1, 1) := by decide +kernel
theorem dX12_comesTo_218 : decode cX12_comesTo 218 = .ok (.isub, 1) := by decide +kernel
theorem dX12_comesTo_219 : decode cX12_comesTo 219 = .ok (.iaload, 1) := by decide +kernel
theorem dX12_comesTo_220 : decode cX12_comesTo 220 = .ok (.aload_n 0, 1) := by decide +kernel
theorem dX12_comesTo_221 : decode cX12_comesTo 221 = .ok (.getfield 89, 3) := by decide +kernel
theorem dX12_comesTo_224 : decode cX12_comesTo 224 = .ok (.iload_n 3, 1) := by decide +kernel
theorem dX12_comesTo_225 : decode cX12_comesTo 225 = .ok (.iaload, 1) := by decide +kernel
theorem dX12_comesTo_226 : decode cX12_comesTo 226 = .ok (.invokestatic 304, 3) := by decide +kernel
theorem dX12_comesTo_229 : decode cX12_comesTo 229 = .ok (.iastore, 1) := by decide +kernel
theorem dX12_comesTo_230 : decode cX12_comesTo 230 = .ok (.goto (-214), 3) := by decide +kernel
theorem dX12_comesTo_233 : decode cX12_comesTo 233 = .ok (.aload_n 0, 1) := by decide +kernel
theorem dX12_comesTo_234 : decode cX12_comesTo 234 = .ok (.getfield 89, 3) := by decide +kernel
theorem dX12_comesTo_237 : decode cX12_comesTo 237 = .ok (.iconst 0, 1) := by decide +kernel
theorem dX12_comesTo_238 : decode cX12_comesTo 238 = .ok (.iaload, 1) := by decide +kernel
theorem dX12_comesTo_239 : decode cX12_comesTo 239 = .ok (.ireturn, 1) := by decide +kernel
theorem dX12_copied_0 : decode cX12_copied 0 = .ok (.iload_n 1, 1) := by decide +kernel
theorem dX12_copied_1 : decode cX12_copied 1 = .ok (.iconst 1, 1) := by decide +kernel
theorem dX12_copied_2 : decode cX12_copied 2 = .ok (.bipush 20, 2) := by decide +kernel
theorem dX12_copied_4 : decode cX12_copied 4 = .ok (.invokestatic 141, 3) := by decide +kernel
theorem dX12_copied_7 : decode cX12_copied 7 = .ok (.ifCond .eq 10, 3) := by decide +kernel
theorem dX12_copied_10 : decode cX12_copied 10 = .ok (.aload_n 0, 1) := by decide +kernel
theorem dX12_copied_11 : decode cX12_copied 11 = .ok (.getfield 145, 3) := by decide +kernel
theorem dX12_copied_14 : decode cX12_copied 14 = .ok (.ifCond .ne 5, 3) := by decide +kernel
theorem dX12_copied_17 : decode cX12_copied 17 = .ok (.iconst (-1), 1) := by decide +kernel
theorem dX12_copied_18 : decode cX12_copied 18 = .ok (.ireturn, 1) := by decide +kernel
theorem dX12_copied_19 : decode cX12_copied 19 = .ok (.iconst 0, 1) := by decide +kernel
theorem dX12_copied_20 : decode cX12_copied 20 = .ok (.istore_n 2, 1) := by decide +kernel
theorem dX12_copied_21 : decode cX12_copied 21 = .ok (.iconst 0, 1) := by decide +kernel
theorem dX12_copied_22 : decode cX12_copied 22 = .ok (.istore_n 3, 1) := by decide +kernel
theorem dX12_copied_23 : decode cX12_copied 23 = .ok (.iload_n 3, 1) := by decide +kernel
theorem dX12_copied_24 : decode cX12_copied 24 = .ok (.iload_n 1, 1) := by decide +kernel
theorem dX12_copied_25 : decode cX12_copied 25 = .ok (.if_icmp .ge 118, 3) := by decide +kernel
theorem dX12_copied_28 : decode cX12_copied 28 = .ok (.aload_n 0, 1) := by decide +kernel
theorem dX12_copied_29 : decode cX12_copied 29 = .ok (.sipush 25173, 3) := by decide +kernel
theorem dX12_copied_32 : decode cX12_copied 32 = .ok (.aload_n 0, 1) := by decide +kernel
theorem dX12_copied_33 : decode cX12_copied 33 = .ok (.getfield 138, 3) := by decide +kernel
theorem dX12_copied_36 : decode cX12_copied 36 = .ok (.imul, 1) := by decide +kernel
theorem dX12_copied_37 : decode cX12_copied 37 = .ok (.sipush 13849, 3) := by decide +kernel
theorem dX12_copied_40 : decode cX12_copied 40 = .ok (.iadd, 1) := by decide +kernel
theorem dX12_copied_41 : decode cX12_copied 41 = .ok (.ldc_w 392, 3) := by decide +kernel
theorem dX12_copied_44 : decode cX12_copied 44 = .ok (.irem, 1) := by decide +kernel
theorem dX12_copied_45 : decode cX12_copied 45 = .ok (.putfield 138, 3) := by decide +kernel
theorem dX12_copied_48 : decode cX12_copied 48 = .ok (.aload_n 0, 1) := by decide +kernel
theorem dX12_copied_49 : decode cX12_copied 49 = .ok (.getfield 138, 3) := by decide +kernel
theorem dX12_copied_52 : decode cX12_copied 52 = .ok (.aload_n 0, 1) := by decide +kernel
theorem dX12_copied_53 : decode cX12_copied 53 = .ok (.getfield 145, 3) := by decide +kernel
theorem dX12_copied_56 : decode cX12_copied 56 = .ok (.irem, 1) := by decide +kernel
theorem dX12_copied_57 : decode cX12_copied 57 = .ok (.istore 4, 2) := by decide +kernel
theorem dX12_copied_59 : decode cX12_copied 59 = .ok (.aload_n 0, 1) := by decide +kernel
theorem dX12_copied_60 : decode cX12_copied 60 = .ok (.iload 4, 2) := by decide +kernel
theorem dX12_copied_62 : decode cX12_copied 62 = .ok (.aload_n 0, 1) := by decide +kernel
theorem dX12_copied_63 : decode cX12_copied 63 = .ok (.getfield 13, 3) := by decide +kernel
theorem dX12_copied_66 : decode cX12_copied 66 = .ok (.iload 4, 2) := by decide +kernel
theorem dX12_copied_68 : decode cX12_copied 68 = .ok (.iaload, 1) := by decide +kernel
theorem dX12_copied_69 : decode cX12_copied 69 = .ok (.iconst 0, 1) := by decide +kernel
theorem dX12_copied_70 : decode cX12_copied 70 = .ok (.invokevirtual 311, 3) := by decide +kernel
theorem dX12_copied_73 : decode cX12_copied 73 = .ok (.aload_n 0, 1) := by decide +kernel
theorem dX12_copied_74 : decode cX12_copied 74 = .ok (.getfield 138, 3) := by decide +kernel
theorem dX12_copied_77 : decode cX12_copied 77 = .ok (.bipush 32, 2) := by decide +kernel
theorem dX12_copied_79 : decode cX12_copied 79 = .ok (.idiv, 1) := by decide +kernel
theorem dX12_copied_80 : decode cX12_copied 80 = .ok (.bipush 10, 2) := by decide +kernel
theorem dX12_copied_82 : decode cX12_copied 82 = .ok (.irem, 1) := by decide +kernel
theorem dX12_copied_83 : decode cX12_copied 83 = .ok (.aload_n 0, 1) := by decide +kernel
theorem dX12_copied_84 : decode cX12_copied 84 = .ok (.bipush 99, 2) := by decide +kernel
theorem dX12_copied_86 : decode cX12_copied 86 = .ok (.bipush 10, 2) := by decide +kernel
theorem dX12_copied_88 : decode cX12_copied 88 = .ok (.invokevirtual 318, 3) := by decide +kernel
theorem dX12_copied_91 : decode cX12_copied 91 = .ok (.if_icmp .lt 6, 3) := by decide +kernel
theorem dX12_copied_94 : decode cX12_copied 94 = .ok (.goto 43, 3) := by decide +kernel
theorem dX12_copied_97 : decode cX12_copied 97 = .ok (.aload_n 0, 1) := by decide +kernel
theorem dX12_copied_98 : decode cX12_copied 98 = .ok (.iload 4, 2) := by decide +kernel
theorem dX12_copied_100 : decode cX12_copied 100 = .ok (.aload_n 0, 1) := by decide +kernel
theorem dX12_copied_101 : decode cX12_copied 101 = .ok (.getfield 13, 3) := by decide +kernel
theorem dX12_copied_104 : decode cX12_copied 104 = .ok (.iload 4, 2) := by decide +kernel
theorem dX12_copied_106 : decode cX12_copied 106 = .ok (.iaload, 1) := by decide +kernel
theorem dX12_copied_107 : decode cX12_copied 107 = .ok (.iconst 1, 1) := by decide +kernel
theorem dX12_copied_108 : decode cX12_copied 108 = .ok (.iadd, 1) := by decide +kernel
theorem dX12_copied_109 : decode cX12_copied 109 = .ok (.aload_n 0, 1) := by decide +kernel
theorem dX12_copied_110 : decode cX12_copied 110 = .ok (.getfield 138, 3) := by decide +kernel
theorem dX12_copied_113 : decode cX12_copied 113 = .ok (.sipush 512, 3) := by decide +kernel
theorem dX12_copied_116 : decode cX12_copied 116 = .ok (.idiv, 1) := by decide +kernel
theorem dX12_copied_117 : decode cX12_copied 117 = .ok (.aload_n 0, 1) := by decide +kernel
theorem dX12_copied_118 : decode cX12_copied 118 = .ok (.getfield 134, 3) := by decide +kernel
theorem dX12_copied_121 : decode cX12_copied 121 = .ok (.iconst 1, 1) := by decide +kernel
theorem dX12_copied_122 : decode cX12_copied 122 = .ok (.isub, 1) := by decide +kernel
theorem dX12_copied_123 : decode cX12_copied 123 = .ok (.irem, 1) := by decide +kernel
theorem dX12_copied_124 : decode cX12_copied 124 = .ok (.iadd, 1) := by decide +kernel
theorem dX12_copied_125 : decode cX12_copied 125 = .ok (.aload_n 0, 1) := by decide +kernel
theorem dX12_copied_126 : decode cX12_copied 126 = .ok (.getfield 134, 3) := by decide +kernel
theorem dX12_copied_129 : decode cX12_copied 129 = .ok (.irem, 1) := by decide +kernel
theorem dX12_copied_130 : decode cX12_copied 130 = .ok (.invokevirtual 393, 3) := by decide +kernel
theorem dX12_copied_133 : decode cX12_copied 133 = .ok (.iload_n 2, 1) := by decide +kernel
theorem dX12_copied_134 : decode cX12_copied 134 = .ok (.iconst 1, 1) := by decide +kernel
theorem dX12_copied_135 : decode cX12_copied 135 = .ok (.iadd, 1) := by decide +kernel
theorem dX12_copied_136 : decode cX12_copied 136 = .ok (.istore_n 2, 1) := by decide +kernel
theorem dX12_copied_137 : decode cX12_copied 137 = .ok (.iinc 3 1, 3) := by decide +kernel
theorem dX12_copied_140 : decode cX12_copied 140 = .ok (.goto (-117), 3) := by decide +kernel
theorem dX12_copied_143 : decode cX12_copied 143 = .ok (.iload_n 2, 1) := by decide +kernel
theorem dX12_copied_144 : decode cX12_copied 144 = .ok (.ireturn, 1) := by decide +kernel
theorem dX12_copies_0 : decode cX12_copies 0 = .ok (.iconst 0, 1) := by decide +kernel
theorem dX12_copies_1 : decode cX12_copies 1 = .ok (.istore_n 3, 1) := by decide +kernel
theorem dX12_copies_2 : decode cX12_copies 2 = .ok (.iload_n 3, 1) := by decide +kernel
theorem dX12_copies_3 : decode cX12_copies 3 = .ok (.iload_n 2, 1) := by decide +kernel
theorem dX12_copies_4 : decode cX12_copies 4 = .ok (.if_icmp .ge 15, 3) := by decide +kernel
theorem dX12_copies_7 : decode cX12_copies 7 = .ok (.aload_n 1, 1) := by decide +kernel
theorem dX12_copies_8 : decode cX12_copies 8 = .ok (.iload_n 3, 1) := by decide +kernel
theorem dX12_copies_9 : decode cX12_copies 9 = .ok (.aload_n 0, 1) := by decide +kernel
theorem dX12_copies_10 : decode cX12_copies 10 = .ok (.iload_n 3, 1) := by decide +kernel
theorem dX12_copies_11 : decode cX12_copies 11 = .ok (.iaload, 1) := by decide +kernel
theorem dX12_copies_12 : decode cX12_copies 12 = .ok (.iastore, 1) := by decide +kernel
theorem dX12_copies_13 : decode cX12_copies 13 = .ok (.iinc 3 1, 3) := by decide +kernel
theorem dX12_copies_16 : decode cX12_copies 16 = .ok (.goto (-14), 3) := by decide +kernel
theorem dX12_copies_19 : decode cX12_copies 19 = .ok (.return_, 1) := by decide +kernel
theorem dX12_corrects_0 : decode cX12_corrects 0 = .ok (.iload_n 1, 1) := by decide +kernel
theorem dX12_corrects_1 : decode cX12_corrects 1 = .ok (.invokestatic 399, 3) := by decide +kernel
theorem dX12_corrects_4 : decode cX12_corrects 4 = .ok (.ifCond .eq 19, 3) := by decide +kernel
theorem dX12_corrects_7 : decode cX12_corrects 7 = .ok (.aload_n 0, 1) := by decide +kernel
theorem dX12_corrects_8 : decode cX12_corrects 8 = .ok (.iload_n 2, 1) := by decide +kernel
theorem dX12_corrects_9 : decode cX12_corrects 9 = .ok (.invokevirtual 209, 3) := by decide +kernel
theorem dX12_corrects_12 : decode cX12_corrects 12 = .ok (.ifCond .eq 11, 3) := by decide +kernel
theorem dX12_corrects_15 : decode cX12_corrects 15 = .ok (.aload_n 0, 1) := by decide +kernel
theorem dX12_corrects_16 : decode cX12_corrects 16 = .ok (.iload_n 3, 1) := by decide +kernel
theorem dX12_corrects_17 : decode cX12_corrects 17 = .ok (.invokevirtual 225, 3) := by decide +kernel
theorem dX12_corrects_20 : decode cX12_corrects 20 = .ok (.ifCond .ne 7, 3) := by decide +kernel
theorem dX12_corrects_23 : decode cX12_corrects 23 = .ok (.sipush (-1000), 3) := by decide +kernel
theorem dX12_corrects_26 : decode cX12_corrects 26 = .ok (.ireturn, 1) := by decide +kernel
theorem dX12_corrects_27 : decode cX12_corrects 27 = .ok (.aload_n 0, 1) := by decide +kernel
theorem dX12_corrects_28 : decode cX12_corrects 28 = .ok (.iload_n 2, 1) := by decide +kernel
theorem dX12_corrects_29 : decode cX12_corrects 29 = .ok (.invokevirtual 222, 3) := by decide +kernel
theorem dX12_corrects_32 : decode cX12_corrects 32 = .ok (.ifCond .eq 20, 3) := by decide +kernel
theorem dX12_corrects_35 : decode cX12_corrects 35 = .ok (.iload_n 3, 1) := by decide +kernel
theorem dX12_corrects_36 : decode cX12_corrects 36 = .ok (.aload_n 0, 1) := by decide +kernel
theorem dX12_corrects_37 : decode cX12_corrects 37 = .ok (.iload_n 2, 1) := by decide +kernel
theorem dX12_corrects_38 : decode cX12_corrects 38 = .ok (.aload_n 0, 1) := by decide +kernel
theorem dX12_corrects_39 : decode cX12_corrects 39 = .ok (.getfield 13, 3) := by decide +kernel
theorem dX12_corrects_42 : decode cX12_corrects 42 = .ok (.invokevirtual 198, 3) := by decide +kernel
theorem dX12_corrects_45 : decode cX12_corrects 45 = .ok (.if_icmp .ne 7, 3) := by decide +kernel
theorem dX12_corrects_48 : decode cX12_corrects 48 = .ok (.iconst 1, 1) := by decide +kernel
theorem dX12_corrects_49 : decode cX12_corrects 49 = .ok (.goto 4, 3) := by decide +kernel
theorem dX12_corrects_52 : decode cX12_corrects 52 = .ok (.iconst 0, 1) := by decide +kernel
theorem dX12_corrects_53 : decode cX12_corrects 53 = .ok (.istore 4, 2) := by decide +kernel
theorem dX12_corrects_55 : decode cX12_corrects 55 = .ok (.iload 4, 2) := by decide +kernel
theorem dX12_corrects_57 : decode cX12_corrects 57 = .ok (.ifCond .eq 9, 3) := by decide +kernel
theorem dX12_corrects_60 : decode cX12_corrects 60 = .ok (.aload_n 0, 1) := by decide +kernel
theorem dX12_corrects_61 : decode cX12_corrects 61 = .ok (.iload_n 2, 1) := by decide +kernel
theorem dX12_corrects_62 : decode cX12_corrects 62 = .ok (.iload_n 3, 1) := by decide +kernel
theorem dX12_corrects_63 : decode cX12_corrects 63 = .ok (.invokevirtual 393, 3) := by decide +kernel
theorem dX12_corrects_66 : decode cX12_corrects 66 = .ok (.aload_n 0, 1) := by decide +kernel
theorem dX12_corrects_67 : decode cX12_corrects 67 = .ok (.getfield 25, 3) := by decide +kernel
theorem dX12_corrects_70 : decode cX12_corrects 70 = .ok (.iload_n 1, 1) := by decide +kernel
theorem dX12_corrects_71 : decode cX12_corrects 71 = .ok (.iaload, 1) := by decide +kernel
theorem dX12_corrects_72 : decode cX12_corrects 72 = .ok (.iload 4, 2) := by decide +kernel
theorem dX12_corrects_74 : decode cX12_corrects 74 = .ok (.ifCond .eq 7, 3) := by decide +kernel
theorem dX12_corrects_77 : decode cX12_corrects 77 = .ok (.iconst 1, 1) := by decide +kernel
theorem dX12_corrects_78 : decode cX12_corrects 78 = .ok (.goto 4, 3) := by decide +kernel
theorem dX12_corrects_81 : decode cX12_corrects 81 = .ok (.iconst (-1), 1) := by decide +kernel
theorem dX12_corrects_82 : decode cX12_corrects 82 = .ok (.iadd, 1) := by decide +kernel
theorem dX12_corrects_83 : decode cX12_corrects 83 = .ok (.istore 5, 2) := by decide +kernel
theorem dX12_corrects_85 : decode cX12_corrects 85 = .ok (.aload_n 0, 1) := by decide +kernel
theorem dX12_corrects_86 : decode cX12_corrects 86 = .ok (.getfield 25, 3) := by decide +kernel
theorem dX12_corrects_89 : decode cX12_corrects 89 = .ok (.iload_n 1, 1) := by decide +kernel
theorem dX12_corrects_90 : decode cX12_corrects 90 = .ok (.iload 5, 2) := by decide +kernel
theorem dX12_corrects_92 : decode cX12_corrects 92 = .ok (.bipush (-99), 2) := by decide +kernel
theorem dX12_corrects_94 : decode cX12_corrects 94 = .ok (.if_icmp .ge 8, 3) := by decide +kernel
theorem dX12_corrects_97 : decode cX12_corrects 97 = .ok (.bipush (-99), 2) := by decide +kernel
theorem dX12_corrects_99 : decode cX12_corrects 99 = .ok (.goto 17, 3) := by decide +kernel
theorem dX12_corrects_102 : decode cX12_corrects 102 = .ok (.iload 5, 2) := by decide +kernel
theorem dX12_corrects_104 : decode cX12_corrects 104 = .ok (.bipush 99, 2) := by decide +kernel
theorem dX12_corrects_106 : decode cX12_corrects 106 = .ok (.if_icmp .le 8, 3) := by decide +kernel
theorem dX12_corrects_109 : decode cX12_corrects 109 = .ok (.bipush 99, 2) := by decide +kernel
theorem dX12_corrects_111 : decode cX12_corrects 111 = .ok (.goto 5, 3) := by decide +kernel
theorem dX12_corrects_114 : decode cX12_corrects 114 = .ok (.iload 5, 2) := by decide +kernel
theorem dX12_corrects_116 : decode cX12_corrects 116 = .ok (.iastore, 1) := by decide +kernel
theorem dX12_corrects_117 : decode cX12_corrects 117 = .ok (.aload_n 0, 1) := by decide +kernel
theorem dX12_corrects_118 : decode cX12_corrects 118 = .ok (.getfield 25, 3) := by decide +kernel
theorem dX12_corrects_121 : decode cX12_corrects 121 = .ok (.iload_n 1, 1) := by decide +kernel
theorem dX12_corrects_122 : decode cX12_corrects 122 = .ok (.iaload, 1) := by decide +kernel
theorem dX12_corrects_123 : decode cX12_corrects 123 = .ok (.ireturn, 1) := by decide +kernel
theorem dX12_count_0 : decode cX12_count 0 = .ok (.iload_n 1, 1) := by decide +kernel
theorem dX12_count_1 : decode cX12_count 1 = .ok (.tableswitch 118 0 6 #[43, 48, 53, 58, 63, 68, 91], 43) := by decide +kernel
theorem dX12_count_44 : decode cX12_count 44 = .ok (.aload_n 0, 1) := by decide +kernel
theorem dX12_count_45 : decode cX12_count 45 = .ok (.getfield 145, 3) := by decide +kernel
theorem dX12_count_48 : decode cX12_count 48 = .ok (.ireturn, 1) := by decide +kernel
theorem dX12_count_49 : decode cX12_count 49 = .ok (.aload_n 0, 1) := by decide +kernel
theorem dX12_count_50 : decode cX12_count 50 = .ok (.getfield 301, 3) := by decide +kernel
theorem dX12_count_53 : decode cX12_count 53 = .ok (.ireturn, 1) := by decide +kernel
theorem dX12_count_54 : decode cX12_count 54 = .ok (.aload_n 0, 1) := by decide +kernel
theorem dX12_count_55 : decode cX12_count 55 = .ok (.getfield 148, 3) := by decide +kernel
theorem dX12_count_58 : decode cX12_count 58 = .ok (.ireturn, 1) := by decide +kernel
theorem dX12_count_59 : decode cX12_count 59 = .ok (.aload_n 0, 1) := by decide +kernel
theorem dX12_count_60 : decode cX12_count 60 = .ok (.getfield 138, 3) := by decide +kernel
theorem dX12_count_63 : decode cX12_count 63 = .ok (.ireturn, 1) := by decide +kernel
theorem dX12_count_64 : decode cX12_count 64 = .ok (.aload_n 0, 1) := by decide +kernel
theorem dX12_count_65 : decode cX12_count 65 = .ok (.getfield 134, 3) := by decide +kernel
theorem dX12_count_68 : decode cX12_count 68 = .ok (.ireturn, 1) := by decide +kernel
theorem dX12_count_69 : decode cX12_count 69 = .ok (.aload_n 0, 1) := by decide +kernel
theorem dX12_count_70 : decode cX12_count 70 = .ok (.getfield 145, 3) := by decide +kernel
theorem dX12_count_73 : decode cX12_count 73 = .ok (.ifCond .ne 7, 3) := by decide +kernel
theorem dX12_count_76 : decode cX12_count 76 = .ok (.iconst (-1), 1) := by decide +kernel
theorem dX12_count_77 : decode cX12_count 77 = .ok (.goto 14, 3) := by decide +kernel
theorem dX12_count_80 : decode cX12_count 80 = .ok (.aload_n 0, 1) := by decide +kernel
theorem dX12_count_81 : decode cX12_count 81 = .ok (.getfield 13, 3) := by decide +kernel
theorem dX12_count_84 : decode cX12_count 84 = .ok (.aload_n 0, 1) := by decide +kernel
theorem dX12_count_85 : decode cX12_count 85 = .ok (.getfield 145, 3) := by decide +kernel
theorem dX12_count_88 : decode cX12_count 88 = .ok (.iconst 1, 1) := by decide +kernel
theorem dX12_count_89 : decode cX12_count 89 = .ok (.isub, 1) := by decide +kernel
theorem dX12_count_90 : decode cX12_count 90 = .ok (.iaload, 1) := by decide +kernel
theorem dX12_count_91 : decode cX12_count 91 = .ok (.ireturn, 1) := by decide +kernel
theorem dX12_count_92 : decode cX12_count 92 = .ok (.aload_n 0, 1) := by decide +kernel
theorem dX12_count_93 : decode cX12_count 93 = .ok (.invokevirtual 212, 3) := by decide +kernel
theorem dX12_count_96 : decode cX12_count 96 = .ok (.aload_n 0, 1) := by decide +kernel
theorem dX12_count_97 : decode cX12_count 97 = .ok (.getfield 145, 3) := by decide +kernel
theorem dX12_count_100 : decode cX12_count 100 = .ok (.ifCond .ne 7, 3) := by decide +kernel
theorem dX12_count_103 : decode cX12_count 103 = .ok (.iconst (-1), 1) := by decide +kernel
theorem dX12_count_104 : decode cX12_count 104 = .ok (.goto 14, 3) := by decide +kernel
theorem dX12_count_107 : decode cX12_count 107 = .ok (.aload_n 0, 1) := by decide +kernel
theorem dX12_count_108 : decode cX12_count 108 = .ok (.getfield 44, 3) := by decide +kernel
theorem dX12_count_111 : decode cX12_count 111 = .ok (.aload_n 0, 1) := by decide +kernel
theorem dX12_count_112 : decode cX12_count 112 = .ok (.getfield 145, 3) := by decide +kernel
theorem dX12_count_115 : decode cX12_count 115 = .ok (.iconst 1, 1) := by decide +kernel
theorem dX12_count_116 : decode cX12_count 116 = .ok (.isub, 1) := by decide +kernel
theorem dX12_count_117 : decode cX12_count 117 = .ok (.iaload, 1) := by decide +kernel
theorem dX12_count_118 : decode cX12_count 118 = .ok (.ireturn, 1) := by decide +kernel
theorem dX12_count_119 : decode cX12_count 119 = .ok (.iload_n 1, 1) := by decide +kernel
theorem dX12_count_120 : decode cX12_count 120 = .ok (.bipush 10, 2) := by decide +kernel
theorem dX12_count_122 : decode cX12_count 122 = .ok (.bipush 19, 2) := by decide +kernel
theorem dX12_count_124 : decode cX12_count 124 = .ok (.invokestatic 141, 3) := by decide +kernel
theorem dX12_count_127 : decode cX12_count 127 = .ok (.ifCond .eq 15, 3) := by decide +kernel
theorem dX12_count_130 : decode cX12_count 130 = .ok (.aload_n 0, 1) := by decide +kernel
theorem dX12_count_131 : decode cX12_count 131 = .ok (.getfield 7, 3) := by decide +kernel
theorem dX12_count_134 : decode cX12_count 134 = .ok (.iload_n 1, 1) := by decide +kernel
theorem dX12_count_135 : decode cX12_count 135 = .ok (.bipush 10, 2) := by decide +kernel
theorem dX12_count_137 : decode cX12_count 137 = .ok (.isub, 1) := by decide +kernel
theorem dX12_count_138 : decode cX12_count 138 = .ok (.iaload, 1) := by decide +kernel
theorem dX12_count_139 : decode cX12_count 139 = .ok (.goto 4, 3) := by decide +kernel
theorem dX12_count_142 : decode cX12_count 142 = .ok (.iconst (-1), 1) := by decide +kernel
theorem dX12_count_143 : decode cX12_count 143 = .ok (.ireturn, 1) := by decide +kernel
theorem dX12_depthOf_0 : decode cX12_depthOf 0 = .ok (.iconst 0, 1) := by decide +kernel
theorem dX12_depthOf_1 : decode cX12_depthOf 1 = .ok (.istore_n 2, 1) := by decide +kernel
theorem dX12_depthOf_2 : decode cX12_depthOf 2 = .ok (.iload_n 2, 1) := by decide +kernel
theorem dX12_depthOf_3 : decode cX12_depthOf 3 = .ok (.iload_n 1, 1) := by decide +kernel
theorem dX12_depthOf_4 : decode cX12_depthOf 4 = .ok (.if_icmp .gt 68, 3) := by decide +kernel
theorem dX12_depthOf_7 : decode cX12_depthOf 7 = .ok (.aload_n 0, 1) := by decide +kernel
theorem dX12_depthOf_8 : decode cX12_depthOf 8 = .ok (.getfield 53, 3) := by decide +kernel
theorem dX12_depthOf_11 : decode cX12_depthOf 11 = .ok (.iload_n 2, 1) := by decide +kernel
theorem dX12_depthOf_12 : decode cX12_depthOf 12 = .ok (.aload_n 0, 1) := by decide +kernel
theorem dX12_depthOf_13 : decode cX12_depthOf 13 = .ok (.getfield 16, 3) := by decide +kernel
theorem dX12_depthOf_16 : decode cX12_depthOf 16 = .ok (.iload_n 2, 1) := by decide +kernel
theorem dX12_depthOf_17 : decode cX12_depthOf 17 = .ok (.iaload, 1) := by decide +kernel
theorem dX12_depthOf_18 : decode cX12_depthOf 18 = .ok (.ifCond .ne 7, 3) := by decide +kernel
theorem dX12_depthOf_21 : decode cX12_depthOf 21 = .ok (.iconst 0, 1) := by decide +kernel
theorem dX12_depthOf_22 : decode cX12_depthOf 22 = .ok (.goto 43, 3) := by decide +kernel
theorem dX12_depthOf_25 : decode cX12_depthOf 25 = .ok (.iconst 1, 1) := by decide +kernel
theorem dX12_depthOf_26 : decode cX12_depthOf 26 = .ok (.aload_n 0, 1) := by decide +kernel
theorem dX12_depthOf_27 : decode cX12_depthOf 27 = .ok (.getfield 53, 3) := by decide +kernel
theorem dX12_depthOf_30 : decode cX12_depthOf 30 = .ok (.aload_n 0, 1) := by decide +kernel
theorem dX12_depthOf_31 : decode cX12_depthOf 31 = .ok (.getfield 19, 3) := by decide +kernel
theorem dX12_depthOf_34 : decode cX12_depthOf 34 = .ok (.iload_n 2, 1) := by decide +kernel
theorem dX12_depthOf_35 : decode cX12_depthOf 35 = .ok (.iaload, 1) := by decide +kernel
theorem dX12_depthOf_36 : decode cX12_depthOf 36 = .ok (.iaload, 1) := by decide +kernel
theorem dX12_depthOf_37 : decode cX12_depthOf 37 = .ok (.aload_n 0, 1) := by decide +kernel
theorem dX12_depthOf_38 : decode cX12_depthOf 38 = .ok (.getfield 22, 3) := by decide +kernel
theorem dX12_depthOf_41 : decode cX12_depthOf 41 = .ok (.iload_n 2, 1) := by decide +kernel
theorem dX12_depthOf_42 : decode cX12_depthOf 42 = .ok (.iaload, 1) := by decide +kernel
theorem dX12_depthOf_43 : decode cX12_depthOf 43 = .ok (.ifCond .ge 7, 3) := by decide +kernel
theorem dX12_depthOf_46 : decode cX12_depthOf 46 = .ok (.iconst 0, 1) := by decide +kernel
theorem dX12_depthOf_47 : decode cX12_depthOf 47 = .ok (.goto 14, 3) := by decide +kernel
theorem dX12_depthOf_50 : decode cX12_depthOf 50 = .ok (.aload_n 0, 1) := by decide +kernel
theorem dX12_depthOf_51 : decode cX12_depthOf 51 = .ok (.getfield 53, 3) := by decide +kernel
theorem dX12_depthOf_54 : decode cX12_depthOf 54 = .ok (.aload_n 0, 1) := by decide +kernel
theorem dX12_depthOf_55 : decode cX12_depthOf 55 = .ok (.getfield 22, 3) := by decide +kernel
theorem dX12_depthOf_58 : decode cX12_depthOf 58 = .ok (.iload_n 2, 1) := by decide +kernel
theorem dX12_depthOf_59 : decode cX12_depthOf 59 = .ok (.iaload, 1) := by decide +kernel
theorem dX12_depthOf_60 : decode cX12_depthOf 60 = .ok (.iaload, 1) := by decide +kernel
theorem dX12_depthOf_61 : decode cX12_depthOf 61 = .ok (.invokestatic 202, 3) := by decide +kernel
theorem dX12_depthOf_64 : decode cX12_depthOf 64 = .ok (.iadd, 1) := by decide +kernel
theorem dX12_depthOf_65 : decode cX12_depthOf 65 = .ok (.iastore, 1) := by decide +kernel
theorem dX12_depthOf_66 : decode cX12_depthOf 66 = .ok (.iinc 2 1, 3) := by decide +kernel
theorem dX12_depthOf_69 : decode cX12_depthOf 69 = .ok (.goto (-67), 3) := by decide +kernel
theorem dX12_depthOf_72 : decode cX12_depthOf 72 = .ok (.aload_n 0, 1) := by decide +kernel
theorem dX12_depthOf_73 : decode cX12_depthOf 73 = .ok (.getfield 53, 3) := by decide +kernel
theorem dX12_depthOf_76 : decode cX12_depthOf 76 = .ok (.iload_n 1, 1) := by decide +kernel
theorem dX12_depthOf_77 : decode cX12_depthOf 77 = .ok (.iaload, 1) := by decide +kernel
theorem dX12_depthOf_78 : decode cX12_depthOf 78 = .ok (.ireturn, 1) := by decide +kernel
theorem dX12_doesWith_0 : decode cX12_doesWith 0 = .ok (.aload_n 0, 1) := by decide +kernel
theorem dX12_doesWith_1 : decode cX12_doesWith 1 = .ok (.getfield 19, 3) := by decide +kernel
theorem dX12_doesWith_4 : decode cX12_doesWith 4 = .ok (.iload_n 1, 1) := by decide +kernel
theorem dX12_doesWith_5 : decode cX12_doesWith 5 = .ok (.iaload, 1) := by decide +kernel
theorem dX12_doesWith_6 : decode cX12_doesWith 6 = .ok (.istore 4, 2) := by decide +kernel
theorem dX12_doesWith_8 : decode cX12_doesWith 8 = .ok (.aload_n 0, 1) := by decide +kernel
theorem dX12_doesWith_9 : decode cX12_doesWith 9 = .ok (.getfield 22, 3) := by decide +kernel
theorem dX12_doesWith_12 : decode cX12_doesWith 12 = .ok (.iload_n 1, 1) := by decide +kernel
theorem dX12_doesWith_13 : decode cX12_doesWith 13 = .ok (.iaload, 1) := by decide +kernel
theorem dX12_doesWith_14 : decode cX12_doesWith 14 = .ok (.istore 5, 2) := by decide +kernel
theorem dX12_doesWith_16 : decode cX12_doesWith 16 = .ok (.iload_n 2, 1) := by decide +kernel
theorem dX12_doesWith_17 : decode cX12_doesWith 17 = .ok (.ifCond .ne 13, 3) := by decide +kernel
theorem dX12_doesWith_20 : decode cX12_doesWith 20 = .ok (.aload_n 0, 1) := by decide +kernel
theorem dX12_doesWith_21 : decode cX12_doesWith 21 = .ok (.getfield 19, 3) := by decide +kernel
theorem dX12_doesWith_24 : decode cX12_doesWith 24 = .ok (.iload_n 1, 1) := by decide +kernel
theorem dX12_doesWith_25 : decode cX12_doesWith 25 = .ok (.iload_n 3, 1) := by decide +kernel
theorem dX12_doesWith_26 : decode cX12_doesWith 26 = .ok (.iastore, 1) := by decide +kernel
theorem dX12_doesWith_27 : decode cX12_doesWith 27 = .ok (.goto 10, 3) := by decide +kernel
theorem dX12_doesWith_30 : decode cX12_doesWith 30 = .ok (.aload_n 0, 1) := by decide +kernel
theorem dX12_doesWith_31 : decode cX12_doesWith 31 = .ok (.getfield 22, 3) := by decide +kernel
theorem dX12_doesWith_34 : decode cX12_doesWith 34 = .ok (.iload_n 1, 1) := by decide +kernel
theorem dX12_doesWith_35 : decode cX12_doesWith 35 = .ok (.iload_n 3, 1) := by decide +kernel
theorem dX12_doesWith_36 : decode cX12_doesWith 36 = .ok (.iastore, 1) := by decide +kernel
theorem dX12_doesWith_37 : decode cX12_doesWith 37 = .ok (.aload_n 0, 1) := by decide +kernel
theorem dX12_doesWith_38 : decode cX12_doesWith 38 = .ok (.invokevirtual 232, 3) := by decide +kernel
theorem dX12_doesWith_41 : decode cX12_doesWith 41 = .ok (.ifCond .ne 7, 3) := by decide +kernel
theorem dX12_doesWith_44 : decode cX12_doesWith 44 = .ok (.iconst 1, 1) := by decide +kernel
theorem dX12_doesWith_45 : decode cX12_doesWith 45 = .ok (.goto 4, 3) := by decide +kernel
theorem dX12_doesWith_48 : decode cX12_doesWith 48 = .ok (.iconst 0, 1) := by decide +kernel
theorem dX12_doesWith_49 : decode cX12_doesWith 49 = .ok (.istore 6, 2) := by decide +kernel
theorem dX12_doesWith_51 : decode cX12_doesWith 51 = .ok (.aload_n 0, 1) := by decide +kernel
theorem dX12_doesWith_52 : decode cX12_doesWith 52 = .ok (.getfield 19, 3) := by decide +kernel
theorem dX12_doesWith_55 : decode cX12_doesWith 55 = .ok (.iload_n 1, 1) := by decide +kernel
theorem dX12_doesWith_56 : decode cX12_doesWith 56 = .ok (.iload 4, 2) := by decide +kernel
theorem dX12_doesWith_58 : decode cX12_doesWith 58 = .ok (.iastore, 1) := by decide +kernel
theorem dX12_doesWith_59 : decode cX12_doesWith 59 = .ok (.aload_n 0, 1) := by decide +kernel
theorem dX12_doesWith_60 : decode cX12_doesWith 60 = .ok (.getfield 22, 3) := by decide +kernel
theorem dX12_doesWith_63 : decode cX12_doesWith 63 = .ok (.iload_n 1, 1) := by decide +kernel
theorem dX12_doesWith_64 : decode cX12_doesWith 64 = .ok (.iload 5, 2) := by decide +kernel
theorem dX12_doesWith_66 : decode cX12_doesWith 66 = .ok (.iastore, 1) := by decide +kernel
theorem dX12_doesWith_67 : decode cX12_doesWith 67 = .ok (.iload 6, 2) := by decide +kernel
theorem dX12_doesWith_69 : decode cX12_doesWith 69 = .ok (.ireturn, 1) := by decide +kernel
theorem dX12_endsPiece_0 : decode cX12_endsPiece 0 = .ok (.aload_n 0, 1) := by decide +kernel
theorem dX12_endsPiece_1 : decode cX12_endsPiece 1 = .ok (.invokevirtual 248, 3) := by decide +kernel
theorem dX12_endsPiece_4 : decode cX12_endsPiece 4 = .ok (.bipush 10, 2) := by decide +kernel
theorem dX12_endsPiece_6 : decode cX12_endsPiece 6 = .ok (.if_icmp .ne 33, 3) := by decide +kernel
theorem dX12_endsPiece_9 : decode cX12_endsPiece 9 = .ok (.aload_n 0, 1) := by decide +kernel
theorem dX12_endsPiece_10 : decode cX12_endsPiece 10 = .ok (.bipush 10, 2) := by decide +kernel
theorem dX12_endsPiece_12 : decode cX12_endsPiece 12 = .ok (.iconst 0, 1) := by decide +kernel
theorem dX12_endsPiece_13 : decode cX12_endsPiece 13 = .ok (.invokevirtual 251, 3) := by decide +kernel
theorem dX12_endsPiece_16 : decode cX12_endsPiece 16 = .ok (.aload_n 0, 1) := by decide +kernel
theorem dX12_endsPiece_17 : decode cX12_endsPiece 17 = .ok (.aload_n 0, 1) := by decide +kernel
theorem dX12_endsPiece_18 : decode cX12_endsPiece 18 = .ok (.getfield 245, 3) := by decide +kernel
theorem dX12_endsPiece_21 : decode cX12_endsPiece 21 = .ok (.iconst 1, 1) := by decide +kernel
theorem dX12_endsPiece_22 : decode cX12_endsPiece 22 = .ok (.isub, 1) := by decide +kernel
theorem dX12_endsPiece_23 : decode cX12_endsPiece 23 = .ok (.putfield 245, 3) := by decide +kernel
theorem dX12_endsPiece_26 : decode cX12_endsPiece 26 = .ok (.aload_n 0, 1) := by decide +kernel
theorem dX12_endsPiece_27 : decode cX12_endsPiece 27 = .ok (.aload_n 0, 1) := by decide +kernel
theorem dX12_endsPiece_28 : decode cX12_endsPiece 28 = .ok (.getfield 242, 3) := by decide +kernel
theorem dX12_endsPiece_31 : decode cX12_endsPiece 31 = .ok (.iconst 1, 1) := by decide +kernel
theorem dX12_endsPiece_32 : decode cX12_endsPiece 32 = .ok (.isub, 1) := by decide +kernel
theorem dX12_endsPiece_33 : decode cX12_endsPiece 33 = .ok (.putfield 242, 3) := by decide +kernel
theorem dX12_endsPiece_36 : decode cX12_endsPiece 36 = .ok (.goto (-36), 3) := by decide +kernel
theorem dX12_endsPiece_39 : decode cX12_endsPiece 39 = .ok (.return_, 1) := by decide +kernel
theorem dX12_factOf_0 : decode cX12_factOf 0 = .ok (.iload_n 0, 1) := by decide +kernel
theorem dX12_factOf_1 : decode cX12_factOf 1 = .ok (.tableswitch 109 100 118 #[97, 109, 109, 109, 106, 91, 109, 93, 101, 103, 109, 109, 109, 109, 109, 109, 109, 99, 95], 91) := by decide +kernel
theorem dX12_factOf_92 : decode cX12_factOf 92 = .ok (.iconst 0, 1) := by decide +kernel
theorem dX12_factOf_93 : decode cX12_factOf 93 = .ok (.ireturn, 1) := by decide +kernel
theorem dX12_factOf_94 : decode cX12_factOf 94 = .ok (.iconst 1, 1) := by decide +kernel
theorem dX12_factOf_95 : decode cX12_factOf 95 = .ok (.ireturn, 1) := by decide +kernel
theorem dX12_factOf_96 : decode cX12_factOf 96 = .ok (.iconst 2, 1) := by decide +kernel
theorem dX12_factOf_97 : decode cX12_factOf 97 = .ok (.ireturn, 1) := by decide +kernel
theorem dX12_factOf_98 : decode cX12_factOf 98 = .ok (.iconst 3, 1) := by decide +kernel
theorem dX12_factOf_99 : decode cX12_factOf 99 = .ok (.ireturn, 1) := by decide +kernel
theorem dX12_factOf_100 : decode cX12_factOf 100 = .ok (.iconst 4, 1) := by decide +kernel
theorem dX12_factOf_101 : decode cX12_factOf 101 = .ok (.ireturn, 1) := by decide +kernel
theorem dX12_factOf_102 : decode cX12_factOf 102 = .ok (.iconst 5, 1) := by decide +kernel
theorem dX12_factOf_103 : decode cX12_factOf 103 = .ok (.ireturn, 1) := by decide +kernel
theorem dX12_factOf_104 : decode cX12_factOf 104 = .ok (.bipush 6, 2) := by decide +kernel
theorem dX12_factOf_106 : decode cX12_factOf 106 = .ok (.ireturn, 1) := by decide +kernel
theorem dX12_factOf_107 : decode cX12_factOf 107 = .ok (.bipush 7, 2) := by decide +kernel
theorem dX12_factOf_109 : decode cX12_factOf 109 = .ok (.ireturn, 1) := by decide +kernel
theorem dX12_factOf_110 : decode cX12_factOf 110 = .ok (.iconst (-1), 1) := by decide +kernel
theorem dX12_factOf_111 : decode cX12_factOf 111 = .ok (.ireturn, 1) := by decide +kernel
theorem dX12_feed_0 : decode cX12_feed 0 = .ok (.aload_n 0, 1) := by decide +kernel
theorem dX12_feed_1 : decode cX12_feed 1 = .ok (.getfield 148, 3) := by decide +kernel
theorem dX12_feed_4 : decode cX12_feed 4 = .ok (.bipush 20, 2) := by decide +kernel
theorem dX12_feed_6 : decode cX12_feed 6 = .ok (.iadd, 1) := by decide +kernel
theorem dX12_feed_7 : decode cX12_feed 7 = .ok (.sipush 220, 3) := by decide +kernel
theorem dX12_feed_10 : decode cX12_feed 10 = .ok (.if_icmp .le 5, 3) := by decide +kernel
theorem dX12_feed_13 : decode cX12_feed 13 = .ok (.iconst (-1), 1) := by decide +kernel
theorem dX12_feed_14 : decode cX12_feed 14 = .ok (.ireturn, 1) := by decide +kernel
theorem dX12_feed_15 : decode cX12_feed 15 = .ok (.aload_n 0, 1) := by decide +kernel
theorem dX12_feed_16 : decode cX12_feed 16 = .ok (.iload_n 1, 1) := by decide +kernel
theorem dX12_feed_17 : decode cX12_feed 17 = .ok (.invokevirtual 151, 3) := by decide +kernel
theorem dX12_feed_20 : decode cX12_feed 20 = .ok (.aload_n 0, 1) := by decide +kernel
theorem dX12_feed_21 : decode cX12_feed 21 = .ok (.iload_n 2, 1) := by decide +kernel
theorem dX12_feed_22 : decode cX12_feed 22 = .ok (.invokevirtual 151, 3) := by decide +kernel
theorem dX12_feed_25 : decode cX12_feed 25 = .ok (.aload_n 0, 1) := by decide +kernel
theorem dX12_feed_26 : decode cX12_feed 26 = .ok (.iload_n 3, 1) := by decide +kernel
theorem dX12_feed_27 : decode cX12_feed 27 = .ok (.invokevirtual 151, 3) := by decide +kernel
theorem dX12_feed_30 : decode cX12_feed 30 = .ok (.aload_n 0, 1) := by decide +kernel
theorem dX12_feed_31 : decode cX12_feed 31 = .ok (.iload 4, 2) := by decide +kernel
theorem dX12_feed_33 : decode cX12_feed 33 = .ok (.invokevirtual 151, 3) := by decide +kernel
theorem dX12_feed_36 : decode cX12_feed 36 = .ok (.aload_n 0, 1) := by decide +kernel
theorem dX12_feed_37 : decode cX12_feed 37 = .ok (.iload 5, 2) := by decide +kernel
theorem dX12_feed_39 : decode cX12_feed 39 = .ok (.invokevirtual 151, 3) := by decide +kernel
theorem dX12_feed_42 : decode cX12_feed 42 = .ok (.aload_n 0, 1) := by decide +kernel
theorem dX12_feed_43 : decode cX12_feed 43 = .ok (.getfield 148, 3) := by decide +kernel
theorem dX12_feed_46 : decode cX12_feed 46 = .ok (.ireturn, 1) := by decide +kernel
theorem dX12_feels_0 : decode cX12_feels 0 = .ok (.aload_n 0, 1) := by decide +kernel
theorem dX12_feels_1 : decode cX12_feels 1 = .ok (.getfield 92, 3) := by decide +kernel
theorem dX12_feels_4 : decode cX12_feels 4 = .ok (.iconst 0, 1) := by decide +kernel
theorem dX12_feels_5 : decode cX12_feels 5 = .ok (.iload_n 1, 1) := by decide +kernel
theorem dX12_feels_6 : decode cX12_feels 6 = .ok (.iastore, 1) := by decide +kernel
theorem dX12_feels_7 : decode cX12_feels 7 = .ok (.aload_n 0, 1) := by decide +kernel
theorem dX12_feels_8 : decode cX12_feels 8 = .ok (.getfield 92, 3) := by decide +kernel
theorem dX12_feels_11 : decode cX12_feels 11 = .ok (.iconst 1, 1) := by decide +kernel
theorem dX12_feels_12 : decode cX12_feels 12 = .ok (.aload_n 0, 1) := by decide +kernel
theorem dX12_feels_13 : decode cX12_feels 13 = .ok (.getfield 16, 3) := by decide +kernel
theorem dX12_feels_16 : decode cX12_feels 16 = .ok (.iload_n 1, 1) := by decide +kernel
theorem dX12_feels_17 : decode cX12_feels 17 = .ok (.iaload, 1) := by decide +kernel
theorem dX12_feels_18 : decode cX12_feels 18 = .ok (.iastore, 1) := by decide +kernel
theorem dX12_feels_19 : decode cX12_feels 19 = .ok (.aload_n 0, 1) := by decide +kernel
theorem dX12_feels_20 : decode cX12_feels 20 = .ok (.getfield 92, 3) := by decide +kernel
theorem dX12_feels_23 : decode cX12_feels 23 = .ok (.iconst 2, 1) := by decide +kernel
theorem dX12_feels_24 : decode cX12_feels 24 = .ok (.iload_n 2, 1) := by decide +kernel
theorem dX12_feels_25 : decode cX12_feels 25 = .ok (.iastore, 1) := by decide +kernel
theorem dX12_feels_26 : decode cX12_feels 26 = .ok (.aload_n 0, 1) := by decide +kernel
theorem dX12_feels_27 : decode cX12_feels 27 = .ok (.getfield 92, 3) := by decide +kernel
theorem dX12_feels_30 : decode cX12_feels 30 = .ok (.iconst 3, 1) := by decide +kernel
theorem dX12_feels_31 : decode cX12_feels 31 = .ok (.aload_n 0, 1) := by decide +kernel
theorem dX12_feels_32 : decode cX12_feels 32 = .ok (.iload_n 1, 1) := by decide +kernel
theorem dX12_feels_33 : decode cX12_feels 33 = .ok (.invokevirtual 215, 3) := by decide +kernel
theorem dX12_feels_36 : decode cX12_feels 36 = .ok (.iastore, 1) := by decide +kernel
theorem dX12_feels_37 : decode cX12_feels 37 = .ok (.aload_n 0, 1) := by decide +kernel
theorem dX12_feels_38 : decode cX12_feels 38 = .ok (.getfield 92, 3) := by decide +kernel
theorem dX12_feels_41 : decode cX12_feels 41 = .ok (.iconst 4, 1) := by decide +kernel
theorem dX12_feels_42 : decode cX12_feels 42 = .ok (.aload_n 0, 1) := by decide +kernel
theorem dX12_feels_43 : decode cX12_feels 43 = .ok (.iload_n 1, 1) := by decide +kernel
theorem dX12_feels_44 : decode cX12_feels 44 = .ok (.invokevirtual 219, 3) := by decide +kernel
theorem dX12_feels_47 : decode cX12_feels 47 = .ok (.iastore, 1) := by decide +kernel
theorem dX12_feels_48 : decode cX12_feels 48 = .ok (.aload_n 0, 1) := by decide +kernel
theorem dX12_feels_49 : decode cX12_feels 49 = .ok (.getfield 92, 3) := by decide +kernel
theorem dX12_feels_52 : decode cX12_feels 52 = .ok (.iconst 5, 1) := by decide +kernel
theorem dX12_feels_53 : decode cX12_feels 53 = .ok (.aload_n 0, 1) := by decide +kernel
theorem dX12_feels_54 : decode cX12_feels 54 = .ok (.getfield 145, 3) := by decide +kernel
theorem dX12_feels_57 : decode cX12_feels 57 = .ok (.iastore, 1) := by decide +kernel
theorem dX12_feels_58 : decode cX12_feels 58 = .ok (.aload_n 0, 1) := by decide +kernel
theorem dX12_feels_59 : decode cX12_feels 59 = .ok (.getfield 92, 3) := by decide +kernel
theorem dX12_feels_62 : decode cX12_feels 62 = .ok (.bipush 6, 2) := by decide +kernel
theorem dX12_feels_64 : decode cX12_feels 64 = .ok (.aload_n 0, 1) := by decide +kernel
theorem dX12_feels_65 : decode cX12_feels 65 = .ok (.getfield 134, 3) := by decide +kernel
theorem dX12_feels_68 : decode cX12_feels 68 = .ok (.iastore, 1) := by decide +kernel
theorem dX12_feels_69 : decode cX12_feels 69 = .ok (.aload_n 0, 1) := by decide +kernel
theorem dX12_feels_70 : decode cX12_feels 70 = .ok (.getfield 92, 3) := by decide +kernel
theorem dX12_feels_73 : decode cX12_feels 73 = .ok (.bipush 7, 2) := by decide +kernel
theorem dX12_feels_75 : decode cX12_feels 75 = .ok (.iload_n 3, 1) := by decide +kernel
theorem dX12_feels_76 : decode cX12_feels 76 = .ok (.iastore, 1) := by decide +kernel
theorem dX12_feels_77 : decode cX12_feels 77 = .ok (.return_, 1) := by decide +kernel
theorem dX12_findsOf_0 : decode cX12_findsOf 0 = .ok (.iconst 0, 1) := by decide +kernel
theorem dX12_findsOf_1 : decode cX12_findsOf 1 = .ok (.istore 4, 2) := by decide +kernel
theorem dX12_findsOf_3 : decode cX12_findsOf 3 = .ok (.iconst 0, 1) := by decide +kernel
theorem dX12_findsOf_4 : decode cX12_findsOf 4 = .ok (.istore 5, 2) := by decide +kernel
theorem dX12_findsOf_6 : decode cX12_findsOf 6 = .ok (.iload 5, 2) := by decide +kernel
theorem dX12_findsOf_8 : decode cX12_findsOf 8 = .ok (.bipush 10, 2) := by decide +kernel
theorem dX12_findsOf_10 : decode cX12_findsOf 10 = .ok (.if_icmp .ge 35, 3) := by decide +kernel
theorem dX12_findsOf_13 : decode cX12_findsOf 13 = .ok (.iload_n 1, 1) := by decide +kernel
theorem dX12_findsOf_14 : decode cX12_findsOf 14 = .ok (.iload 5, 2) := by decide +kernel
theorem dX12_findsOf_16 : decode cX12_findsOf 16 = .ok (.invokestatic 327, 3) := by decide +kernel
theorem dX12_findsOf_19 : decode cX12_findsOf 19 = .ok (.ifCond .eq 20, 3) := by decide +kernel
theorem dX12_findsOf_22 : decode cX12_findsOf 22 = .ok (.aload_n 0, 1) := by decide +kernel
theorem dX12_findsOf_23 : decode cX12_findsOf 23 = .ok (.iload_n 2, 1) := by decide +kernel
theorem dX12_findsOf_24 : decode cX12_findsOf 24 = .ok (.iload_n 3, 1) := by decide +kernel
theorem dX12_findsOf_25 : decode cX12_findsOf 25 = .ok (.iload 5, 2) := by decide +kernel
theorem dX12_findsOf_27 : decode cX12_findsOf 27 = .ok (.invokevirtual 315, 3) := by decide +kernel
theorem dX12_findsOf_30 : decode cX12_findsOf 30 = .ok (.ifCond .eq 9, 3) := by decide +kernel
theorem dX12_findsOf_33 : decode cX12_findsOf 33 = .ok (.iload 4, 2) := by decide +kernel
theorem dX12_findsOf_35 : decode cX12_findsOf 35 = .ok (.iconst 1, 1) := by decide +kernel
theorem dX12_findsOf_36 : decode cX12_findsOf 36 = .ok (.iadd, 1) := by decide +kernel
theorem dX12_findsOf_37 : decode cX12_findsOf 37 = .ok (.istore 4, 2) := by decide +kernel
theorem dX12_findsOf_39 : decode cX12_findsOf 39 = .ok (.iinc 5 1, 3) := by decide +kernel
theorem dX12_findsOf_42 : decode cX12_findsOf 42 = .ok (.goto (-36), 3) := by decide +kernel
theorem dX12_findsOf_45 : decode cX12_findsOf 45 = .ok (.iload 4, 2) := by decide +kernel
theorem dX12_findsOf_47 : decode cX12_findsOf 47 = .ok (.ireturn, 1) := by decide +kernel
theorem dX12_gcd_0 : decode cX12_gcd 0 = .ok (.lload_n 0, 1) := by decide +kernel
theorem dX12_gcd_1 : decode cX12_gcd 1 = .ok (.lstore 4, 2) := by decide +kernel
theorem dX12_gcd_3 : decode cX12_gcd 3 = .ok (.lload_n 2, 1) := by decide +kernel
theorem dX12_gcd_4 : decode cX12_gcd 4 = .ok (.lstore 6, 2) := by decide +kernel
theorem dX12_gcd_6 : decode cX12_gcd 6 = .ok (.lload 6, 2) := by decide +kernel
theorem dX12_gcd_8 : decode cX12_gcd 8 = .ok (.lconst 0, 1) := by decide +kernel
theorem dX12_gcd_9 : decode cX12_gcd 9 = .ok (.lcmp, 1) := by decide +kernel
theorem dX12_gcd_10 : decode cX12_gcd 10 = .ok (.ifCond .eq 21, 3) := by decide +kernel
theorem dX12_gcd_13 : decode cX12_gcd 13 = .ok (.lload 4, 2) := by decide +kernel
theorem dX12_gcd_15 : decode cX12_gcd 15 = .ok (.lload 6, 2) := by decide +kernel
theorem dX12_gcd_17 : decode cX12_gcd 17 = .ok (.lrem, 1) := by decide +kernel
theorem dX12_gcd_18 : decode cX12_gcd 18 = .ok (.lstore 8, 2) := by decide +kernel
theorem dX12_gcd_20 : decode cX12_gcd 20 = .ok (.lload 6, 2) := by decide +kernel
theorem dX12_gcd_22 : decode cX12_gcd 22 = .ok (.lstore 4, 2) := by decide +kernel
theorem dX12_gcd_24 : decode cX12_gcd 24 = .ok (.lload 8, 2) := by decide +kernel
theorem dX12_gcd_26 : decode cX12_gcd 26 = .ok (.lstore 6, 2) := by decide +kernel
theorem dX12_gcd_28 : decode cX12_gcd 28 = .ok (.goto (-22), 3) := by decide +kernel
theorem dX12_gcd_31 : decode cX12_gcd 31 = .ok (.lload 4, 2) := by decide +kernel
theorem dX12_gcd_33 : decode cX12_gcd 33 = .ok (.lreturn, 1) := by decide +kernel
theorem dX12_has_0 : decode cX12_has 0 = .ok (.iload_n 0, 1) := by decide +kernel
theorem dX12_has_1 : decode cX12_has 1 = .ok (.iload_n 1, 1) := by decide +kernel
theorem dX12_has_2 : decode cX12_has 2 = .ok (.ishr, 1) := by decide +kernel
theorem dX12_has_3 : decode cX12_has 3 = .ok (.iconst 1, 1) := by decide +kernel
theorem dX12_has_4 : decode cX12_has 4 = .ok (.iand, 1) := by decide +kernel
theorem dX12_has_5 : decode cX12_has 5 = .ok (.iconst 1, 1) := by decide +kernel
theorem dX12_has_6 : decode cX12_has 6 = .ok (.if_icmp .ne 7, 3) := by decide +kernel
theorem dX12_has_9 : decode cX12_has 9 = .ok (.iconst 1, 1) := by decide +kernel
theorem dX12_has_10 : decode cX12_has 10 = .ok (.goto 4, 3) := by decide +kernel
theorem dX12_has_13 : decode cX12_has 13 = .ok (.iconst 0, 1) := by decide +kernel
theorem dX12_has_14 : decode cX12_has 14 = .ok (.ireturn, 1) := by decide +kernel
theorem dX12_hasIt_0 : decode cX12_hasIt 0 = .ok (.aload_n 0, 1) := by decide +kernel
theorem dX12_hasIt_1 : decode cX12_hasIt 1 = .ok (.getfield 16, 3) := by decide +kernel
theorem dX12_hasIt_4 : decode cX12_hasIt 4 = .ok (.iload_n 1, 1) := by decide +kernel
theorem dX12_hasIt_5 : decode cX12_hasIt 5 = .ok (.iaload, 1) := by decide +kernel
theorem dX12_hasIt_6 : decode cX12_hasIt 6 = .ok (.ifCond .eq 13, 3) := by decide +kernel
theorem dX12_hasIt_9 : decode cX12_hasIt 9 = .ok (.aload_n 0, 1) := by decide +kernel
theorem dX12_hasIt_10 : decode cX12_hasIt 10 = .ok (.getfield 19, 3) := by decide +kernel
theorem dX12_hasIt_13 : decode cX12_hasIt 13 = .ok (.iload_n 1, 1) := by decide +kernel
theorem dX12_hasIt_14 : decode cX12_hasIt 14 = .ok (.iaload, 1) := by decide +kernel
theorem dX12_hasIt_15 : decode cX12_hasIt 15 = .ok (.iload_n 2, 1) := by decide +kernel
theorem dX12_hasIt_16 : decode cX12_hasIt 16 = .ok (.if_icmp .eq 13, 3) := by decide +kernel
theorem dX12_hasIt_19 : decode cX12_hasIt 19 = .ok (.aload_n 0, 1) := by decide +kernel
theorem dX12_hasIt_20 : decode cX12_hasIt 20 = .ok (.getfield 22, 3) := by decide +kernel
theorem dX12_hasIt_23 : decode cX12_hasIt 23 = .ok (.iload_n 1, 1) := by decide +kernel
theorem dX12_hasIt_24 : decode cX12_hasIt 24 = .ok (.iaload, 1) := by decide +kernel
theorem dX12_hasIt_25 : decode cX12_hasIt 25 = .ok (.iload_n 2, 1) := by decide +kernel
theorem dX12_hasIt_26 : decode cX12_hasIt 26 = .ok (.if_icmp .ne 7, 3) := by decide +kernel
theorem dX12_hasIt_29 : decode cX12_hasIt 29 = .ok (.iconst 1, 1) := by decide +kernel
theorem dX12_hasIt_30 : decode cX12_hasIt 30 = .ok (.goto 4, 3) := by decide +kernel
theorem dX12_hasIt_33 : decode cX12_hasIt 33 = .ok (.iconst 0, 1) := by decide +kernel
theorem dX12_hasIt_34 : decode cX12_hasIt 34 = .ok (.ireturn, 1) := by decide +kernel
theorem dX12_hasOpenSum_0 : decode cX12_hasOpenSum 0 = .ok (.iload_n 1, 1) := by decide +kernel
theorem dX12_hasOpenSum_1 : decode cX12_hasOpenSum 1 = .ok (.istore_n 2, 1) := by decide +kernel
theorem dX12_hasOpenSum_2 : decode cX12_hasOpenSum 2 = .ok (.iload_n 2, 1) := by decide +kernel
theorem dX12_hasOpenSum_3 : decode cX12_hasOpenSum 3 = .ok (.aload_n 0, 1) := by decide +kernel
theorem dX12_hasOpenSum_4 : decode cX12_hasOpenSum 4 = .ok (.getfield 245, 3) := by decide +kernel
theorem dX12_hasOpenSum_7 : decode cX12_hasOpenSum 7 = .ok (.if_icmp .ge 25, 3) := by decide +kernel
theorem dX12_hasOpenSum_10 : decode cX12_hasOpenSum 10 = .ok (.aload_n 0, 1) := by decide +kernel
theorem dX12_hasOpenSum_11 : decode cX12_hasOpenSum 11 = .ok (.getfield 59, 3) := by decide +kernel
theorem dX12_hasOpenSum_14 : decode cX12_hasOpenSum 14 = .ok (.iload_n 2, 1) := by decide +kernel
theorem dX12_hasOpenSum_15 : decode cX12_hasOpenSum 15 = .ok (.iaload, 1) := by decide +kernel
theorem dX12_hasOpenSum_16 : decode cX12_hasOpenSum 16 = .ok (.ldc 241, 2) := by decide +kernel
theorem dX12_hasOpenSum_18 : decode cX12_hasOpenSum 18 = .ok (.idiv, 1) := by decide +kernel
theorem dX12_hasOpenSum_19 : decode cX12_hasOpenSum 19 = .ok (.bipush 14, 2) := by decide +kernel
theorem dX12_hasOpenSum_21 : decode cX12_hasOpenSum 21 = .ok (.if_icmp .ne 5, 3) := by decide +kernel
theorem dX12_hasOpenSum_24 : decode cX12_hasOpenSum 24 = .ok (.iconst 1, 1) := by decide +kernel
theorem dX12_hasOpenSum_25 : decode cX12_hasOpenSum 25 = .ok (.ireturn, 1) := by decide +kernel
theorem dX12_hasOpenSum_26 : decode cX12_hasOpenSum 26 = .ok (.iinc 2 1, 3) := by decide +kernel
theorem dX12_hasOpenSum_29 : decode cX12_hasOpenSum 29 = .ok (.goto (-27), 3) := by decide +kernel
theorem dX12_hasOpenSum_32 : decode cX12_hasOpenSum 32 = .ok (.iconst 0, 1) := by decide +kernel
theorem dX12_hasOpenSum_33 : decode cX12_hasOpenSum 33 = .ok (.ireturn, 1) := by decide +kernel
theorem dX12_here_0 : decode cX12_here 0 = .ok (.aload_n 0, 1) := by decide +kernel
theorem dX12_here_1 : decode cX12_here 1 = .ok (.getfield 155, 3) := by decide +kernel
theorem dX12_here_4 : decode cX12_here 4 = .ok (.aload_n 0, 1) := by decide +kernel
theorem dX12_here_5 : decode cX12_here 5 = .ok (.getfield 189, 3) := by decide +kernel
theorem dX12_here_8 : decode cX12_here 8 = .ok (.if_icmp .ge 19, 3) := by decide +kernel
theorem dX12_here_11 : decode cX12_here 11 = .ok (.aload_n 0, 1) := by decide +kernel
theorem dX12_here_12 : decode cX12_here 12 = .ok (.getfield 28, 3) := by decide +kernel
theorem dX12_here_15 : decode cX12_here 15 = .ok (.aload_n 0, 1) := by decide +kernel
theorem dX12_here_16 : decode cX12_here 16 = .ok (.getfield 155, 3) := by decide +kernel
theorem dX12_here_19 : decode cX12_here 19 = .ok (.baload, 1) := by decide +kernel
theorem dX12_here_20 : decode cX12_here 20 = .ok (.sipush 255, 3) := by decide +kernel
theorem dX12_here_23 : decode cX12_here 23 = .ok (.iand, 1) := by decide +kernel
theorem dX12_here_24 : decode cX12_here 24 = .ok (.goto 4, 3) := by decide +kernel
theorem dX12_here_27 : decode cX12_here 27 = .ok (.iconst (-1), 1) := by decide +kernel
theorem dX12_here_28 : decode cX12_here 28 = .ok (.ireturn, 1) := by decide +kernel
theorem dX12_hidden_0 : decode cX12_hidden 0 = .ok (.iload_n 1, 1) := by decide +kernel
theorem dX12_hidden_1 : decode cX12_hidden 1 = .ok (.iconst 1, 1) := by decide +kernel
theorem dX12_hidden_2 : decode cX12_hidden 2 = .ok (.sipush 1023, 3) := by decide +kernel
theorem dX12_hidden_5 : decode cX12_hidden 5 = .ok (.invokestatic 141, 3) := by decide +kernel
theorem dX12_hidden_8 : decode cX12_hidden 8 = .ok (.ifCond .eq 19, 3) := by decide +kernel
theorem dX12_hidden_11 : decode cX12_hidden 11 = .ok (.iload_n 2, 1) := by decide +kernel
theorem dX12_hidden_12 : decode cX12_hidden 12 = .ok (.iconst 0, 1) := by decide +kernel
theorem dX12_hidden_13 : decode cX12_hidden 13 = .ok (.iconst 2, 1) := by decide +kernel
theorem dX12_hidden_14 : decode cX12_hidden 14 = .ok (.invokestatic 141, 3) := by decide +kernel
theorem dX12_hidden_17 : decode cX12_hidden 17 = .ok (.ifCond .eq 10, 3) := by decide +kernel
theorem dX12_hidden_20 : decode cX12_hidden 20 = .ok (.aload_n 0, 1) := by decide +kernel
theorem dX12_hidden_21 : decode cX12_hidden 21 = .ok (.getfield 145, 3) := by decide +kernel
theorem dX12_hidden_24 : decode cX12_hidden 24 = .ok (.ifCond .ne 5, 3) := by decide +kernel
theorem dX12_hidden_27 : decode cX12_hidden 27 = .ok (.iconst (-1), 1) := by decide +kernel
theorem dX12_hidden_28 : decode cX12_hidden 28 = .ok (.ireturn, 1) := by decide +kernel
theorem dX12_hidden_29 : decode cX12_hidden 29 = .ok (.aload_n 0, 1) := by decide +kernel
theorem dX12_hidden_30 : decode cX12_hidden 30 = .ok (.invokevirtual 212, 3) := by decide +kernel
theorem dX12_hidden_33 : decode cX12_hidden 33 = .ok (.iconst 0, 1) := by decide +kernel
theorem dX12_hidden_34 : decode cX12_hidden 34 = .ok (.istore_n 3, 1) := by decide +kernel
theorem dX12_hidden_35 : decode cX12_hidden 35 = .ok (.ldc_w 333, 3) := by decide +kernel
theorem dX12_hidden_38 : decode cX12_hidden 38 = .ok (.istore 4, 2) := by decide +kernel
theorem dX12_hidden_40 : decode cX12_hidden 40 = .ok (.iconst 0, 1) := by decide +kernel
theorem dX12_hidden_41 : decode cX12_hidden 41 = .ok (.istore 5, 2) := by decide +kernel
theorem dX12_hidden_43 : decode cX12_hidden 43 = .ok (.iload 5, 2) := by decide +kernel
theorem dX12_hidden_45 : decode cX12_hidden 45 = .ok (.aload_n 0, 1) := by decide +kernel
theorem dX12_hidden_46 : decode cX12_hidden 46 = .ok (.getfield 145, 3) := by decide +kernel
theorem dX12_hidden_49 : decode cX12_hidden 49 = .ok (.aload_n 0, 1) := by decide +kernel
theorem dX12_hidden_50 : decode cX12_hidden 50 = .ok (.getfield 134, 3) := by decide +kernel
theorem dX12_hidden_53 : decode cX12_hidden 53 = .ok (.imul, 1) := by decide +kernel
theorem dX12_hidden_54 : decode cX12_hidden 54 = .ok (.if_icmp .ge 71, 3) := by decide +kernel
theorem dX12_hidden_57 : decode cX12_hidden 57 = .ok (.iload 5, 2) := by decide +kernel
theorem dX12_hidden_59 : decode cX12_hidden 59 = .ok (.aload_n 0, 1) := by decide +kernel
theorem dX12_hidden_60 : decode cX12_hidden 60 = .ok (.getfield 134, 3) := by decide +kernel
theorem dX12_hidden_63 : decode cX12_hidden 63 = .ok (.idiv, 1) := by decide +kernel
theorem dX12_hidden_64 : decode cX12_hidden 64 = .ok (.istore 6, 2) := by decide +kernel
theorem dX12_hidden_66 : decode cX12_hidden 66 = .ok (.iload 5, 2) := by decide +kernel
theorem dX12_hidden_68 : decode cX12_hidden 68 = .ok (.aload_n 0, 1) := by decide +kernel
theorem dX12_hidden_69 : decode cX12_hidden 69 = .ok (.getfield 134, 3) := by decide +kernel
theorem dX12_hidden_72 : decode cX12_hidden 72 = .ok (.irem, 1) := by decide +kernel
theorem dX12_hidden_73 : decode cX12_hidden 73 = .ok (.aload_n 0, 1) := by decide +kernel
theorem dX12_hidden_74 : decode cX12_hidden 74 = .ok (.getfield 44, 3) := by decide +kernel
theorem dX12_hidden_77 : decode cX12_hidden 77 = .ok (.iload 6, 2) := by decide +kernel
theorem dX12_hidden_79 : decode cX12_hidden 79 = .ok (.iaload, 1) := by decide +kernel
theorem dX12_hidden_80 : decode cX12_hidden 80 = .ok (.if_icmp .ne 6, 3) := by decide +kernel
theorem dX12_hidden_83 : decode cX12_hidden 83 = .ok (.goto 36, 3) := by decide +kernel
theorem dX12_hidden_86 : decode cX12_hidden 86 = .ok (.aload_n 0, 1) := by decide +kernel
theorem dX12_hidden_87 : decode cX12_hidden 87 = .ok (.iload_n 1, 1) := by decide +kernel
theorem dX12_hidden_88 : decode cX12_hidden 88 = .ok (.iload 6, 2) := by decide +kernel
theorem dX12_hidden_90 : decode cX12_hidden 90 = .ok (.iload 5, 2) := by decide +kernel
theorem dX12_hidden_92 : decode cX12_hidden 92 = .ok (.aload_n 0, 1) := by decide +kernel
theorem dX12_hidden_93 : decode cX12_hidden 93 = .ok (.getfield 134, 3) := by decide +kernel
theorem dX12_hidden_96 : decode cX12_hidden 96 = .ok (.irem, 1) := by decide +kernel
theorem dX12_hidden_97 : decode cX12_hidden 97 = .ok (.invokevirtual 334, 3) := by decide +kernel
theorem dX12_hidden_100 : decode cX12_hidden 100 = .ok (.istore 7, 2) := by decide +kernel
theorem dX12_hidden_102 : decode cX12_hidden 102 = .ok (.iload 7, 2) := by decide +kernel
theorem dX12_hidden_104 : decode cX12_hidden 104 = .ok (.iload 4, 2) := by decide +kernel
theorem dX12_hidden_106 : decode cX12_hidden 106 = .ok (.if_icmp .lt 6, 3) := by decide +kernel
theorem dX12_hidden_109 : decode cX12_hidden 109 = .ok (.goto 10, 3) := by decide +kernel
theorem dX12_hidden_112 : decode cX12_hidden 112 = .ok (.iload 7, 2) := by decide +kernel
theorem dX12_hidden_114 : decode cX12_hidden 114 = .ok (.istore 4, 2) := by decide +kernel
theorem dX12_hidden_116 : decode cX12_hidden 116 = .ok (.iload 5, 2) := by decide +kernel
theorem dX12_hidden_118 : decode cX12_hidden 118 = .ok (.istore_n 3, 1) := by decide +kernel
theorem dX12_hidden_119 : decode cX12_hidden 119 = .ok (.iinc 5 1, 3) := by decide +kernel
theorem dX12_hidden_122 : decode cX12_hidden 122 = .ok (.goto (-79), 3) := by decide +kernel
theorem dX12_hidden_125 : decode cX12_hidden 125 = .ok (.iload_n 2, 1) := by decide +kernel
theorem dX12_hidden_126 : decode cX12_hidden 126 = .ok (.ifCond .ne 12, 3) := by decide +kernel
theorem dX12_hidden_129 : decode cX12_hidden 129 = .ok (.iload_n 3, 1) := by decide +kernel
theorem dX12_hidden_130 : decode cX12_hidden 130 = .ok (.aload_n 0, 1) := by decide +kernel
theorem dX12_hidden_131 : decode cX12_hidden 131 = .ok (.getfield 134, 3) := by decide +kernel
theorem dX12_hidden_134 : decode cX12_hidden 134 = .ok (.idiv, 1) := by decide +kernel
theorem dX12_hidden_135 : decode cX12_hidden 135 = .ok (.goto 19, 3) := by decide +kernel
theorem dX12_hidden_138 : decode cX12_hidden 138 = .ok (.iload_n 2, 1) := by decide +kernel
theorem dX12_hidden_139 : decode cX12_hidden 139 = .ok (.iconst 1, 1) := by decide +kernel
theorem dX12_hidden_140 : decode cX12_hidden 140 = .ok (.if_icmp .ne 12, 3) := by decide +kernel
theorem dX12_hidden_143 : decode cX12_hidden 143 = .ok (.iload_n 3, 1) := by decide +kernel
theorem dX12_hidden_144 : decode cX12_hidden 144 = .ok (.aload_n 0, 1) := by decide +kernel
theorem dX12_hidden_145 : decode cX12_hidden 145 = .ok (.getfield 134, 3) := by decide +kernel
theorem dX12_hidden_148 : decode cX12_hidden 148 = .ok (.irem, 1) := by decide +kernel
theorem dX12_hidden_149 : decode cX12_hidden 149 = .ok (.goto 5, 3) := by decide +kernel
theorem dX12_hidden_152 : decode cX12_hidden 152 = .ok (.iload 4, 2) := by decide +kernel
theorem dX12_hidden_154 : decode cX12_hidden 154 = .ok (.ireturn, 1) := by decide +kernel
theorem dX12_honest_0 : decode cX12_honest 0 = .ok (.aload_n 0, 1) := by decide +kernel
theorem dX12_honest_1 : decode cX12_honest 1 = .ok (.invokevirtual 212, 3) := by decide +kernel
theorem dX12_honest_4 : decode cX12_honest 4 = .ok (.iconst 0, 1) := by decide +kernel
theorem dX12_honest_5 : decode cX12_honest 5 = .ok (.istore_n 1, 1) := by decide +kernel
theorem dX12_honest_6 : decode cX12_honest 6 = .ok (.iconst 0, 1) := by decide +kernel
theorem dX12_honest_7 : decode cX12_honest 7 = .ok (.istore_n 2, 1) := by decide +kernel
theorem dX12_honest_8 : decode cX12_honest 8 = .ok (.iload_n 2, 1) := by decide +kernel
theorem dX12_honest_9 : decode cX12_honest 9 = .ok (.aload_n 0, 1) := by decide +kernel
theorem dX12_honest_10 : decode cX12_honest 10 = .ok (.getfield 145, 3) := by decide +kernel
theorem dX12_honest_13 : decode cX12_honest 13 = .ok (.if_icmp .ge 44, 3) := by decide +kernel
theorem dX12_honest_16 : decode cX12_honest 16 = .ok (.iload_n 1, 1) := by decide +kernel
theorem dX12_honest_17 : decode cX12_honest 17 = .ok (.aload_n 0, 1) := by decide +kernel
theorem dX12_honest_18 : decode cX12_honest 18 = .ok (.getfield 13, 3) := by decide +kernel
theorem dX12_honest_21 : decode cX12_honest 21 = .ok (.iload_n 2, 1) := by decide +kernel
theorem dX12_honest_22 : decode cX12_honest 22 = .ok (.iaload, 1) := by decide +kernel
theorem dX12_honest_23 : decode cX12_honest 23 = .ok (.aload_n 0, 1) := by decide +kernel
theorem dX12_honest_24 : decode cX12_honest 24 = .ok (.getfield 44, 3) := by decide +kernel
theorem dX12_honest_27 : decode cX12_honest 27 = .ok (.iload_n 2, 1) := by decide +kernel
theorem dX12_honest_28 : decode cX12_honest 28 = .ok (.iaload, 1) := by decide +kernel
theorem dX12_honest_29 : decode cX12_honest 29 = .ok (.if_icmp .ne 7, 3) := by decide +kernel
theorem dX12_honest_32 : decode cX12_honest 32 = .ok (.iconst 0, 1) := by decide +kernel
theorem dX12_honest_33 : decode cX12_honest 33 = .ok (.goto 4, 3) := by decide +kernel
theorem dX12_honest_36 : decode cX12_honest 36 = .ok (.iconst 1, 1) := by decide +kernel
theorem dX12_honest_37 : decode cX12_honest 37 = .ok (.iadd, 1) := by decide +kernel
theorem dX12_honest_38 : decode cX12_honest 38 = .ok (.istore_n 1, 1) := by decide +kernel
theorem dX12_honest_39 : decode cX12_honest 39 = .ok (.aload_n 0, 1) := by decide +kernel
theorem dX12_honest_40 : decode cX12_honest 40 = .ok (.getfield 13, 3) := by decide +kernel
theorem dX12_honest_43 : decode cX12_honest 43 = .ok (.iload_n 2, 1) := by decide +kernel
theorem dX12_honest_44 : decode cX12_honest 44 = .ok (.aload_n 0, 1) := by decide +kernel
theorem dX12_honest_45 : decode cX12_honest 45 = .ok (.getfield 44, 3) := by decide +kernel
theorem dX12_honest_48 : decode cX12_honest 48 = .ok (.iload_n 2, 1) := by decide +kernel
theorem dX12_honest_49 : decode cX12_honest 49 = .ok (.iaload, 1) := by decide +kernel
theorem dX12_honest_50 : decode cX12_honest 50 = .ok (.iastore, 1) := by decide +kernel
theorem dX12_honest_51 : decode cX12_honest 51 = .ok (.iinc 2 1, 3) := by decide +kernel
theorem dX12_honest_54 : decode cX12_honest 54 = .ok (.goto (-46), 3) := by decide +kernel
theorem dX12_honest_57 : decode cX12_honest 57 = .ok (.iload_n 1, 1) := by decide +kernel
theorem dX12_honest_58 : decode cX12_honest 58 = .ok (.ireturn, 1) := by decide +kernel
theorem dX12_in_0 : decode cX12_in 0 = .ok (.iload_n 0, 1) := by decide +kernel
theorem dX12_in_1 : decode cX12_in 1 = .ok (.iload_n 1, 1) := by decide +kernel
theorem dX12_in_2 : decode cX12_in 2 = .ok (.if_icmp .lt 12, 3) := by decide +kernel
theorem dX12_in_5 : decode cX12_in 5 = .ok (.iload_n 0, 1) := by decide +kernel
theorem dX12_in_6 : decode cX12_in 6 = .ok (.iload_n 2, 1) := by decide +kernel
theorem dX12_in_7 : decode cX12_in 7 = .ok (.if_icmp .gt 7, 3) := by decide +kernel
theorem dX12_in_10 : decode cX12_in 10 = .ok (.iconst 1, 1) := by decide +kernel
theorem dX12_in_11 : decode cX12_in 11 = .ok (.goto 4, 3) := by decide +kernel
theorem dX12_in_14 : decode cX12_in 14 = .ok (.iconst 0, 1) := by decide +kernel
theorem dX12_in_15 : decode cX12_in 15 = .ok (.ireturn, 1) := by decide +kernel
theorem dX12_init_0 : decode cX12_init 0 = .ok (.aload_n 0, 1) := by decide +kernel
theorem dX12_init_1 : decode cX12_init 1 = .ok (.invokespecial 1, 3) := by decide +kernel
theorem dX12_init_4 : decode cX12_init 4 = .ok (.aload_n 0, 1) := by decide +kernel
theorem dX12_init_5 : decode cX12_init 5 = .ok (.bipush 10, 2) := by decide +kernel
theorem dX12_init_7 : decode cX12_init 7 = .ok (.newarray .int, 2) := by decide +kernel
theorem dX12_init_9 : decode cX12_init 9 = .ok (.putfield 7, 3) := by decide +kernel
theorem dX12_init_12 : decode cX12_init 12 = .ok (.aload_n 0, 1) := by decide +kernel
theorem dX12_init_13 : decode cX12_init 13 = .ok (.bipush 20, 2) := by decide +kernel
theorem dX12_init_15 : decode cX12_init 15 = .ok (.newarray .int, 2) := by decide +kernel
theorem dX12_init_17 : decode cX12_init 17 = .ok (.putfield 13, 3) := by decide +kernel
theorem dX12_init_20 : decode cX12_init 20 = .ok (.aload_n 0, 1) := by decide +kernel
theorem dX12_init_21 : decode cX12_init 21 = .ok (.bipush 20, 2) := by decide +kernel
theorem dX12_init_23 : decode cX12_init 23 = .ok (.newarray .int, 2) := by decide +kernel
theorem dX12_init_25 : decode cX12_init 25 = .ok (.putfield 16, 3) := by decide +kernel
theorem dX12_init_28 : decode cX12_init 28 = .ok (.aload_n 0, 1) := by decide +kernel
theorem dX12_init_29 : decode cX12_init 29 = .ok (.bipush 20, 2) := by decide +kernel
theorem dX12_init_31 : decode cX12_init 31 = .ok (.newarray .int, 2) := by decide +kernel
theorem dX12_init_33 : decode cX12_init 33 = .ok (.putfield 19, 3) := by decide +kernel
theorem dX12_init_36 : decode cX12_init 36 = .ok (.aload_n 0, 1) := by decide +kernel
theorem dX12_init_37 : decode cX12_init 37 = .ok (.bipush 20, 2) := by decide +kernel
theorem dX12_init_39 : decode cX12_init 39 = .ok (.newarray .int, 2) := by decide +kernel
theorem dX12_init_41 : decode cX12_init 41 = .ok (.putfield 22, 3) := by decide +kernel
theorem dX12_init_44 : decode cX12_init 44 = .ok (.aload_n 0, 1) := by decide +kernel
theorem dX12_init_45 : decode cX12_init 45 = .ok (.bipush 8, 2) := by decide +kernel
theorem dX12_init_47 : decode cX12_init 47 = .ok (.newarray .int, 2) := by decide +kernel
theorem dX12_init_49 : decode cX12_init 49 = .ok (.putfield 25, 3) := by decide +kernel
theorem dX12_init_52 : decode cX12_init 52 = .ok (.aload_n 0, 1) := by decide +kernel
theorem dX12_init_53 : decode cX12_init 53 = .ok (.sipush 220, 3) := by decide +kernel
theorem dX12_init_56 : decode cX12_init 56 = .ok (.newarray .byte, 2) := by decide +kernel
theorem dX12_init_58 : decode cX12_init 58 = .ok (.putfield 28, 3) := by decide +kernel
theorem dX12_init_61 : decode cX12_init 61 = .ok (.aload_n 0, 1) := by decide +kernel
theorem dX12_init_62 : decode cX12_init 62 = .ok (.bipush 20, 2) := by decide +kernel
theorem dX12_init_64 : decode cX12_init 64 = .ok (.newarray .int, 2) := by decide +kernel
theorem dX12_init_66 : decode cX12_init 66 = .ok (.putfield 32, 3) := by decide +kernel
theorem dX12_init_69 : decode cX12_init 69 = .ok (.aload_n 0, 1) := by decide +kernel
theorem dX12_init_70 : decode cX12_init 70 = .ok (.bipush 20, 2) := by decide +kernel
theorem dX12_init_72 : decode cX12_init 72 = .ok (.newarray .int, 2) := by decide +kernel
theorem dX12_init_74 : decode cX12_init 74 = .ok (.putfield 35, 3) := by decide +kernel
theorem dX12_init_77 : decode cX12_init 77 = .ok (.aload_n 0, 1) := by decide +kernel
theorem dX12_init_78 : decode cX12_init 78 = .ok (.bipush 20, 2) := by decide +kernel
theorem dX12_init_80 : decode cX12_init 80 = .ok (.newarray .int, 2) := by decide +kernel
theorem dX12_init_82 : decode cX12_init 82 = .ok (.putfield 38, 3) := by decide +kernel
theorem dX12_init_85 : decode cX12_init 85 = .ok (.aload_n 0, 1) := by decide +kernel
theorem dX12_init_86 : decode cX12_init 86 = .ok (.bipush 20, 2) := by decide +kernel
theorem dX12_init_88 : decode cX12_init 88 = .ok (.newarray .int, 2) := by decide +kernel
theorem dX12_init_90 : decode cX12_init 90 = .ok (.putfield 41, 3) := by decide +kernel
theorem dX12_init_93 : decode cX12_init 93 = .ok (.aload_n 0, 1) := by decide +kernel
theorem dX12_init_94 : decode cX12_init 94 = .ok (.bipush 20, 2) := by decide +kernel
theorem dX12_init_96 : decode cX12_init 96 = .ok (.newarray .int, 2) := by decide +kernel
theorem dX12_init_98 : decode cX12_init 98 = .ok (.putfield 44, 3) := by decide +kernel
theorem dX12_init_101 : decode cX12_init 101 = .ok (.aload_n 0, 1) := by decide +kernel
theorem dX12_init_102 : decode cX12_init 102 = .ok (.bipush 20, 2) := by decide +kernel
theorem dX12_init_104 : decode cX12_init 104 = .ok (.newarray .int, 2) := by decide +kernel
theorem dX12_init_106 : decode cX12_init 106 = .ok (.putfield 47, 3) := by decide +kernel
theorem dX12_init_109 : decode cX12_init 109 = .ok (.aload_n 0, 1) := by decide +kernel
theorem dX12_init_110 : decode cX12_init 110 = .ok (.bipush 20, 2) := by decide +kernel
theorem dX12_init_112 : decode cX12_init 112 = .ok (.newarray .int, 2) := by decide +kernel
theorem dX12_init_114 : decode cX12_init 114 = .ok (.putfield 50, 3) := by decide +kernel
theorem dX12_init_117 : decode cX12_init 117 = .ok (.aload_n 0, 1) := by decide +kernel
theorem dX12_init_118 : decode cX12_init 118 = .ok (.bipush 20, 2) := by decide +kernel
theorem dX12_init_120 : decode cX12_init 120 = .ok (.newarray .int, 2) := by decide +kernel
theorem dX12_init_122 : decode cX12_init 122 = .ok (.putfield 53, 3) := by decide +kernel
theorem dX12_init_125 : decode cX12_init 125 = .ok (.aload_n 0, 1) := by decide +kernel
theorem dX12_init_126 : decode cX12_init 126 = .ok (.sipush 220, 3) := by decide +kernel
theorem dX12_init_129 : decode cX12_init 129 = .ok (.newarray .int, 2) := by decide +kernel
theorem dX12_init_131 : decode cX12_init 131 = .ok (.putfield 56, 3) := by decide +kernel
theorem dX12_init_134 : decode cX12_init 134 = .ok (.aload_n 0, 1) := by decide +kernel
theorem dX12_init_135 : decode cX12_init 135 = .ok (.sipush 220, 3) := by decide +kernel
theorem dX12_init_138 : decode cX12_init 138 = .ok (.newarray .int, 2) := by decide +kernel
theorem dX12_init_140 : decode cX12_init 140 = .ok (.putfield 59, 3) := by decide +kernel
theorem dX12_init_143 : decode cX12_init 143 = .ok (.aload_n 0, 1) := by decide +kernel
theorem dX12_init_144 : decode cX12_init 144 = .ok (.bipush 14, 2) := by decide +kernel
theorem dX12_init_146 : decode cX12_init 146 = .ok (.newarray .int, 2) := by decide +kernel
theorem dX12_init_148 : decode cX12_init 148 = .ok (.putfield 62, 3) := by decide +kernel
theorem dX12_init_151 : decode cX12_init 151 = .ok (.aload_n 0, 1) := by decide +kernel
theorem dX12_init_152 : decode cX12_init 152 = .ok (.bipush 14, 2) := by decide +kernel
theorem dX12_init_154 : decode cX12_init 154 = .ok (.newarray .int, 2) := by decide +kernel
theorem dX12_init_156 : decode cX12_init 156 = .ok (.putfield 65, 3) := by decide +kernel
theorem dX12_init_159 : decode cX12_init 159 = .ok (.aload_n 0, 1) := by decide +kernel
theorem dX12_init_160 : decode cX12_init 160 = .ok (.bipush 14, 2) := by decide +kernel
theorem dX12_init_162 : decode cX12_init 162 = .ok (.newarray .int, 2) := by decide +kernel
theorem dX12_init_164 : decode cX12_init 164 = .ok (.putfield 68, 3) := by decide +kernel
theorem dX12_init_167 : decode cX12_init 167 = .ok (.aload_n 0, 1) := by decide +kernel
theorem dX12_init_168 : decode cX12_init 168 = .ok (.bipush 14, 2) := by decide +kernel
theorem dX12_init_170 : decode cX12_init 170 = .ok (.newarray .int, 2) := by decide +kernel
theorem dX12_init_172 : decode cX12_init 172 = .ok (.putfield 71, 3) := by decide +kernel
theorem dX12_init_175 : decode cX12_init 175 = .ok (.aload_n 0, 1) := by decide +kernel
theorem dX12_init_176 : decode cX12_init 176 = .ok (.sipush 220, 3) := by decide +kernel
theorem dX12_init_179 : decode cX12_init 179 = .ok (.newarray .int, 2) := by decide +kernel
theorem dX12_init_181 : decode cX12_init 181 = .ok (.putfield 74, 3) := by decide +kernel
theorem dX12_init_184 : decode cX12_init 184 = .ok (.aload_n 0, 1) := by decide +kernel
theorem dX12_init_185 : decode cX12_init 185 = .ok (.bipush 14, 2) := by decide +kernel
theorem dX12_init_187 : decode cX12_init 187 = .ok (.newarray .int, 2) := by decide +kernel
theorem dX12_init_189 : decode cX12_init 189 = .ok (.putfield 77, 3) := by decide +kernel
theorem dX12_init_192 : decode cX12_init 192 = .ok (.aload_n 0, 1) := by decide +kernel
theorem dX12_init_193 : decode cX12_init 193 = .ok (.bipush 14, 2) := by decide +kernel
theorem dX12_init_195 : decode cX12_init 195 = .ok (.newarray .int, 2) := by decide +kernel
theorem dX12_init_197 : decode cX12_init 197 = .ok (.putfield 80, 3) := by decide +kernel
theorem dX12_init_200 : decode cX12_init 200 = .ok (.aload_n 0, 1) := by decide +kernel
theorem dX12_init_201 : decode cX12_init 201 = .ok (.bipush 14, 2) := by decide +kernel
theorem dX12_init_203 : decode cX12_init 203 = .ok (.newarray .int, 2) := by decide +kernel
theorem dX12_init_205 : decode cX12_init 205 = .ok (.putfield 83, 3) := by decide +kernel
theorem dX12_init_208 : decode cX12_init 208 = .ok (.aload_n 0, 1) := by decide +kernel
theorem dX12_init_209 : decode cX12_init 209 = .ok (.bipush 14, 2) := by decide +kernel
theorem dX12_init_211 : decode cX12_init 211 = .ok (.newarray .int, 2) := by decide +kernel
theorem dX12_init_213 : decode cX12_init 213 = .ok (.putfield 86, 3) := by decide +kernel
theorem dX12_init_216 : decode cX12_init 216 = .ok (.aload_n 0, 1) := by decide +kernel
theorem dX12_init_217 : decode cX12_init 217 = .ok (.sipush 220, 3) := by decide +kernel
theorem dX12_init_220 : decode cX12_init 220 = .ok (.newarray .int, 2) := by decide +kernel
theorem dX12_init_222 : decode cX12_init 222 = .ok (.putfield 89, 3) := by decide +kernel
theorem dX12_init_225 : decode cX12_init 225 = .ok (.aload_n 0, 1) := by decide +kernel
theorem dX12_init_226 : decode cX12_init 226 = .ok (.bipush 8, 2) := by decide +kernel
theorem dX12_init_228 : decode cX12_init 228 = .ok (.newarray .int, 2) := by decide +kernel
theorem dX12_init_230 : decode cX12_init 230 = .ok (.putfield 92, 3) := by decide +kernel
theorem dX12_init_233 : decode cX12_init 233 = .ok (.aload_n 0, 1) := by decide +kernel
theorem dX12_init_234 : decode cX12_init 234 = .ok (.bipush 10, 2) := by decide +kernel
theorem dX12_init_236 : decode cX12_init 236 = .ok (.newarray .int, 2) := by decide +kernel
theorem dX12_init_238 : decode cX12_init 238 = .ok (.putfield 95, 3) := by decide +kernel
theorem dX12_init_241 : decode cX12_init 241 = .ok (.aload_n 0, 1) := by decide +kernel
theorem dX12_init_242 : decode cX12_init 242 = .ok (.sipush 1940, 3) := by decide +kernel
theorem dX12_init_245 : decode cX12_init 245 = .ok (.newarray .int, 2) := by decide +kernel
theorem dX12_init_247 : decode cX12_init 247 = .ok (.putfield 98, 3) := by decide +kernel
theorem dX12_init_250 : decode cX12_init 250 = .ok (.aload_n 0, 1) := by decide +kernel
theorem dX12_init_251 : decode cX12_init 251 = .ok (.bipush 20, 2) := by decide +kernel
theorem dX12_init_253 : decode cX12_init 253 = .ok (.newarray .int, 2) := by decide +kernel
theorem dX12_init_255 : decode cX12_init 255 = .ok (.putfield 101, 3) := by decide +kernel
theorem dX12_init_258 : decode cX12_init 258 = .ok (.aload_n 0, 1) := by decide +kernel
theorem dX12_init_259 : decode cX12_init 259 = .ok (.bipush 20, 2) := by decide +kernel
theorem dX12_init_261 : decode cX12_init 261 = .ok (.newarray .int, 2) := by decide +kernel
theorem dX12_init_263 : decode cX12_init 263 = .ok (.putfield 104, 3) := by decide +kernel
theorem dX12_init_266 : decode cX12_init 266 = .ok (.aload_n 0, 1) := by decide +kernel
theorem dX12_init_267 : decode cX12_init 267 = .ok (.bipush 20, 2) := by decide +kernel
theorem dX12_init_269 : decode cX12_init 269 = .ok (.newarray .int, 2) := by decide +kernel
theorem dX12_init_271 : decode cX12_init 271 = .ok (.putfield 107, 3) := by decide +kernel
theorem dX12_init_274 : decode cX12_init 274 = .ok (.aload_n 0, 1) := by decide +kernel
theorem dX12_init_275 : decode cX12_init 275 = .ok (.bipush 100, 2) := by decide +kernel
theorem dX12_init_277 : decode cX12_init 277 = .ok (.newarray .int, 2) := by decide +kernel
theorem dX12_init_279 : decode cX12_init 279 = .ok (.putfield 110, 3) := by decide +kernel
theorem dX12_init_282 : decode cX12_init 282 = .ok (.aload_n 0, 1) := by decide +kernel
theorem dX12_init_283 : decode cX12_init 283 = .ok (.bipush 20, 2) := by decide +kernel
theorem dX12_init_285 : decode cX12_init 285 = .ok (.newarray .int, 2) := by decide +kernel
theorem dX12_init_287 : decode cX12_init 287 = .ok (.putfield 113, 3) := by decide +kernel
theorem dX12_init_290 : decode cX12_init 290 = .ok (.aload_n 0, 1) := by decide +kernel
theorem dX12_init_291 : decode cX12_init 291 = .ok (.bipush 10, 2) := by decide +kernel
theorem dX12_init_293 : decode cX12_init 293 = .ok (.newarray .int, 2) := by decide +kernel
theorem dX12_init_295 : decode cX12_init 295 = .ok (.putfield 116, 3) := by decide +kernel
theorem dX12_init_298 : decode cX12_init 298 = .ok (.aload_n 0, 1) := by decide +kernel
theorem dX12_init_299 : decode cX12_init 299 = .ok (.bipush 20, 2) := by decide +kernel
theorem dX12_init_301 : decode cX12_init 301 = .ok (.newarray .int, 2) := by decide +kernel
theorem dX12_init_303 : decode cX12_init 303 = .ok (.putfield 119, 3) := by decide +kernel
theorem dX12_init_306 : decode cX12_init 306 = .ok (.aload_n 0, 1) := by decide +kernel
theorem dX12_init_307 : decode cX12_init 307 = .ok (.bipush 20, 2) := by decide +kernel
theorem dX12_init_309 : decode cX12_init 309 = .ok (.newarray .int, 2) := by decide +kernel
theorem dX12_init_311 : decode cX12_init 311 = .ok (.putfield 122, 3) := by decide +kernel
theorem dX12_init_314 : decode cX12_init 314 = .ok (.aload_n 0, 1) := by decide +kernel
theorem dX12_init_315 : decode cX12_init 315 = .ok (.bipush 20, 2) := by decide +kernel
theorem dX12_init_317 : decode cX12_init 317 = .ok (.newarray .int, 2) := by decide +kernel
theorem dX12_init_319 : decode cX12_init 319 = .ok (.putfield 125, 3) := by decide +kernel
theorem dX12_init_322 : decode cX12_init 322 = .ok (.aload_n 0, 1) := by decide +kernel
theorem dX12_init_323 : decode cX12_init 323 = .ok (.bipush 20, 2) := by decide +kernel
theorem dX12_init_325 : decode cX12_init 325 = .ok (.newarray .int, 2) := by decide +kernel
theorem dX12_init_327 : decode cX12_init 327 = .ok (.putfield 128, 3) := by decide +kernel
theorem dX12_init_330 : decode cX12_init 330 = .ok (.aload_n 0, 1) := by decide +kernel
theorem dX12_init_331 : decode cX12_init 331 = .ok (.bipush 8, 2) := by decide +kernel
theorem dX12_init_333 : decode cX12_init 333 = .ok (.newarray .int, 2) := by decide +kernel
theorem dX12_init_335 : decode cX12_init 335 = .ok (.putfield 131, 3) := by decide +kernel
theorem dX12_init_338 : decode cX12_init 338 = .ok (.aload_n 0, 1) := by decide +kernel
theorem dX12_init_339 : decode cX12_init 339 = .ok (.bipush 97, 2) := by decide +kernel
theorem dX12_init_341 : decode cX12_init 341 = .ok (.putfield 134, 3) := by decide +kernel
theorem dX12_init_344 : decode cX12_init 344 = .ok (.aload_n 0, 1) := by decide +kernel
theorem dX12_init_345 : decode cX12_init 345 = .ok (.iconst 1, 1) := by decide +kernel
theorem dX12_init_346 : decode cX12_init 346 = .ok (.putfield 138, 3) := by decide +kernel
theorem dX12_init_349 : decode cX12_init 349 = .ok (.return_, 1) := by decide +kernel
theorem dX12_isClaim_0 : decode cX12_isClaim 0 = .ok (.iload_n 1, 1) := by decide +kernel
theorem dX12_isClaim_1 : decode cX12_isClaim 1 = .ok (.ifCond .lt 15, 3) := by decide +kernel
theorem dX12_isClaim_4 : decode cX12_isClaim 4 = .ok (.iload_n 1, 1) := by decide +kernel
theorem dX12_isClaim_5 : decode cX12_isClaim 5 = .ok (.aload_n 0, 1) := by decide +kernel
theorem dX12_isClaim_6 : decode cX12_isClaim 6 = .ok (.getfield 134, 3) := by decide +kernel
theorem dX12_isClaim_9 : decode cX12_isClaim 9 = .ok (.if_icmp .ge 7, 3) := by decide +kernel
theorem dX12_isClaim_12 : decode cX12_isClaim 12 = .ok (.iconst 1, 1) := by decide +kernel
theorem dX12_isClaim_13 : decode cX12_isClaim 13 = .ok (.goto 4, 3) := by decide +kernel
theorem dX12_isClaim_16 : decode cX12_isClaim 16 = .ok (.iconst 0, 1) := by decide +kernel
theorem dX12_isClaim_17 : decode cX12_isClaim 17 = .ok (.ireturn, 1) := by decide +kernel
theorem dX12_isDigit_0 : decode cX12_isDigit 0 = .ok (.aload_n 0, 1) := by decide +kernel
theorem dX12_isDigit_1 : decode cX12_isDigit 1 = .ok (.invokevirtual 165, 3) := by decide +kernel
theorem dX12_isDigit_4 : decode cX12_isDigit 4 = .ok (.bipush 48, 2) := by decide +kernel
theorem dX12_isDigit_6 : decode cX12_isDigit 6 = .ok (.if_icmp .lt 16, 3) := by decide +kernel
theorem dX12_isDigit_9 : decode cX12_isDigit 9 = .ok (.aload_n 0, 1) := by decide +kernel
theorem dX12_isDigit_10 : decode cX12_isDigit 10 = .ok (.invokevirtual 165, 3) := by decide +kernel
theorem dX12_isDigit_13 : decode cX12_isDigit 13 = .ok (.bipush 57, 2) := by decide +kernel
theorem dX12_isDigit_15 : decode cX12_isDigit 15 = .ok (.if_icmp .gt 7, 3) := by decide +kernel
theorem dX12_isDigit_18 : decode cX12_isDigit 18 = .ok (.iconst 1, 1) := by decide +kernel
theorem dX12_isDigit_19 : decode cX12_isDigit 19 = .ok (.goto 4, 3) := by decide +kernel
theorem dX12_isDigit_22 : decode cX12_isDigit 22 = .ok (.iconst 0, 1) := by decide +kernel
theorem dX12_isDigit_23 : decode cX12_isDigit 23 = .ok (.ireturn, 1) := by decide +kernel
theorem dX12_isHearer_0 : decode cX12_isHearer 0 = .ok (.iload_n 0, 1) := by decide +kernel
theorem dX12_isHearer_1 : decode cX12_isHearer 1 = .ok (.ifCond .lt 13, 3) := by decide +kernel
theorem dX12_isHearer_4 : decode cX12_isHearer 4 = .ok (.iload_n 0, 1) := by decide +kernel
theorem dX12_isHearer_5 : decode cX12_isHearer 5 = .ok (.bipush 10, 2) := by decide +kernel
theorem dX12_isHearer_7 : decode cX12_isHearer 7 = .ok (.if_icmp .ge 7, 3) := by decide +kernel
theorem dX12_isHearer_10 : decode cX12_isHearer 10 = .ok (.iconst 1, 1) := by decide +kernel
theorem dX12_isHearer_11 : decode cX12_isHearer 11 = .ok (.goto 4, 3) := by decide +kernel
theorem dX12_isHearer_14 : decode cX12_isHearer 14 = .ok (.iconst 0, 1) := by decide +kernel
theorem dX12_isHearer_15 : decode cX12_isHearer 15 = .ok (.ireturn, 1) := by decide +kernel
theorem dX12_isLine_0 : decode cX12_isLine 0 = .ok (.iload_n 1, 1) := by decide +kernel
theorem dX12_isLine_1 : decode cX12_isLine 1 = .ok (.ifCond .lt 15, 3) := by decide +kernel
theorem dX12_isLine_4 : decode cX12_isLine 4 = .ok (.iload_n 1, 1) := by decide +kernel
theorem dX12_isLine_5 : decode cX12_isLine 5 = .ok (.aload_n 0, 1) := by decide +kernel
theorem dX12_isLine_6 : decode cX12_isLine 6 = .ok (.getfield 145, 3) := by decide +kernel
theorem dX12_isLine_9 : decode cX12_isLine 9 = .ok (.if_icmp .ge 7, 3) := by decide +kernel
theorem dX12_isLine_12 : decode cX12_isLine 12 = .ok (.iconst 1, 1) := by decide +kernel
theorem dX12_isLine_13 : decode cX12_isLine 13 = .ok (.goto 4, 3) := by decide +kernel
theorem dX12_isLine_16 : decode cX12_isLine 16 = .ok (.iconst 0, 1) := by decide +kernel
theorem dX12_isLine_17 : decode cX12_isLine 17 = .ok (.ireturn, 1) := by decide +kernel
theorem dX12_isPupil_0 : decode cX12_isPupil 0 = .ok (.iload_n 0, 1) := by decide +kernel
theorem dX12_isPupil_1 : decode cX12_isPupil 1 = .ok (.ifCond .lt 13, 3) := by decide +kernel
theorem dX12_isPupil_4 : decode cX12_isPupil 4 = .ok (.iload_n 0, 1) := by decide +kernel
theorem dX12_isPupil_5 : decode cX12_isPupil 5 = .ok (.bipush 8, 2) := by decide +kernel
theorem dX12_isPupil_7 : decode cX12_isPupil 7 = .ok (.if_icmp .ge 7, 3) := by decide +kernel
theorem dX12_isPupil_10 : decode cX12_isPupil 10 = .ok (.iconst 1, 1) := by decide +kernel
theorem dX12_isPupil_11 : decode cX12_isPupil 11 = .ok (.goto 4, 3) := by decide +kernel
theorem dX12_isPupil_14 : decode cX12_isPupil 14 = .ok (.iconst 0, 1) := by decide +kernel
theorem dX12_isPupil_15 : decode cX12_isPupil 15 = .ok (.ireturn, 1) := by decide +kernel
theorem dX12_isWrong_0 : decode cX12_isWrong 0 = .ok (.aload_n 0, 1) := by decide +kernel
theorem dX12_isWrong_1 : decode cX12_isWrong 1 = .ok (.getfield 13, 3) := by decide +kernel
theorem dX12_isWrong_4 : decode cX12_isWrong 4 = .ok (.iload_n 1, 1) := by decide +kernel
theorem dX12_isWrong_5 : decode cX12_isWrong 5 = .ok (.iaload, 1) := by decide +kernel
theorem dX12_isWrong_6 : decode cX12_isWrong 6 = .ok (.aload_n 0, 1) := by decide +kernel
theorem dX12_isWrong_7 : decode cX12_isWrong 7 = .ok (.iload_n 1, 1) := by decide +kernel
theorem dX12_isWrong_8 : decode cX12_isWrong 8 = .ok (.aload_n 0, 1) := by decide +kernel
theorem dX12_isWrong_9 : decode cX12_isWrong 9 = .ok (.getfield 13, 3) := by decide +kernel
theorem dX12_isWrong_12 : decode cX12_isWrong 12 = .ok (.invokevirtual 198, 3) := by decide +kernel
theorem dX12_isWrong_15 : decode cX12_isWrong 15 = .ok (.if_icmp .eq 7, 3) := by decide +kernel
theorem dX12_isWrong_18 : decode cX12_isWrong 18 = .ok (.iconst 1, 1) := by decide +kernel
theorem dX12_isWrong_19 : decode cX12_isWrong 19 = .ok (.goto 4, 3) := by decide +kernel
theorem dX12_isWrong_22 : decode cX12_isWrong 22 = .ok (.iconst 0, 1) := by decide +kernel
theorem dX12_isWrong_23 : decode cX12_isWrong 23 = .ok (.ireturn, 1) := by decide +kernel
theorem dX12_jumps_0 : decode cX12_jumps 0 = .ok (.aload_n 0, 1) := by decide +kernel
theorem dX12_jumps_1 : decode cX12_jumps 1 = .ok (.getfield 59, 3) := by decide +kernel
theorem dX12_jumps_4 : decode cX12_jumps 4 = .ok (.aload_n 0, 1) := by decide +kernel
theorem dX12_jumps_5 : decode cX12_jumps 5 = .ok (.getfield 245, 3) := by decide +kernel
theorem dX12_jumps_8 : decode cX12_jumps 8 = .ok (.ldc 241, 2) := by decide +kernel
theorem dX12_jumps_10 : decode cX12_jumps 10 = .ok (.iload_n 1, 1) := by decide +kernel
theorem dX12_jumps_11 : decode cX12_jumps 11 = .ok (.imul, 1) := by decide +kernel
theorem dX12_jumps_12 : decode cX12_jumps 12 = .ok (.aload_n 0, 1) := by decide +kernel
theorem dX12_jumps_13 : decode cX12_jumps 13 = .ok (.getfield 238, 3) := by decide +kernel
theorem dX12_jumps_16 : decode cX12_jumps 16 = .ok (.iadd, 1) := by decide +kernel
theorem dX12_jumps_17 : decode cX12_jumps 17 = .ok (.iastore, 1) := by decide +kernel
theorem dX12_jumps_18 : decode cX12_jumps 18 = .ok (.aload_n 0, 1) := by decide +kernel
theorem dX12_jumps_19 : decode cX12_jumps 19 = .ok (.aload_n 0, 1) := by decide +kernel
theorem dX12_jumps_20 : decode cX12_jumps 20 = .ok (.getfield 245, 3) := by decide +kernel
theorem dX12_jumps_23 : decode cX12_jumps 23 = .ok (.iconst 1, 1) := by decide +kernel
theorem dX12_jumps_24 : decode cX12_jumps 24 = .ok (.iadd, 1) := by decide +kernel
theorem dX12_jumps_25 : decode cX12_jumps 25 = .ok (.putfield 245, 3) := by decide +kernel
theorem dX12_jumps_28 : decode cX12_jumps 28 = .ok (.aload_n 0, 1) := by decide +kernel
theorem dX12_jumps_29 : decode cX12_jumps 29 = .ok (.iload_n 1, 1) := by decide +kernel
theorem dX12_jumps_30 : decode cX12_jumps 30 = .ok (.iconst 0, 1) := by decide +kernel
theorem dX12_jumps_31 : decode cX12_jumps 31 = .ok (.invokevirtual 251, 3) := by decide +kernel
theorem dX12_jumps_34 : decode cX12_jumps 34 = .ok (.aload_n 0, 1) := by decide +kernel
theorem dX12_jumps_35 : decode cX12_jumps 35 = .ok (.aload_n 0, 1) := by decide +kernel
theorem dX12_jumps_36 : decode cX12_jumps 36 = .ok (.getfield 155, 3) := by decide +kernel
theorem dX12_jumps_39 : decode cX12_jumps 39 = .ok (.iconst 1, 1) := by decide +kernel
theorem dX12_jumps_40 : decode cX12_jumps 40 = .ok (.iadd, 1) := by decide +kernel
theorem dX12_jumps_41 : decode cX12_jumps 41 = .ok (.putfield 155, 3) := by decide +kernel
theorem dX12_jumps_44 : decode cX12_jumps 44 = .ok (.return_, 1) := by decide +kernel
theorem dX12_keep_0 : decode cX12_keep 0 = .ok (.aload_n 0, 1) := by decide +kernel
theorem dX12_keep_1 : decode cX12_keep 1 = .ok (.iconst 1, 1) := by decide +kernel
theorem dX12_keep_2 : decode cX12_keep 2 = .ok (.putfield 402, 3) := by decide +kernel
theorem dX12_keep_5 : decode cX12_keep 5 = .ok (.aload_n 0, 1) := by decide +kernel
theorem dX12_keep_6 : decode cX12_keep 6 = .ok (.aload_n 0, 1) := by decide +kernel
theorem dX12_keep_7 : decode cX12_keep 7 = .ok (.getfield 134, 3) := by decide +kernel
theorem dX12_keep_10 : decode cX12_keep 10 = .ok (.putfield 406, 3) := by decide +kernel
theorem dX12_keep_13 : decode cX12_keep 13 = .ok (.aload_n 0, 1) := by decide +kernel
theorem dX12_keep_14 : decode cX12_keep 14 = .ok (.aload_n 0, 1) := by decide +kernel
theorem dX12_keep_15 : decode cX12_keep 15 = .ok (.getfield 145, 3) := by decide +kernel
theorem dX12_keep_18 : decode cX12_keep 18 = .ok (.putfield 409, 3) := by decide +kernel
theorem dX12_keep_21 : decode cX12_keep 21 = .ok (.aload_n 0, 1) := by decide +kernel
theorem dX12_keep_22 : decode cX12_keep 22 = .ok (.aload_n 0, 1) := by decide +kernel
theorem dX12_keep_23 : decode cX12_keep 23 = .ok (.getfield 138, 3) := by decide +kernel
theorem dX12_keep_26 : decode cX12_keep 26 = .ok (.putfield 412, 3) := by decide +kernel
theorem dX12_keep_29 : decode cX12_keep 29 = .ok (.aload_n 0, 1) := by decide +kernel
theorem dX12_keep_30 : decode cX12_keep 30 = .ok (.getfield 7, 3) := by decide +kernel
theorem dX12_keep_33 : decode cX12_keep 33 = .ok (.aload_n 0, 1) := by decide +kernel
theorem dX12_keep_34 : decode cX12_keep 34 = .ok (.getfield 116, 3) := by decide +kernel
theorem dX12_keep_37 : decode cX12_keep 37 = .ok (.bipush 10, 2) := by decide +kernel
theorem dX12_keep_39 : decode cX12_keep 39 = .ok (.invokestatic 415, 3) := by decide +kernel
theorem dX12_keep_42 : decode cX12_keep 42 = .ok (.aload_n 0, 1) := by decide +kernel
theorem dX12_keep_43 : decode cX12_keep 43 = .ok (.getfield 13, 3) := by decide +kernel
theorem dX12_keep_46 : decode cX12_keep 46 = .ok (.aload_n 0, 1) := by decide +kernel
theorem dX12_keep_47 : decode cX12_keep 47 = .ok (.getfield 119, 3) := by decide +kernel
theorem dX12_keep_50 : decode cX12_keep 50 = .ok (.bipush 20, 2) := by decide +kernel
theorem dX12_keep_52 : decode cX12_keep 52 = .ok (.invokestatic 415, 3) := by decide +kernel
theorem dX12_keep_55 : decode cX12_keep 55 = .ok (.aload_n 0, 1) := by decide +kernel
theorem dX12_keep_56 : decode cX12_keep 56 = .ok (.getfield 16, 3) := by decide +kernel
theorem dX12_keep_59 : decode cX12_keep 59 = .ok (.aload_n 0, 1) := by decide +kernel
theorem dX12_keep_60 : decode cX12_keep 60 = .ok (.getfield 122, 3) := by decide +kernel
theorem dX12_keep_63 : decode cX12_keep 63 = .ok (.bipush 20, 2) := by decide +kernel
theorem dX12_keep_65 : decode cX12_keep 65 = .ok (.invokestatic 415, 3) := by decide +kernel
theorem dX12_keep_68 : decode cX12_keep 68 = .ok (.aload_n 0, 1) := by decide +kernel
theorem dX12_keep_69 : decode cX12_keep 69 = .ok (.getfield 19, 3) := by decide +kernel
theorem dX12_keep_72 : decode cX12_keep 72 = .ok (.aload_n 0, 1) := by decide +kernel
theorem dX12_keep_73 : decode cX12_keep 73 = .ok (.getfield 125, 3) := by decide +kernel
theorem dX12_keep_76 : decode cX12_keep 76 = .ok (.bipush 20, 2) := by decide +kernel
theorem dX12_keep_78 : decode cX12_keep 78 = .ok (.invokestatic 415, 3) := by decide +kernel
theorem dX12_keep_81 : decode cX12_keep 81 = .ok (.aload_n 0, 1) := by decide +kernel
theorem dX12_keep_82 : decode cX12_keep 82 = .ok (.getfield 22, 3) := by decide +kernel
theorem dX12_keep_85 : decode cX12_keep 85 = .ok (.aload_n 0, 1) := by decide +kernel
theorem dX12_keep_86 : decode cX12_keep 86 = .ok (.getfield 128, 3) := by decide +kernel
theorem dX12_keep_89 : decode cX12_keep 89 = .ok (.bipush 20, 2) := by decide +kernel
theorem dX12_keep_91 : decode cX12_keep 91 = .ok (.invokestatic 415, 3) := by decide +kernel
theorem dX12_keep_94 : decode cX12_keep 94 = .ok (.aload_n 0, 1) := by decide +kernel
theorem dX12_keep_95 : decode cX12_keep 95 = .ok (.getfield 25, 3) := by decide +kernel
theorem dX12_keep_98 : decode cX12_keep 98 = .ok (.aload_n 0, 1) := by decide +kernel
theorem dX12_keep_99 : decode cX12_keep 99 = .ok (.getfield 131, 3) := by decide +kernel
theorem dX12_keep_102 : decode cX12_keep 102 = .ok (.bipush 8, 2) := by decide +kernel
theorem dX12_keep_104 : decode cX12_keep 104 = .ok (.invokestatic 415, 3) := by decide +kernel
theorem dX12_keep_107 : decode cX12_keep 107 = .ok (.aload_n 0, 1) := by decide +kernel
theorem dX12_keep_108 : decode cX12_keep 108 = .ok (.getfield 145, 3) := by decide +kernel
theorem dX12_keep_111 : decode cX12_keep 111 = .ok (.ireturn, 1) := by decide +kernel
theorem dX12_lands_0 : decode cX12_lands 0 = .ok (.aload_n 0, 1) := by decide +kernel
theorem dX12_lands_1 : decode cX12_lands 1 = .ok (.invokevirtual 248, 3) := by decide +kernel
theorem dX12_lands_4 : decode cX12_lands 4 = .ok (.bipush 11, 2) := by decide +kernel
theorem dX12_lands_6 : decode cX12_lands 6 = .ok (.if_icmp .eq 16, 3) := by decide +kernel
theorem dX12_lands_9 : decode cX12_lands 9 = .ok (.iload_n 1, 1) := by decide +kernel
theorem dX12_lands_10 : decode cX12_lands 10 = .ok (.ifCond .eq 63, 3) := by decide +kernel
theorem dX12_lands_13 : decode cX12_lands 13 = .ok (.aload_n 0, 1) := by decide +kernel
theorem dX12_lands_14 : decode cX12_lands 14 = .ok (.invokevirtual 248, 3) := by decide +kernel
theorem dX12_lands_17 : decode cX12_lands 17 = .ok (.bipush 12, 2) := by decide +kernel
theorem dX12_lands_19 : decode cX12_lands 19 = .ok (.if_icmp .ne 54, 3) := by decide +kernel
theorem dX12_lands_22 : decode cX12_lands 22 = .ok (.aload_n 0, 1) := by decide +kernel
theorem dX12_lands_23 : decode cX12_lands 23 = .ok (.getfield 59, 3) := by decide +kernel
theorem dX12_lands_26 : decode cX12_lands 26 = .ok (.aload_n 0, 1) := by decide +kernel
theorem dX12_lands_27 : decode cX12_lands 27 = .ok (.getfield 245, 3) := by decide +kernel
theorem dX12_lands_30 : decode cX12_lands 30 = .ok (.iconst 1, 1) := by decide +kernel
theorem dX12_lands_31 : decode cX12_lands 31 = .ok (.isub, 1) := by decide +kernel
theorem dX12_lands_32 : decode cX12_lands 32 = .ok (.iaload, 1) := by decide +kernel
theorem dX12_lands_33 : decode cX12_lands 33 = .ok (.ldc 241, 2) := by decide +kernel
theorem dX12_lands_35 : decode cX12_lands 35 = .ok (.irem, 1) := by decide +kernel
theorem dX12_lands_36 : decode cX12_lands 36 = .ok (.istore_n 2, 1) := by decide +kernel
theorem dX12_lands_37 : decode cX12_lands 37 = .ok (.aload_n 0, 1) := by decide +kernel
theorem dX12_lands_38 : decode cX12_lands 38 = .ok (.getfield 56, 3) := by decide +kernel
theorem dX12_lands_41 : decode cX12_lands 41 = .ok (.iload_n 2, 1) := by decide +kernel
theorem dX12_lands_42 : decode cX12_lands 42 = .ok (.ldc 241, 2) := by decide +kernel
theorem dX12_lands_44 : decode cX12_lands 44 = .ok (.aload_n 0, 1) := by decide +kernel
theorem dX12_lands_45 : decode cX12_lands 45 = .ok (.getfield 56, 3) := by decide +kernel
theorem dX12_lands_48 : decode cX12_lands 48 = .ok (.iload_n 2, 1) := by decide +kernel
theorem dX12_lands_49 : decode cX12_lands 49 = .ok (.iaload, 1) := by decide +kernel
theorem dX12_lands_50 : decode cX12_lands 50 = .ok (.ldc 241, 2) := by decide +kernel
theorem dX12_lands_52 : decode cX12_lands 52 = .ok (.idiv, 1) := by decide +kernel
theorem dX12_lands_53 : decode cX12_lands 53 = .ok (.imul, 1) := by decide +kernel
theorem dX12_lands_54 : decode cX12_lands 54 = .ok (.aload_n 0, 1) := by decide +kernel
theorem dX12_lands_55 : decode cX12_lands 55 = .ok (.getfield 238, 3) := by decide +kernel
theorem dX12_lands_58 : decode cX12_lands 58 = .ok (.iadd, 1) := by decide +kernel
theorem dX12_lands_59 : decode cX12_lands 59 = .ok (.iastore, 1) := by decide +kernel
theorem dX12_lands_60 : decode cX12_lands 60 = .ok (.aload_n 0, 1) := by decide +kernel
theorem dX12_lands_61 : decode cX12_lands 61 = .ok (.aload_n 0, 1) := by decide +kernel
theorem dX12_lands_62 : decode cX12_lands 62 = .ok (.getfield 245, 3) := by decide +kernel
theorem dX12_lands_65 : decode cX12_lands 65 = .ok (.iconst 1, 1) := by decide +kernel
theorem dX12_lands_66 : decode cX12_lands 66 = .ok (.isub, 1) := by decide +kernel
theorem dX12_lands_67 : decode cX12_lands 67 = .ok (.putfield 245, 3) := by decide +kernel
theorem dX12_lands_70 : decode cX12_lands 70 = .ok (.goto (-70), 3) := by decide +kernel
theorem dX12_lands_73 : decode cX12_lands 73 = .ok (.return_, 1) := by decide +kernel
theorem dX12_law_0 : decode cX12_law 0 = .ok (.iload_n 1, 1) := by decide +kernel
theorem dX12_law_1 : decode cX12_law 1 = .ok (.iconst 1, 1) := by decide +kernel
theorem dX12_law_2 : decode cX12_law 2 = .ok (.sipush 200, 3) := by decide +kernel
theorem dX12_law_5 : decode cX12_law 5 = .ok (.invokestatic 141, 3) := by decide +kernel
theorem dX12_law_8 : decode cX12_law 8 = .ok (.ifCond .eq 11, 3) := by decide +kernel
theorem dX12_law_11 : decode cX12_law 11 = .ok (.iload_n 1, 1) := by decide +kernel
theorem dX12_law_12 : decode cX12_law 12 = .ok (.aload_n 0, 1) := by decide +kernel
theorem dX12_law_13 : decode cX12_law 13 = .ok (.getfield 148, 3) := by decide +kernel
theorem dX12_law_16 : decode cX12_law 16 = .ok (.if_icmp .le 5, 3) := by decide +kernel
theorem dX12_law_19 : decode cX12_law 19 = .ok (.iconst (-1), 1) := by decide +kernel
theorem dX12_law_20 : decode cX12_law 20 = .ok (.ireturn, 1) := by decide +kernel
theorem dX12_law_21 : decode cX12_law 21 = .ok (.aload_n 0, 1) := by decide +kernel
theorem dX12_law_22 : decode cX12_law 22 = .ok (.iconst 0, 1) := by decide +kernel
theorem dX12_law_23 : decode cX12_law 23 = .ok (.putfield 155, 3) := by decide +kernel
theorem dX12_law_26 : decode cX12_law 26 = .ok (.aload_n 0, 1) := by decide +kernel
theorem dX12_law_27 : decode cX12_law 27 = .ok (.iload_n 1, 1) := by decide +kernel
theorem dX12_law_28 : decode cX12_law 28 = .ok (.putfield 189, 3) := by decide +kernel
theorem dX12_law_31 : decode cX12_law 31 = .ok (.aload_n 0, 1) := by decide +kernel
theorem dX12_law_32 : decode cX12_law 32 = .ok (.iconst 0, 1) := by decide +kernel
theorem dX12_law_33 : decode cX12_law 33 = .ok (.putfield 238, 3) := by decide +kernel
theorem dX12_law_36 : decode cX12_law 36 = .ok (.aload_n 0, 1) := by decide +kernel
theorem dX12_law_37 : decode cX12_law 37 = .ok (.iconst 0, 1) := by decide +kernel
theorem dX12_law_38 : decode cX12_law 38 = .ok (.putfield 292, 3) := by decide +kernel
theorem dX12_law_41 : decode cX12_law 41 = .ok (.aload_n 0, 1) := by decide +kernel
theorem dX12_law_42 : decode cX12_law 42 = .ok (.invokevirtual 298, 3) := by decide +kernel
theorem dX12_law_45 : decode cX12_law 45 = .ok (.istore_n 2, 1) := by decide +kernel
theorem dX12_law_46 : decode cX12_law 46 = .ok (.iload_n 2, 1) := by decide +kernel
theorem dX12_law_47 : decode cX12_law 47 = .ok (.ifCond .eq 39, 3) := by decide +kernel
theorem dX12_law_50 : decode cX12_law 50 = .ok (.aload_n 0, 1) := by decide +kernel
theorem dX12_law_51 : decode cX12_law 51 = .ok (.getfield 155, 3) := by decide +kernel
theorem dX12_law_54 : decode cX12_law 54 = .ok (.aload_n 0, 1) := by decide +kernel
theorem dX12_law_55 : decode cX12_law 55 = .ok (.getfield 189, 3) := by decide +kernel
theorem dX12_law_58 : decode cX12_law 58 = .ok (.if_icmp .ge 28, 3) := by decide +kernel
theorem dX12_law_61 : decode cX12_law 61 = .ok (.aload_n 0, 1) := by decide +kernel
theorem dX12_law_62 : decode cX12_law 62 = .ok (.bipush 59, 2) := by decide +kernel
theorem dX12_law_64 : decode cX12_law 64 = .ok (.invokevirtual 179, 3) := by decide +kernel
theorem dX12_law_67 : decode cX12_law 67 = .ok (.ifCond .eq 14, 3) := by decide +kernel
theorem dX12_law_70 : decode cX12_law 70 = .ok (.aload_n 0, 1) := by decide +kernel
theorem dX12_law_71 : decode cX12_law 71 = .ok (.invokevirtual 298, 3) := by decide +kernel
theorem dX12_law_74 : decode cX12_law 74 = .ok (.ifCond .eq 7, 3) := by decide +kernel
theorem dX12_law_77 : decode cX12_law 77 = .ok (.iconst 1, 1) := by decide +kernel
theorem dX12_law_78 : decode cX12_law 78 = .ok (.goto 4, 3) := by decide +kernel
theorem dX12_law_81 : decode cX12_law 81 = .ok (.iconst 0, 1) := by decide +kernel
theorem dX12_law_82 : decode cX12_law 82 = .ok (.istore_n 2, 1) := by decide +kernel
theorem dX12_law_83 : decode cX12_law 83 = .ok (.goto (-37), 3) := by decide +kernel
theorem dX12_law_86 : decode cX12_law 86 = .ok (.aload_n 0, 1) := by decide +kernel
theorem dX12_law_87 : decode cX12_law 87 = .ok (.iconst 0, 1) := by decide +kernel
theorem dX12_law_88 : decode cX12_law 88 = .ok (.putfield 148, 3) := by decide +kernel
theorem dX12_law_91 : decode cX12_law 91 = .ok (.iload_n 2, 1) := by decide +kernel
theorem dX12_law_92 : decode cX12_law 92 = .ok (.ifCond .ne 8, 3) := by decide +kernel
theorem dX12_law_95 : decode cX12_law 95 = .ok (.aload_n 0, 1) := by decide +kernel
theorem dX12_law_96 : decode cX12_law 96 = .ok (.getfield 195, 3) := by decide +kernel
theorem dX12_law_99 : decode cX12_law 99 = .ok (.ireturn, 1) := by decide +kernel
theorem dX12_law_100 : decode cX12_law 100 = .ok (.aload_n 0, 1) := by decide +kernel
theorem dX12_law_101 : decode cX12_law 101 = .ok (.aload_n 0, 1) := by decide +kernel
theorem dX12_law_102 : decode cX12_law 102 = .ok (.getfield 292, 3) := by decide +kernel
theorem dX12_law_105 : decode cX12_law 105 = .ok (.putfield 301, 3) := by decide +kernel
theorem dX12_law_108 : decode cX12_law 108 = .ok (.iconst 0, 1) := by decide +kernel
theorem dX12_law_109 : decode cX12_law 109 = .ok (.istore_n 3, 1) := by decide +kernel
theorem dX12_law_110 : decode cX12_law 110 = .ok (.iload_n 3, 1) := by decide +kernel
theorem dX12_law_111 : decode cX12_law 111 = .ok (.aload_n 0, 1) := by decide +kernel
theorem dX12_law_112 : decode cX12_law 112 = .ok (.getfield 238, 3) := by decide +kernel
theorem dX12_law_115 : decode cX12_law 115 = .ok (.if_icmp .ge 21, 3) := by decide +kernel
theorem dX12_law_118 : decode cX12_law 118 = .ok (.aload_n 0, 1) := by decide +kernel
theorem dX12_law_119 : decode cX12_law 119 = .ok (.getfield 74, 3) := by decide +kernel
theorem dX12_law_122 : decode cX12_law 122 = .ok (.iload_n 3, 1) := by decide +kernel
theorem dX12_law_123 : decode cX12_law 123 = .ok (.aload_n 0, 1) := by decide +kernel
theorem dX12_law_124 : decode cX12_law 124 = .ok (.getfield 56, 3) := by decide +kernel
theorem dX12_law_127 : decode cX12_law 127 = .ok (.iload_n 3, 1) := by decide +kernel
theorem dX12_law_128 : decode cX12_law 128 = .ok (.iaload, 1) := by decide +kernel
theorem dX12_law_129 : decode cX12_law 129 = .ok (.iastore, 1) := by decide +kernel
theorem dX12_law_130 : decode cX12_law 130 = .ok (.iinc 3 1, 3) := by decide +kernel
theorem dX12_law_133 : decode cX12_law 133 = .ok (.goto (-23), 3) := by decide +kernel
theorem dX12_law_136 : decode cX12_law 136 = .ok (.iconst 0, 1) := by decide +kernel
theorem dX12_law_137 : decode cX12_law 137 = .ok (.istore_n 3, 1) := by decide +kernel
theorem dX12_law_138 : decode cX12_law 138 = .ok (.iload_n 3, 1) := by decide +kernel
theorem dX12_law_139 : decode cX12_law 139 = .ok (.aload_n 0, 1) := by decide +kernel
theorem dX12_law_140 : decode cX12_law 140 = .ok (.getfield 292, 3) := by decide +kernel
theorem dX12_law_143 : decode cX12_law 143 = .ok (.if_icmp .ge 57, 3) := by decide +kernel
theorem dX12_law_146 : decode cX12_law 146 = .ok (.aload_n 0, 1) := by decide +kernel
theorem dX12_law_147 : decode cX12_law 147 = .ok (.getfield 77, 3) := by decide +kernel
theorem dX12_law_150 : decode cX12_law 150 = .ok (.iload_n 3, 1) := by decide +kernel
theorem dX12_law_151 : decode cX12_law 151 = .ok (.aload_n 0, 1) := by decide +kernel
theorem dX12_law_152 : decode cX12_law 152 = .ok (.getfield 62, 3) := by decide +kernel
theorem dX12_law_155 : decode cX12_law 155 = .ok (.iload_n 3, 1) := by decide +kernel
theorem dX12_law_156 : decode cX12_law 156 = .ok (.iaload, 1) := by decide +kernel
theorem dX12_law_157 : decode cX12_law 157 = .ok (.iastore, 1) := by decide +kernel
theorem dX12_law_158 : decode cX12_law 158 = .ok (.aload_n 0, 1) := by decide +kernel
theorem dX12_law_159 : decode cX12_law 159 = .ok (.getfield 80, 3) := by decide +kernel
theorem dX12_law_162 : decode cX12_law 162 = .ok (.iload_n 3, 1) := by decide +kernel
theorem dX12_law_163 : decode cX12_law 163 = .ok (.aload_n 0, 1) := by decide +kernel
theorem dX12_law_164 : decode cX12_law 164 = .ok (.getfield 65, 3) := by decide +kernel
theorem dX12_law_167 : decode cX12_law 167 = .ok (.iload_n 3, 1) := by decide +kernel
theorem dX12_law_168 : decode cX12_law 168 = .ok (.iaload, 1) := by decide +kernel
theorem dX12_law_169 : decode cX12_law 169 = .ok (.iastore, 1) := by decide +kernel
theorem dX12_law_170 : decode cX12_law 170 = .ok (.aload_n 0, 1) := by decide +kernel
theorem dX12_law_171 : decode cX12_law 171 = .ok (.getfield 83, 3) := by decide +kernel
theorem dX12_law_174 : decode cX12_law 174 = .ok (.iload_n 3, 1) := by decide +kernel
theorem dX12_law_175 : decode cX12_law 175 = .ok (.aload_n 0, 1) := by decide +kernel
theorem dX12_law_176 : decode cX12_law 176 = .ok (.getfield 68, 3) := by decide +kernel
theorem dX12_law_179 : decode cX12_law 179 = .ok (.iload_n 3, 1) := by decide +kernel
theorem dX12_law_180 : decode cX12_law 180 = .ok (.iaload, 1) := by decide +kernel
theorem dX12_law_181 : decode cX12_law 181 = .ok (.iastore, 1) := by decide +kernel
theorem dX12_law_182 : decode cX12_law 182 = .ok (.aload_n 0, 1) := by decide +kernel
theorem dX12_law_183 : decode cX12_law 183 = .ok (.getfield 86, 3) := by decide +kernel
theorem dX12_law_186 : decode cX12_law 186 = .ok (.iload_n 3, 1) := by decide +kernel
theorem dX12_law_187 : decode cX12_law 187 = .ok (.aload_n 0, 1) := by decide +kernel
theorem dX12_law_188 : decode cX12_law 188 = .ok (.getfield 71, 3) := by decide +kernel
theorem dX12_law_191 : decode cX12_law 191 = .ok (.iload_n 3, 1) := by decide +kernel
theorem dX12_law_192 : decode cX12_law 192 = .ok (.iaload, 1) := by decide +kernel
theorem dX12_law_193 : decode cX12_law 193 = .ok (.iastore, 1) := by decide +kernel
theorem dX12_law_194 : decode cX12_law 194 = .ok (.iinc 3 1, 3) := by decide +kernel
theorem dX12_law_197 : decode cX12_law 197 = .ok (.goto (-59), 3) := by decide +kernel
theorem dX12_law_200 : decode cX12_law 200 = .ok (.aload_n 0, 1) := by decide +kernel
theorem dX12_law_201 : decode cX12_law 201 = .ok (.getfield 292, 3) := by decide +kernel
theorem dX12_law_204 : decode cX12_law 204 = .ok (.ireturn, 1) := by decide +kernel
theorem dX12_laysCancel_0 : decode cX12_laysCancel 0 = .ok (.aload_n 0, 1) := by decide +kernel
theorem dX12_laysCancel_1 : decode cX12_laysCancel 1 = .ok (.aload_n 0, 1) := by decide +kernel
theorem dX12_laysCancel_2 : decode cX12_laysCancel 2 = .ok (.getfield 44, 3) := by decide +kernel
theorem dX12_laysCancel_5 : decode cX12_laysCancel 5 = .ok (.aload_n 0, 1) := by decide +kernel
theorem dX12_laysCancel_6 : decode cX12_laysCancel 6 = .ok (.getfield 47, 3) := by decide +kernel
theorem dX12_laysCancel_9 : decode cX12_laysCancel 9 = .ok (.iload_n 1, 1) := by decide +kernel
theorem dX12_laysCancel_10 : decode cX12_laysCancel 10 = .ok (.iload_n 2, 1) := by decide +kernel
theorem dX12_laysCancel_11 : decode cX12_laysCancel 11 = .ok (.invokevirtual 228, 3) := by decide +kernel
theorem dX12_laysCancel_14 : decode cX12_laysCancel 14 = .ok (.aload_n 0, 1) := by decide +kernel
theorem dX12_laysCancel_15 : decode cX12_laysCancel 15 = .ok (.getfield 47, 3) := by decide +kernel
theorem dX12_laysCancel_18 : decode cX12_laysCancel 18 = .ok (.aload_n 0, 1) := by decide +kernel
theorem dX12_laysCancel_19 : decode cX12_laysCancel 19 = .ok (.getfield 145, 3) := by decide +kernel
theorem dX12_laysCancel_22 : decode cX12_laysCancel 22 = .ok (.iconst 1, 1) := by decide +kernel
theorem dX12_laysCancel_23 : decode cX12_laysCancel 23 = .ok (.isub, 1) := by decide +kernel
theorem dX12_laysCancel_24 : decode cX12_laysCancel 24 = .ok (.iaload, 1) := by decide +kernel
theorem dX12_laysCancel_25 : decode cX12_laysCancel 25 = .ok (.aload_n 0, 1) := by decide +kernel
theorem dX12_laysCancel_26 : decode cX12_laysCancel 26 = .ok (.getfield 44, 3) := by decide +kernel
theorem dX12_laysCancel_29 : decode cX12_laysCancel 29 = .ok (.aload_n 0, 1) := by decide +kernel
theorem dX12_laysCancel_30 : decode cX12_laysCancel 30 = .ok (.getfield 145, 3) := by decide +kernel
theorem dX12_laysCancel_33 : decode cX12_laysCancel 33 = .ok (.iconst 1, 1) := by decide +kernel
theorem dX12_laysCancel_34 : decode cX12_laysCancel 34 = .ok (.isub, 1) := by decide +kernel
theorem dX12_laysCancel_35 : decode cX12_laysCancel 35 = .ok (.iaload, 1) := by decide +kernel
theorem dX12_laysCancel_36 : decode cX12_laysCancel 36 = .ok (.if_icmp .ne 4, 3) := by decide +kernel
theorem dX12_laysCancel_39 : decode cX12_laysCancel 39 = .ok (.return_, 1) := by decide +kernel
theorem dX12_laysCancel_40 : decode cX12_laysCancel 40 = .ok (.iload_n 1, 1) := by decide +kernel
theorem dX12_laysCancel_41 : decode cX12_laysCancel 41 = .ok (.iconst 1, 1) := by decide +kernel
theorem dX12_laysCancel_42 : decode cX12_laysCancel 42 = .ok (.iadd, 1) := by decide +kernel
theorem dX12_laysCancel_43 : decode cX12_laysCancel 43 = .ok (.istore_n 3, 1) := by decide +kernel
theorem dX12_laysCancel_44 : decode cX12_laysCancel 44 = .ok (.iload_n 3, 1) := by decide +kernel
theorem dX12_laysCancel_45 : decode cX12_laysCancel 45 = .ok (.aload_n 0, 1) := by decide +kernel
theorem dX12_laysCancel_46 : decode cX12_laysCancel 46 = .ok (.getfield 145, 3) := by decide +kernel
theorem dX12_laysCancel_49 : decode cX12_laysCancel 49 = .ok (.if_icmp .ge 122, 3) := by decide +kernel
theorem dX12_laysCancel_52 : decode cX12_laysCancel 52 = .ok (.iconst 0, 1) := by decide +kernel
theorem dX12_laysCancel_53 : decode cX12_laysCancel 53 = .ok (.istore 4, 2) := by decide +kernel
theorem dX12_laysCancel_55 : decode cX12_laysCancel 55 = .ok (.iload 4, 2) := by decide +kernel
theorem dX12_laysCancel_57 : decode cX12_laysCancel 57 = .ok (.aload_n 0, 1) := by decide +kernel
theorem dX12_laysCancel_58 : decode cX12_laysCancel 58 = .ok (.getfield 134, 3) := by decide +kernel
theorem dX12_laysCancel_61 : decode cX12_laysCancel 61 = .ok (.if_icmp .ge 104, 3) := by decide +kernel
theorem dX12_laysCancel_64 : decode cX12_laysCancel 64 = .ok (.iload 4, 2) := by decide +kernel
theorem dX12_laysCancel_66 : decode cX12_laysCancel 66 = .ok (.aload_n 0, 1) := by decide +kernel
theorem dX12_laysCancel_67 : decode cX12_laysCancel 67 = .ok (.getfield 47, 3) := by decide +kernel
theorem dX12_laysCancel_70 : decode cX12_laysCancel 70 = .ok (.iload_n 3, 1) := by decide +kernel
theorem dX12_laysCancel_71 : decode cX12_laysCancel 71 = .ok (.iaload, 1) := by decide +kernel
theorem dX12_laysCancel_72 : decode cX12_laysCancel 72 = .ok (.if_icmp .ne 6, 3) := by decide +kernel
theorem dX12_laysCancel_75 : decode cX12_laysCancel 75 = .ok (.goto 84, 3) := by decide +kernel
theorem dX12_laysCancel_78 : decode cX12_laysCancel 78 = .ok (.aload_n 0, 1) := by decide +kernel
theorem dX12_laysCancel_79 : decode cX12_laysCancel 79 = .ok (.aload_n 0, 1) := by decide +kernel
theorem dX12_laysCancel_80 : decode cX12_laysCancel 80 = .ok (.getfield 47, 3) := by decide +kernel
theorem dX12_laysCancel_83 : decode cX12_laysCancel 83 = .ok (.aload_n 0, 1) := by decide +kernel
theorem dX12_laysCancel_84 : decode cX12_laysCancel 84 = .ok (.getfield 50, 3) := by decide +kernel
theorem dX12_laysCancel_87 : decode cX12_laysCancel 87 = .ok (.iload_n 3, 1) := by decide +kernel
theorem dX12_laysCancel_88 : decode cX12_laysCancel 88 = .ok (.iload 4, 2) := by decide +kernel
theorem dX12_laysCancel_90 : decode cX12_laysCancel 90 = .ok (.invokevirtual 228, 3) := by decide +kernel
theorem dX12_laysCancel_93 : decode cX12_laysCancel 93 = .ok (.aload_n 0, 1) := by decide +kernel
theorem dX12_laysCancel_94 : decode cX12_laysCancel 94 = .ok (.getfield 50, 3) := by decide +kernel
theorem dX12_laysCancel_97 : decode cX12_laysCancel 97 = .ok (.aload_n 0, 1) := by decide +kernel
theorem dX12_laysCancel_98 : decode cX12_laysCancel 98 = .ok (.getfield 145, 3) := by decide +kernel
theorem dX12_laysCancel_101 : decode cX12_laysCancel 101 = .ok (.iconst 1, 1) := by decide +kernel
theorem dX12_laysCancel_102 : decode cX12_laysCancel 102 = .ok (.isub, 1) := by decide +kernel
theorem dX12_laysCancel_103 : decode cX12_laysCancel 103 = .ok (.iaload, 1) := by decide +kernel
theorem dX12_laysCancel_104 : decode cX12_laysCancel 104 = .ok (.aload_n 0, 1) := by decide +kernel
theorem dX12_laysCancel_105 : decode cX12_laysCancel 105 = .ok (.getfield 44, 3) := by decide +kernel
theorem dX12_laysCancel_108 : decode cX12_laysCancel 108 = .ok (.aload_n 0, 1) := by decide +kernel
theorem dX12_laysCancel_109 : decode cX12_laysCancel 109 = .ok (.getfield 145, 3) := by decide +kernel
theorem dX12_laysCancel_112 : decode cX12_laysCancel 112 = .ok (.iconst 1, 1) := by decide +kernel
theorem dX12_laysCancel_113 : decode cX12_laysCancel 113 = .ok (.isub, 1) := by decide +kernel
theorem dX12_laysCancel_114 : decode cX12_laysCancel 114 = .ok (.iaload, 1) := by decide +kernel
theorem dX12_laysCancel_115 : decode cX12_laysCancel 115 = .ok (.if_icmp .eq 6, 3) := by decide +kernel
theorem dX12_laysCancel_118 : decode cX12_laysCancel 118 = .ok (.goto 41, 3) := by decide +kernel
theorem dX12_laysCancel_121 : decode cX12_laysCancel 121 = .ok (.aload_n 0, 1) := by decide +kernel
theorem dX12_laysCancel_122 : decode cX12_laysCancel 122 = .ok (.getfield 346, 3) := by decide +kernel
theorem dX12_laysCancel_125 : decode cX12_laysCancel 125 = .ok (.ifCond .ne 24, 3) := by decide +kernel
theorem dX12_laysCancel_128 : decode cX12_laysCancel 128 = .ok (.aload_n 0, 1) := by decide +kernel
theorem dX12_laysCancel_129 : decode cX12_laysCancel 129 = .ok (.iload_n 1, 1) := by decide +kernel
theorem dX12_laysCancel_130 : decode cX12_laysCancel 130 = .ok (.putfield 349, 3) := by decide +kernel
theorem dX12_laysCancel_133 : decode cX12_laysCancel 133 = .ok (.aload_n 0, 1) := by decide +kernel
theorem dX12_laysCancel_134 : decode cX12_laysCancel 134 = .ok (.iload_n 2, 1) := by decide +kernel
theorem dX12_laysCancel_135 : decode cX12_laysCancel 135 = .ok (.putfield 352, 3) := by decide +kernel
theorem dX12_laysCancel_138 : decode cX12_laysCancel 138 = .ok (.aload_n 0, 1) := by decide +kernel
theorem dX12_laysCancel_139 : decode cX12_laysCancel 139 = .ok (.iload_n 3, 1) := by decide +kernel
theorem dX12_laysCancel_140 : decode cX12_laysCancel 140 = .ok (.putfield 355, 3) := by decide +kernel
theorem dX12_laysCancel_143 : decode cX12_laysCancel 143 = .ok (.aload_n 0, 1) := by decide +kernel
theorem dX12_laysCancel_144 : decode cX12_laysCancel 144 = .ok (.iload 4, 2) := by decide +kernel
theorem dX12_laysCancel_146 : decode cX12_laysCancel 146 = .ok (.putfield 358, 3) := by decide +kernel
theorem dX12_laysCancel_149 : decode cX12_laysCancel 149 = .ok (.aload_n 0, 1) := by decide +kernel
theorem dX12_laysCancel_150 : decode cX12_laysCancel 150 = .ok (.aload_n 0, 1) := by decide +kernel
theorem dX12_laysCancel_151 : decode cX12_laysCancel 151 = .ok (.getfield 346, 3) := by decide +kernel
theorem dX12_laysCancel_154 : decode cX12_laysCancel 154 = .ok (.iconst 1, 1) := by decide +kernel
theorem dX12_laysCancel_155 : decode cX12_laysCancel 155 = .ok (.iadd, 1) := by decide +kernel
theorem dX12_laysCancel_156 : decode cX12_laysCancel 156 = .ok (.putfield 346, 3) := by decide +kernel
theorem dX12_laysCancel_159 : decode cX12_laysCancel 159 = .ok (.iinc 4 1, 3) := by decide +kernel
theorem dX12_laysCancel_162 : decode cX12_laysCancel 162 = .ok (.goto (-107), 3) := by decide +kernel
theorem dX12_laysCancel_165 : decode cX12_laysCancel 165 = .ok (.iinc 3 1, 3) := by decide +kernel
theorem dX12_laysCancel_168 : decode cX12_laysCancel 168 = .ok (.goto (-124), 3) := by decide +kernel
theorem dX12_laysCancel_171 : decode cX12_laysCancel 171 = .ok (.return_, 1) := by decide +kernel
theorem dX12_laysOrder_0 : decode cX12_laysOrder 0 = .ok (.iconst 0, 1) := by decide +kernel
theorem dX12_laysOrder_1 : decode cX12_laysOrder 1 = .ok (.istore_n 2, 1) := by decide +kernel
theorem dX12_laysOrder_2 : decode cX12_laysOrder 2 = .ok (.iload_n 2, 1) := by decide +kernel
theorem dX12_laysOrder_3 : decode cX12_laysOrder 3 = .ok (.aload_n 0, 1) := by decide +kernel
theorem dX12_laysOrder_4 : decode cX12_laysOrder 4 = .ok (.getfield 145, 3) := by decide +kernel
theorem dX12_laysOrder_7 : decode cX12_laysOrder 7 = .ok (.if_icmp .ge 47, 3) := by decide +kernel
theorem dX12_laysOrder_10 : decode cX12_laysOrder 10 = .ok (.aload_n 0, 1) := by decide +kernel
theorem dX12_laysOrder_11 : decode cX12_laysOrder 11 = .ok (.getfield 101, 3) := by decide +kernel
theorem dX12_laysOrder_14 : decode cX12_laysOrder 14 = .ok (.iload_n 2, 1) := by decide +kernel
theorem dX12_laysOrder_15 : decode cX12_laysOrder 15 = .ok (.aload_n 0, 1) := by decide +kernel
theorem dX12_laysOrder_16 : decode cX12_laysOrder 16 = .ok (.iload_n 2, 1) := by decide +kernel
theorem dX12_laysOrder_17 : decode cX12_laysOrder 17 = .ok (.iload_n 1, 1) := by decide +kernel
theorem dX12_laysOrder_18 : decode cX12_laysOrder 18 = .ok (.invokevirtual 330, 3) := by decide +kernel
theorem dX12_laysOrder_21 : decode cX12_laysOrder 21 = .ok (.iastore, 1) := by decide +kernel
theorem dX12_laysOrder_22 : decode cX12_laysOrder 22 = .ok (.aload_n 0, 1) := by decide +kernel
theorem dX12_laysOrder_23 : decode cX12_laysOrder 23 = .ok (.iload_n 2, 1) := by decide +kernel
theorem dX12_laysOrder_24 : decode cX12_laysOrder 24 = .ok (.aload_n 0, 1) := by decide +kernel
theorem dX12_laysOrder_25 : decode cX12_laysOrder 25 = .ok (.getfield 13, 3) := by decide +kernel
theorem dX12_laysOrder_28 : decode cX12_laysOrder 28 = .ok (.iload_n 2, 1) := by decide +kernel
theorem dX12_laysOrder_29 : decode cX12_laysOrder 29 = .ok (.iaload, 1) := by decide +kernel
theorem dX12_laysOrder_30 : decode cX12_laysOrder 30 = .ok (.iconst 0, 1) := by decide +kernel
theorem dX12_laysOrder_31 : decode cX12_laysOrder 31 = .ok (.invokevirtual 311, 3) := by decide +kernel
theorem dX12_laysOrder_34 : decode cX12_laysOrder 34 = .ok (.aload_n 0, 1) := by decide +kernel
theorem dX12_laysOrder_35 : decode cX12_laysOrder 35 = .ok (.getfield 104, 3) := by decide +kernel
theorem dX12_laysOrder_38 : decode cX12_laysOrder 38 = .ok (.iload_n 2, 1) := by decide +kernel
theorem dX12_laysOrder_39 : decode cX12_laysOrder 39 = .ok (.aload_n 0, 1) := by decide +kernel
theorem dX12_laysOrder_40 : decode cX12_laysOrder 40 = .ok (.bipush 119, 2) := by decide +kernel
theorem dX12_laysOrder_42 : decode cX12_laysOrder 42 = .ok (.bipush 99, 2) := by decide +kernel
theorem dX12_laysOrder_44 : decode cX12_laysOrder 44 = .ok (.invokevirtual 318, 3) := by decide +kernel
theorem dX12_laysOrder_47 : decode cX12_laysOrder 47 = .ok (.iastore, 1) := by decide +kernel
theorem dX12_laysOrder_48 : decode cX12_laysOrder 48 = .ok (.iinc 2 1, 3) := by decide +kernel
theorem dX12_laysOrder_51 : decode cX12_laysOrder 51 = .ok (.goto (-49), 3) := by decide +kernel
theorem dX12_laysOrder_54 : decode cX12_laysOrder 54 = .ok (.aload_n 0, 1) := by decide +kernel
theorem dX12_laysOrder_55 : decode cX12_laysOrder 55 = .ok (.invokevirtual 337, 3) := by decide +kernel
theorem dX12_laysOrder_58 : decode cX12_laysOrder 58 = .ok (.istore_n 2, 1) := by decide +kernel
theorem dX12_laysOrder_59 : decode cX12_laysOrder 59 = .ok (.iconst 0, 1) := by decide +kernel
theorem dX12_laysOrder_60 : decode cX12_laysOrder 60 = .ok (.istore_n 3, 1) := by decide +kernel
theorem dX12_laysOrder_61 : decode cX12_laysOrder 61 = .ok (.iload_n 3, 1) := by decide +kernel
theorem dX12_laysOrder_62 : decode cX12_laysOrder 62 = .ok (.aload_n 0, 1) := by decide +kernel
theorem dX12_laysOrder_63 : decode cX12_laysOrder 63 = .ok (.getfield 145, 3) := by decide +kernel
theorem dX12_laysOrder_66 : decode cX12_laysOrder 66 = .ok (.if_icmp .ge 57, 3) := by decide +kernel
theorem dX12_laysOrder_69 : decode cX12_laysOrder 69 = .ok (.iconst 0, 1) := by decide +kernel
theorem dX12_laysOrder_70 : decode cX12_laysOrder 70 = .ok (.istore 4, 2) := by decide +kernel
theorem dX12_laysOrder_72 : decode cX12_laysOrder 72 = .ok (.iload_n 2, 1) := by decide +kernel
theorem dX12_laysOrder_73 : decode cX12_laysOrder 73 = .ok (.iload 4, 2) := by decide +kernel
theorem dX12_laysOrder_75 : decode cX12_laysOrder 75 = .ok (.invokestatic 327, 3) := by decide +kernel
theorem dX12_laysOrder_78 : decode cX12_laysOrder 78 = .ok (.ifCond .eq 13, 3) := by decide +kernel
theorem dX12_laysOrder_81 : decode cX12_laysOrder 81 = .ok (.aload_n 0, 1) := by decide +kernel
theorem dX12_laysOrder_82 : decode cX12_laysOrder 82 = .ok (.iload 4, 2) := by decide +kernel
theorem dX12_laysOrder_84 : decode cX12_laysOrder 84 = .ok (.iload_n 2, 1) := by decide +kernel
theorem dX12_laysOrder_85 : decode cX12_laysOrder 85 = .ok (.invokevirtual 379, 3) := by decide +kernel
theorem dX12_laysOrder_88 : decode cX12_laysOrder 88 = .ok (.ifCond .ne 12, 3) := by decide +kernel
theorem dX12_laysOrder_91 : decode cX12_laysOrder 91 = .ok (.iload 4, 2) := by decide +kernel
theorem dX12_laysOrder_93 : decode cX12_laysOrder 93 = .ok (.iconst 1, 1) := by decide +kernel
theorem dX12_laysOrder_94 : decode cX12_laysOrder 94 = .ok (.iadd, 1) := by decide +kernel
theorem dX12_laysOrder_95 : decode cX12_laysOrder 95 = .ok (.istore 4, 2) := by decide +kernel
theorem dX12_laysOrder_97 : decode cX12_laysOrder 97 = .ok (.goto (-25), 3) := by decide +kernel
theorem dX12_laysOrder_100 : decode cX12_laysOrder 100 = .ok (.aload_n 0, 1) := by decide +kernel
theorem dX12_laysOrder_101 : decode cX12_laysOrder 101 = .ok (.getfield 107, 3) := by decide +kernel
theorem dX12_laysOrder_104 : decode cX12_laysOrder 104 = .ok (.iload_n 3, 1) := by decide +kernel
theorem dX12_laysOrder_105 : decode cX12_laysOrder 105 = .ok (.iload 4, 2) := by decide +kernel
theorem dX12_laysOrder_107 : decode cX12_laysOrder 107 = .ok (.iastore, 1) := by decide +kernel
theorem dX12_laysOrder_108 : decode cX12_laysOrder 108 = .ok (.iload_n 2, 1) := by decide +kernel
theorem dX12_laysOrder_109 : decode cX12_laysOrder 109 = .ok (.iconst 1, 1) := by decide +kernel
theorem dX12_laysOrder_110 : decode cX12_laysOrder 110 = .ok (.iload 4, 2) := by decide +kernel
theorem dX12_laysOrder_112 : decode cX12_laysOrder 112 = .ok (.ishl, 1) := by decide +kernel
theorem dX12_laysOrder_113 : decode cX12_laysOrder 113 = .ok (.iconst (-1), 1) := by decide +kernel
theorem dX12_laysOrder_114 : decode cX12_laysOrder 114 = .ok (.ixor, 1) := by decide +kernel
theorem dX12_laysOrder_115 : decode cX12_laysOrder 115 = .ok (.iand, 1) := by decide +kernel
theorem dX12_laysOrder_116 : decode cX12_laysOrder 116 = .ok (.istore_n 2, 1) := by decide +kernel
theorem dX12_laysOrder_117 : decode cX12_laysOrder 117 = .ok (.iinc 3 1, 3) := by decide +kernel
theorem dX12_laysOrder_120 : decode cX12_laysOrder 120 = .ok (.goto (-59), 3) := by decide +kernel
theorem dX12_laysOrder_123 : decode cX12_laysOrder 123 = .ok (.return_, 1) := by decide +kernel
theorem dX12_laysTruth_0 : decode cX12_laysTruth 0 = .ok (.iconst 0, 1) := by decide +kernel
theorem dX12_laysTruth_1 : decode cX12_laysTruth 1 = .ok (.istore_n 1, 1) := by decide +kernel
theorem dX12_laysTruth_2 : decode cX12_laysTruth 2 = .ok (.iload_n 1, 1) := by decide +kernel
theorem dX12_laysTruth_3 : decode cX12_laysTruth 3 = .ok (.aload_n 0, 1) := by decide +kernel
theorem dX12_laysTruth_4 : decode cX12_laysTruth 4 = .ok (.getfield 145, 3) := by decide +kernel
theorem dX12_laysTruth_7 : decode cX12_laysTruth 7 = .ok (.if_icmp .ge 24, 3) := by decide +kernel
theorem dX12_laysTruth_10 : decode cX12_laysTruth 10 = .ok (.aload_n 0, 1) := by decide +kernel
theorem dX12_laysTruth_11 : decode cX12_laysTruth 11 = .ok (.getfield 44, 3) := by decide +kernel
theorem dX12_laysTruth_14 : decode cX12_laysTruth 14 = .ok (.iload_n 1, 1) := by decide +kernel
theorem dX12_laysTruth_15 : decode cX12_laysTruth 15 = .ok (.aload_n 0, 1) := by decide +kernel
theorem dX12_laysTruth_16 : decode cX12_laysTruth 16 = .ok (.iload_n 1, 1) := by decide +kernel
theorem dX12_laysTruth_17 : decode cX12_laysTruth 17 = .ok (.aload_n 0, 1) := by decide +kernel
theorem dX12_laysTruth_18 : decode cX12_laysTruth 18 = .ok (.getfield 44, 3) := by decide +kernel
theorem dX12_laysTruth_21 : decode cX12_laysTruth 21 = .ok (.invokevirtual 198, 3) := by decide +kernel
theorem dX12_laysTruth_24 : decode cX12_laysTruth 24 = .ok (.iastore, 1) := by decide +kernel
theorem dX12_laysTruth_25 : decode cX12_laysTruth 25 = .ok (.iinc 1 1, 3) := by decide +kernel
theorem dX12_laysTruth_28 : decode cX12_laysTruth 28 = .ok (.goto (-26), 3) := by decide +kernel
theorem dX12_laysTruth_31 : decode cX12_laysTruth 31 = .ok (.return_, 1) := by decide +kernel
theorem dX12_line_0 : decode cX12_line 0 = .ok (.aload_n 0, 1) := by decide +kernel
theorem dX12_line_1 : decode cX12_line 1 = .ok (.iload_n 1, 1) := by decide +kernel
theorem dX12_line_2 : decode cX12_line 2 = .ok (.invokevirtual 209, 3) := by decide +kernel
theorem dX12_line_5 : decode cX12_line 5 = .ok (.ifCond .ne 5, 3) := by decide +kernel
theorem dX12_line_8 : decode cX12_line 8 = .ok (.iconst (-1), 1) := by decide +kernel
theorem dX12_line_9 : decode cX12_line 9 = .ok (.ireturn, 1) := by decide +kernel
theorem dX12_line_10 : decode cX12_line 10 = .ok (.aload_n 0, 1) := by decide +kernel
theorem dX12_line_11 : decode cX12_line 11 = .ok (.invokevirtual 212, 3) := by decide +kernel
theorem dX12_line_14 : decode cX12_line 14 = .ok (.iload_n 2, 1) := by decide +kernel
theorem dX12_line_15 : decode cX12_line 15 = .ok (.tableswitch 120 0 8 #[49, 56, 63, 70, 77, 84, 94, 100, 106], 49) := by decide +kernel
theorem dX12_line_64 : decode cX12_line 64 = .ok (.aload_n 0, 1) := by decide +kernel
theorem dX12_line_65 : decode cX12_line 65 = .ok (.getfield 13, 3) := by decide +kernel
theorem dX12_line_68 : decode cX12_line 68 = .ok (.iload_n 1, 1) := by decide +kernel
theorem dX12_line_69 : decode cX12_line 69 = .ok (.iaload, 1) := by decide +kernel
theorem dX12_line_70 : decode cX12_line 70 = .ok (.ireturn, 1) := by decide +kernel
theorem dX12_line_71 : decode cX12_line 71 = .ok (.aload_n 0, 1) := by decide +kernel
theorem dX12_line_72 : decode cX12_line 72 = .ok (.getfield 16, 3) := by decide +kernel
theorem dX12_line_75 : decode cX12_line 75 = .ok (.iload_n 1, 1) := by decide +kernel
theorem dX12_line_76 : decode cX12_line 76 = .ok (.iaload, 1) := by decide +kernel
theorem dX12_line_77 : decode cX12_line 77 = .ok (.ireturn, 1) := by decide +kernel
theorem dX12_line_78 : decode cX12_line 78 = .ok (.aload_n 0, 1) := by decide +kernel
theorem dX12_line_79 : decode cX12_line 79 = .ok (.getfield 19, 3) := by decide +kernel
theorem dX12_line_82 : decode cX12_line 82 = .ok (.iload_n 1, 1) := by decide +kernel
theorem dX12_line_83 : decode cX12_line 83 = .ok (.iaload, 1) := by decide +kernel
theorem dX12_line_84 : decode cX12_line 84 = .ok (.ireturn, 1) := by decide +kernel
theorem dX12_line_85 : decode cX12_line 85 = .ok (.aload_n 0, 1) := by decide +kernel
theorem dX12_line_86 : decode cX12_line 86 = .ok (.getfield 22, 3) := by decide +kernel
theorem dX12_line_89 : decode cX12_line 89 = .ok (.iload_n 1, 1) := by decide +kernel
theorem dX12_line_90 : decode cX12_line 90 = .ok (.iaload, 1) := by decide +kernel
theorem dX12_line_91 : decode cX12_line 91 = .ok (.ireturn, 1) := by decide +kernel
theorem dX12_line_92 : decode cX12_line 92 = .ok (.aload_n 0, 1) := by decide +kernel
theorem dX12_line_93 : decode cX12_line 93 = .ok (.getfield 44, 3) := by decide +kernel
theorem dX12_line_96 : decode cX12_line 96 = .ok (.iload_n 1, 1) := by decide +kernel
theorem dX12_line_97 : decode cX12_line 97 = .ok (.iaload, 1) := by decide +kernel
theorem dX12_line_98 : decode cX12_line 98 = .ok (.ireturn, 1) := by decide +kernel
theorem dX12_line_99 : decode cX12_line 99 = .ok (.aload_n 0, 1) := by decide +kernel
theorem dX12_line_100 : decode cX12_line 100 = .ok (.iload_n 1, 1) := by decide +kernel
theorem dX12_line_101 : decode cX12_line 101 = .ok (.aload_n 0, 1) := by decide +kernel
theorem dX12_line_102 : decode cX12_line 102 = .ok (.getfield 13, 3) := by decide +kernel
theorem dX12_line_105 : decode cX12_line 105 = .ok (.invokevirtual 198, 3) := by decide +kernel
theorem dX12_line_108 : decode cX12_line 108 = .ok (.ireturn, 1) := by decide +kernel
theorem dX12_line_109 : decode cX12_line 109 = .ok (.aload_n 0, 1) := by decide +kernel
theorem dX12_line_110 : decode cX12_line 110 = .ok (.iload_n 1, 1) := by decide +kernel
theorem dX12_line_111 : decode cX12_line 111 = .ok (.invokevirtual 215, 3) := by decide +kernel
theorem dX12_line_114 : decode cX12_line 114 = .ok (.ireturn, 1) := by decide +kernel
theorem dX12_line_115 : decode cX12_line 115 = .ok (.aload_n 0, 1) := by decide +kernel
theorem dX12_line_116 : decode cX12_line 116 = .ok (.iload_n 1, 1) := by decide +kernel
theorem dX12_line_117 : decode cX12_line 117 = .ok (.invokevirtual 219, 3) := by decide +kernel
theorem dX12_line_120 : decode cX12_line 120 = .ok (.ireturn, 1) := by decide +kernel
theorem dX12_line_121 : decode cX12_line 121 = .ok (.aload_n 0, 1) := by decide +kernel
theorem dX12_line_122 : decode cX12_line 122 = .ok (.iload_n 1, 1) := by decide +kernel
theorem dX12_line_123 : decode cX12_line 123 = .ok (.invokevirtual 222, 3) := by decide +kernel
theorem dX12_line_126 : decode cX12_line 126 = .ok (.ifCond .eq 7, 3) := by decide +kernel
theorem dX12_line_129 : decode cX12_line 129 = .ok (.iconst 1, 1) := by decide +kernel
theorem dX12_line_130 : decode cX12_line 130 = .ok (.goto 4, 3) := by decide +kernel
theorem dX12_line_133 : decode cX12_line 133 = .ok (.iconst 0, 1) := by decide +kernel
theorem dX12_line_134 : decode cX12_line 134 = .ok (.ireturn, 1) := by decide +kernel
theorem dX12_line_135 : decode cX12_line 135 = .ok (.iconst (-1), 1) := by decide +kernel
theorem dX12_line_136 : decode cX12_line 136 = .ok (.ireturn, 1) := by decide +kernel
theorem dX12_makes_0 : decode cX12_makes 0 = .ok (.aload_n 0, 1) := by decide +kernel
theorem dX12_makes_1 : decode cX12_makes 1 = .ok (.getfield 16, 3) := by decide +kernel
theorem dX12_makes_4 : decode cX12_makes 4 = .ok (.iload_n 1, 1) := by decide +kernel
theorem dX12_makes_5 : decode cX12_makes 5 = .ok (.iaload, 1) := by decide +kernel
theorem dX12_makes_6 : decode cX12_makes 6 = .ok (.tableswitch 93 0 3 #[30, 42, 51, 70], 30) := by decide +kernel
theorem dX12_makes_36 : decode cX12_makes 36 = .ok (.aload_n 0, 1) := by decide +kernel
theorem dX12_makes_37 : decode cX12_makes 37 = .ok (.getfield 7, 3) := by decide +kernel
theorem dX12_makes_40 : decode cX12_makes 40 = .ok (.aload_n 0, 1) := by decide +kernel
theorem dX12_makes_41 : decode cX12_makes 41 = .ok (.getfield 19, 3) := by decide +kernel
theorem dX12_makes_44 : decode cX12_makes 44 = .ok (.iload_n 1, 1) := by decide +kernel
theorem dX12_makes_45 : decode cX12_makes 45 = .ok (.iaload, 1) := by decide +kernel
theorem dX12_makes_46 : decode cX12_makes 46 = .ok (.iaload, 1) := by decide +kernel
theorem dX12_makes_47 : decode cX12_makes 47 = .ok (.ireturn, 1) := by decide +kernel
theorem dX12_makes_48 : decode cX12_makes 48 = .ok (.aload_n 2, 1) := by decide +kernel
theorem dX12_makes_49 : decode cX12_makes 49 = .ok (.aload_n 0, 1) := by decide +kernel
theorem dX12_makes_50 : decode cX12_makes 50 = .ok (.getfield 19, 3) := by decide +kernel
theorem dX12_makes_53 : decode cX12_makes 53 = .ok (.iload_n 1, 1) := by decide +kernel
theorem dX12_makes_54 : decode cX12_makes 54 = .ok (.iaload, 1) := by decide +kernel
theorem dX12_makes_55 : decode cX12_makes 55 = .ok (.iaload, 1) := by decide +kernel
theorem dX12_makes_56 : decode cX12_makes 56 = .ok (.ireturn, 1) := by decide +kernel
theorem dX12_makes_57 : decode cX12_makes 57 = .ok (.aload_n 0, 1) := by decide +kernel
theorem dX12_makes_58 : decode cX12_makes 58 = .ok (.getfield 134, 3) := by decide +kernel
theorem dX12_makes_61 : decode cX12_makes 61 = .ok (.aload_n 2, 1) := by decide +kernel
theorem dX12_makes_62 : decode cX12_makes 62 = .ok (.aload_n 0, 1) := by decide +kernel
theorem dX12_makes_63 : decode cX12_makes 63 = .ok (.getfield 19, 3) := by decide +kernel
theorem dX12_makes_66 : decode cX12_makes 66 = .ok (.iload_n 1, 1) := by decide +kernel
theorem dX12_makes_67 : decode cX12_makes 67 = .ok (.iaload, 1) := by decide +kernel
theorem dX12_makes_68 : decode cX12_makes 68 = .ok (.iaload, 1) := by decide +kernel
theorem dX12_makes_69 : decode cX12_makes 69 = .ok (.isub, 1) := by decide +kernel
theorem dX12_makes_70 : decode cX12_makes 70 = .ok (.aload_n 0, 1) := by decide +kernel
theorem dX12_makes_71 : decode cX12_makes 71 = .ok (.getfield 134, 3) := by decide +kernel
theorem dX12_makes_74 : decode cX12_makes 74 = .ok (.irem, 1) := by decide +kernel
theorem dX12_makes_75 : decode cX12_makes 75 = .ok (.ireturn, 1) := by decide +kernel
theorem dX12_makes_76 : decode cX12_makes 76 = .ok (.aload_n 2, 1) := by decide +kernel
theorem dX12_makes_77 : decode cX12_makes 77 = .ok (.aload_n 0, 1) := by decide +kernel
theorem dX12_makes_78 : decode cX12_makes 78 = .ok (.getfield 19, 3) := by decide +kernel
theorem dX12_makes_81 : decode cX12_makes 81 = .ok (.iload_n 1, 1) := by decide +kernel
theorem dX12_makes_82 : decode cX12_makes 82 = .ok (.iaload, 1) := by decide +kernel
theorem dX12_makes_83 : decode cX12_makes 83 = .ok (.iaload, 1) := by decide +kernel
theorem dX12_makes_84 : decode cX12_makes 84 = .ok (.aload_n 2, 1) := by decide +kernel
theorem dX12_makes_85 : decode cX12_makes 85 = .ok (.aload_n 0, 1) := by decide +kernel
theorem dX12_makes_86 : decode cX12_makes 86 = .ok (.getfield 22, 3) := by decide +kernel
theorem dX12_makes_89 : decode cX12_makes 89 = .ok (.iload_n 1, 1) := by decide +kernel
theorem dX12_makes_90 : decode cX12_makes 90 = .ok (.iaload, 1) := by decide +kernel
theorem dX12_makes_91 : decode cX12_makes 91 = .ok (.iaload, 1) := by decide +kernel
theorem dX12_makes_92 : decode cX12_makes 92 = .ok (.iadd, 1) := by decide +kernel
theorem dX12_makes_93 : decode cX12_makes 93 = .ok (.aload_n 0, 1) := by decide +kernel
theorem dX12_makes_94 : decode cX12_makes 94 = .ok (.getfield 134, 3) := by decide +kernel
theorem dX12_makes_97 : decode cX12_makes 97 = .ok (.irem, 1) := by decide +kernel
theorem dX12_makes_98 : decode cX12_makes 98 = .ok (.ireturn, 1) := by decide +kernel
theorem dX12_makes_99 : decode cX12_makes 99 = .ok (.aload_n 2, 1) := by decide +kernel
theorem dX12_makes_100 : decode cX12_makes 100 = .ok (.aload_n 0, 1) := by decide +kernel
theorem dX12_makes_101 : decode cX12_makes 101 = .ok (.getfield 19, 3) := by decide +kernel
theorem dX12_makes_104 : decode cX12_makes 104 = .ok (.iload_n 1, 1) := by decide +kernel
theorem dX12_makes_105 : decode cX12_makes 105 = .ok (.iaload, 1) := by decide +kernel
theorem dX12_makes_106 : decode cX12_makes 106 = .ok (.iaload, 1) := by decide +kernel
theorem dX12_makes_107 : decode cX12_makes 107 = .ok (.aload_n 2, 1) := by decide +kernel
theorem dX12_makes_108 : decode cX12_makes 108 = .ok (.aload_n 0, 1) := by decide +kernel
theorem dX12_makes_109 : decode cX12_makes 109 = .ok (.getfield 22, 3) := by decide +kernel
theorem dX12_makes_112 : decode cX12_makes 112 = .ok (.iload_n 1, 1) := by decide +kernel
theorem dX12_makes_113 : decode cX12_makes 113 = .ok (.iaload, 1) := by decide +kernel
theorem dX12_makes_114 : decode cX12_makes 114 = .ok (.iaload, 1) := by decide +kernel
theorem dX12_makes_115 : decode cX12_makes 115 = .ok (.imul, 1) := by decide +kernel
theorem dX12_makes_116 : decode cX12_makes 116 = .ok (.aload_n 0, 1) := by decide +kernel
theorem dX12_makes_117 : decode cX12_makes 117 = .ok (.getfield 134, 3) := by decide +kernel
theorem dX12_makes_120 : decode cX12_makes 120 = .ok (.irem, 1) := by decide +kernel
theorem dX12_makes_121 : decode cX12_makes 121 = .ok (.ireturn, 1) := by decide +kernel
theorem dX12_max_0 : decode cX12_max 0 = .ok (.iload_n 0, 1) := by decide +kernel
theorem dX12_max_1 : decode cX12_max 1 = .ok (.iload_n 1, 1) := by decide +kernel
theorem dX12_max_2 : decode cX12_max 2 = .ok (.if_icmp .le 7, 3) := by decide +kernel
theorem dX12_max_5 : decode cX12_max 5 = .ok (.iload_n 0, 1) := by decide +kernel
theorem dX12_max_6 : decode cX12_max 6 = .ok (.goto 4, 3) := by decide +kernel
theorem dX12_max_9 : decode cX12_max 9 = .ok (.iload_n 1, 1) := by decide +kernel
theorem dX12_max_10 : decode cX12_max 10 = .ok (.ireturn, 1) := by decide +kernel
theorem dX12_mayBeNext_0 : decode cX12_mayBeNext 0 = .ok (.iconst 0, 1) := by decide +kernel
theorem dX12_mayBeNext_1 : decode cX12_mayBeNext 1 = .ok (.istore_n 3, 1) := by decide +kernel
theorem dX12_mayBeNext_2 : decode cX12_mayBeNext 2 = .ok (.iload_n 3, 1) := by decide +kernel
theorem dX12_mayBeNext_3 : decode cX12_mayBeNext 3 = .ok (.aload_n 0, 1) := by decide +kernel
theorem dX12_mayBeNext_4 : decode cX12_mayBeNext 4 = .ok (.getfield 145, 3) := by decide +kernel
theorem dX12_mayBeNext_7 : decode cX12_mayBeNext 7 = .ok (.if_icmp .ge 48, 3) := by decide +kernel
theorem dX12_mayBeNext_10 : decode cX12_mayBeNext 10 = .ok (.iload_n 2, 1) := by decide +kernel
theorem dX12_mayBeNext_11 : decode cX12_mayBeNext 11 = .ok (.iload_n 3, 1) := by decide +kernel
theorem dX12_mayBeNext_12 : decode cX12_mayBeNext 12 = .ok (.invokestatic 327, 3) := by decide +kernel
theorem dX12_mayBeNext_15 : decode cX12_mayBeNext 15 = .ok (.ifCond .eq 34, 3) := by decide +kernel
theorem dX12_mayBeNext_18 : decode cX12_mayBeNext 18 = .ok (.aload_n 0, 1) := by decide +kernel
theorem dX12_mayBeNext_19 : decode cX12_mayBeNext 19 = .ok (.getfield 104, 3) := by decide +kernel
theorem dX12_mayBeNext_22 : decode cX12_mayBeNext 22 = .ok (.iload_n 1, 1) := by decide +kernel
theorem dX12_mayBeNext_23 : decode cX12_mayBeNext 23 = .ok (.iaload, 1) := by decide +kernel
theorem dX12_mayBeNext_24 : decode cX12_mayBeNext 24 = .ok (.aload_n 0, 1) := by decide +kernel
theorem dX12_mayBeNext_25 : decode cX12_mayBeNext 25 = .ok (.getfield 101, 3) := by decide +kernel
theorem dX12_mayBeNext_28 : decode cX12_mayBeNext 28 = .ok (.iload_n 3, 1) := by decide +kernel
theorem dX12_mayBeNext_29 : decode cX12_mayBeNext 29 = .ok (.iaload, 1) := by decide +kernel
theorem dX12_mayBeNext_30 : decode cX12_mayBeNext 30 = .ok (.imul, 1) := by decide +kernel
theorem dX12_mayBeNext_31 : decode cX12_mayBeNext 31 = .ok (.aload_n 0, 1) := by decide +kernel
theorem dX12_mayBeNext_32 : decode cX12_mayBeNext 32 = .ok (.getfield 104, 3) := by decide +kernel
theorem dX12_mayBeNext_35 : decode cX12_mayBeNext 35 = .ok (.iload_n 3, 1) := by decide +kernel
theorem dX12_mayBeNext_36 : decode cX12_mayBeNext 36 = .ok (.iaload, 1) := by decide +kernel
theorem dX12_mayBeNext_37 : decode cX12_mayBeNext 37 = .ok (.aload_n 0, 1) := by decide +kernel
theorem dX12_mayBeNext_38 : decode cX12_mayBeNext 38 = .ok (.getfield 101, 3) := by decide +kernel
theorem dX12_mayBeNext_41 : decode cX12_mayBeNext 41 = .ok (.iload_n 1, 1) := by decide +kernel
theorem dX12_mayBeNext_42 : decode cX12_mayBeNext 42 = .ok (.iaload, 1) := by decide +kernel
theorem dX12_mayBeNext_43 : decode cX12_mayBeNext 43 = .ok (.imul, 1) := by decide +kernel
theorem dX12_mayBeNext_44 : decode cX12_mayBeNext 44 = .ok (.if_icmp .ge 5, 3) := by decide +kernel
theorem dX12_mayBeNext_47 : decode cX12_mayBeNext 47 = .ok (.iconst 0, 1) := by decide +kernel
theorem dX12_mayBeNext_48 : decode cX12_mayBeNext 48 = .ok (.ireturn, 1) := by decide +kernel
theorem dX12_mayBeNext_49 : decode cX12_mayBeNext 49 = .ok (.iinc 3 1, 3) := by decide +kernel
theorem dX12_mayBeNext_52 : decode cX12_mayBeNext 52 = .ok (.goto (-50), 3) := by decide +kernel
theorem dX12_mayBeNext_55 : decode cX12_mayBeNext 55 = .ok (.iconst 1, 1) := by decide +kernel
theorem dX12_mayBeNext_56 : decode cX12_mayBeNext 56 = .ok (.ireturn, 1) := by decide +kernel
theorem dX12_mended_0 : decode cX12_mended 0 = .ok (.iload_n 1, 1) := by decide +kernel
theorem dX12_mended_1 : decode cX12_mended 1 = .ok (.iconst 0, 1) := by decide +kernel
theorem dX12_mended_2 : decode cX12_mended 2 = .ok (.iconst 2, 1) := by decide +kernel
theorem dX12_mended_3 : decode cX12_mended 3 = .ok (.invokestatic 141, 3) := by decide +kernel
theorem dX12_mended_6 : decode cX12_mended 6 = .ok (.ifCond .eq 10, 3) := by decide +kernel
theorem dX12_mended_9 : decode cX12_mended 9 = .ok (.aload_n 0, 1) := by decide +kernel
theorem dX12_mended_10 : decode cX12_mended 10 = .ok (.invokevirtual 232, 3) := by decide +kernel
theorem dX12_mended_13 : decode cX12_mended 13 = .ok (.ifCond .ne 5, 3) := by decide +kernel
theorem dX12_mended_16 : decode cX12_mended 16 = .ok (.iconst (-1), 1) := by decide +kernel
theorem dX12_mended_17 : decode cX12_mended 17 = .ok (.ireturn, 1) := by decide +kernel
theorem dX12_mended_18 : decode cX12_mended 18 = .ok (.iconst 0, 1) := by decide +kernel
theorem dX12_mended_19 : decode cX12_mended 19 = .ok (.istore_n 2, 1) := by decide +kernel
theorem dX12_mended_20 : decode cX12_mended 20 = .ok (.iconst (-1), 1) := by decide +kernel
theorem dX12_mended_21 : decode cX12_mended 21 = .ok (.istore_n 3, 1) := by decide +kernel
theorem dX12_mended_22 : decode cX12_mended 22 = .ok (.iconst 0, 1) := by decide +kernel
theorem dX12_mended_23 : decode cX12_mended 23 = .ok (.istore 4, 2) := by decide +kernel
theorem dX12_mended_25 : decode cX12_mended 25 = .ok (.iload 4, 2) := by decide +kernel
theorem dX12_mended_27 : decode cX12_mended 27 = .ok (.aload_n 0, 1) := by decide +kernel
theorem dX12_mended_28 : decode cX12_mended 28 = .ok (.getfield 145, 3) := by decide +kernel
theorem dX12_mended_31 : decode cX12_mended 31 = .ok (.aload_n 0, 1) := by decide +kernel
theorem dX12_mended_32 : decode cX12_mended 32 = .ok (.getfield 134, 3) := by decide +kernel
theorem dX12_mended_35 : decode cX12_mended 35 = .ok (.imul, 1) := by decide +kernel
theorem dX12_mended_36 : decode cX12_mended 36 = .ok (.if_icmp .ge 103, 3) := by decide +kernel
theorem dX12_mended_39 : decode cX12_mended 39 = .ok (.iload 4, 2) := by decide +kernel
theorem dX12_mended_41 : decode cX12_mended 41 = .ok (.aload_n 0, 1) := by decide +kernel
theorem dX12_mended_42 : decode cX12_mended 42 = .ok (.getfield 134, 3) := by decide +kernel
theorem dX12_mended_45 : decode cX12_mended 45 = .ok (.idiv, 1) := by decide +kernel
theorem dX12_mended_46 : decode cX12_mended 46 = .ok (.istore 5, 2) := by decide +kernel
theorem dX12_mended_48 : decode cX12_mended 48 = .ok (.aload_n 0, 1) := by decide +kernel
theorem dX12_mended_49 : decode cX12_mended 49 = .ok (.getfield 13, 3) := by decide +kernel
theorem dX12_mended_52 : decode cX12_mended 52 = .ok (.iload 5, 2) := by decide +kernel
theorem dX12_mended_54 : decode cX12_mended 54 = .ok (.iaload, 1) := by decide +kernel
theorem dX12_mended_55 : decode cX12_mended 55 = .ok (.istore 6, 2) := by decide +kernel
theorem dX12_mended_57 : decode cX12_mended 57 = .ok (.iload 4, 2) := by decide +kernel
theorem dX12_mended_59 : decode cX12_mended 59 = .ok (.aload_n 0, 1) := by decide +kernel
theorem dX12_mended_60 : decode cX12_mended 60 = .ok (.getfield 134, 3) := by decide +kernel
theorem dX12_mended_63 : decode cX12_mended 63 = .ok (.irem, 1) := by decide +kernel
theorem dX12_mended_64 : decode cX12_mended 64 = .ok (.iload 6, 2) := by decide +kernel
theorem dX12_mended_66 : decode cX12_mended 66 = .ok (.if_icmp .ne 6, 3) := by decide +kernel
theorem dX12_mended_69 : decode cX12_mended 69 = .ok (.goto 64, 3) := by decide +kernel
theorem dX12_mended_72 : decode cX12_mended 72 = .ok (.aload_n 0, 1) := by decide +kernel
theorem dX12_mended_73 : decode cX12_mended 73 = .ok (.getfield 13, 3) := by decide +kernel
theorem dX12_mended_76 : decode cX12_mended 76 = .ok (.iload 5, 2) := by decide +kernel
theorem dX12_mended_78 : decode cX12_mended 78 = .ok (.iload 4, 2) := by decide +kernel
theorem dX12_mended_80 : decode cX12_mended 80 = .ok (.aload_n 0, 1) := by decide +kernel
theorem dX12_mended_81 : decode cX12_mended 81 = .ok (.getfield 134, 3) := by decide +kernel
theorem dX12_mended_84 : decode cX12_mended 84 = .ok (.irem, 1) := by decide +kernel
theorem dX12_mended_85 : decode cX12_mended 85 = .ok (.iastore, 1) := by decide +kernel
theorem dX12_mended_86 : decode cX12_mended 86 = .ok (.aload_n 0, 1) := by decide +kernel
theorem dX12_mended_87 : decode cX12_mended 87 = .ok (.invokevirtual 232, 3) := by decide +kernel
theorem dX12_mended_90 : decode cX12_mended 90 = .ok (.ifCond .ne 7, 3) := by decide +kernel
theorem dX12_mended_93 : decode cX12_mended 93 = .ok (.iconst 1, 1) := by decide +kernel
theorem dX12_mended_94 : decode cX12_mended 94 = .ok (.goto 4, 3) := by decide +kernel
theorem dX12_mended_97 : decode cX12_mended 97 = .ok (.iconst 0, 1) := by decide +kernel
theorem dX12_mended_98 : decode cX12_mended 98 = .ok (.istore 7, 2) := by decide +kernel
theorem dX12_mended_100 : decode cX12_mended 100 = .ok (.aload_n 0, 1) := by decide +kernel
theorem dX12_mended_101 : decode cX12_mended 101 = .ok (.getfield 13, 3) := by decide +kernel
theorem dX12_mended_104 : decode cX12_mended 104 = .ok (.iload 5, 2) := by decide +kernel
theorem dX12_mended_106 : decode cX12_mended 106 = .ok (.iload 6, 2) := by decide +kernel
theorem dX12_mended_108 : decode cX12_mended 108 = .ok (.iastore, 1) := by decide +kernel
theorem dX12_mended_109 : decode cX12_mended 109 = .ok (.iload 7, 2) := by decide +kernel
theorem dX12_mended_111 : decode cX12_mended 111 = .ok (.ifCond .ne 6, 3) := by decide +kernel
theorem dX12_mended_114 : decode cX12_mended 114 = .ok (.goto 19, 3) := by decide +kernel
theorem dX12_mended_117 : decode cX12_mended 117 = .ok (.iload_n 3, 1) := by decide +kernel
theorem dX12_mended_118 : decode cX12_mended 118 = .ok (.iconst (-1), 1) := by decide +kernel
theorem dX12_mended_119 : decode cX12_mended 119 = .ok (.if_icmp .ne 8, 3) := by decide +kernel
theorem dX12_mended_122 : decode cX12_mended 122 = .ok (.iload 4, 2) := by decide +kernel
theorem dX12_mended_124 : decode cX12_mended 124 = .ok (.goto 4, 3) := by decide +kernel
theorem dX12_mended_127 : decode cX12_mended 127 = .ok (.iload_n 3, 1) := by decide +kernel
theorem dX12_mended_128 : decode cX12_mended 128 = .ok (.istore_n 3, 1) := by decide +kernel
theorem dX12_mended_129 : decode cX12_mended 129 = .ok (.iload_n 2, 1) := by decide +kernel
theorem dX12_mended_130 : decode cX12_mended 130 = .ok (.iconst 1, 1) := by decide +kernel
theorem dX12_mended_131 : decode cX12_mended 131 = .ok (.iadd, 1) := by decide +kernel
theorem dX12_mended_132 : decode cX12_mended 132 = .ok (.istore_n 2, 1) := by decide +kernel
theorem dX12_mended_133 : decode cX12_mended 133 = .ok (.iinc 4 1, 3) := by decide +kernel
theorem dX12_mended_136 : decode cX12_mended 136 = .ok (.goto (-111), 3) := by decide +kernel
theorem dX12_mended_139 : decode cX12_mended 139 = .ok (.iload_n 1, 1) := by decide +kernel
theorem dX12_mended_140 : decode cX12_mended 140 = .ok (.ifCond .ne 7, 3) := by decide +kernel
theorem dX12_mended_143 : decode cX12_mended 143 = .ok (.iload_n 2, 1) := by decide +kernel
theorem dX12_mended_144 : decode cX12_mended 144 = .ok (.goto 33, 3) := by decide +kernel
theorem dX12_mended_147 : decode cX12_mended 147 = .ok (.iload_n 3, 1) := by decide +kernel
theorem dX12_mended_148 : decode cX12_mended 148 = .ok (.iconst (-1), 1) := by decide +kernel
theorem dX12_mended_149 : decode cX12_mended 149 = .ok (.if_icmp .ne 8, 3) := by decide +kernel
theorem dX12_mended_152 : decode cX12_mended 152 = .ok (.bipush (-2), 2) := by decide +kernel
theorem dX12_mended_154 : decode cX12_mended 154 = .ok (.goto 23, 3) := by decide +kernel
theorem dX12_mended_157 : decode cX12_mended 157 = .ok (.iload_n 1, 1) := by decide +kernel
theorem dX12_mended_158 : decode cX12_mended 158 = .ok (.iconst 1, 1) := by decide +kernel
theorem dX12_mended_159 : decode cX12_mended 159 = .ok (.if_icmp .ne 12, 3) := by decide +kernel
theorem dX12_mended_162 : decode cX12_mended 162 = .ok (.iload_n 3, 1) := by decide +kernel
theorem dX12_mended_163 : decode cX12_mended 163 = .ok (.aload_n 0, 1) := by decide +kernel
theorem dX12_mended_164 : decode cX12_mended 164 = .ok (.getfield 134, 3) := by decide +kernel
theorem dX12_mended_167 : decode cX12_mended 167 = .ok (.idiv, 1) := by decide +kernel
theorem dX12_mended_168 : decode cX12_mended 168 = .ok (.goto 9, 3) := by decide +kernel
theorem dX12_mended_171 : decode cX12_mended 171 = .ok (.iload_n 3, 1) := by decide +kernel
theorem dX12_mended_172 : decode cX12_mended 172 = .ok (.aload_n 0, 1) := by decide +kernel
theorem dX12_mended_173 : decode cX12_mended 173 = .ok (.getfield 134, 3) := by decide +kernel
theorem dX12_mended_176 : decode cX12_mended 176 = .ok (.irem, 1) := by decide +kernel
theorem dX12_mended_177 : decode cX12_mended 177 = .ok (.ireturn, 1) := by decide +kernel
theorem dX12_minutesOf_0 : decode cX12_minutesOf 0 = .ok (.aload_n 0, 1) := by decide +kernel
theorem dX12_minutesOf_1 : decode cX12_minutesOf 1 = .ok (.iload_n 1, 1) := by decide +kernel
theorem dX12_minutesOf_2 : decode cX12_minutesOf 2 = .ok (.aload_n 0, 1) := by decide +kernel
theorem dX12_minutesOf_3 : decode cX12_minutesOf 3 = .ok (.getfield 13, 3) := by decide +kernel
theorem dX12_minutesOf_6 : decode cX12_minutesOf 6 = .ok (.iload_n 1, 1) := by decide +kernel
theorem dX12_minutesOf_7 : decode cX12_minutesOf 7 = .ok (.iaload, 1) := by decide +kernel
theorem dX12_minutesOf_8 : decode cX12_minutesOf 8 = .ok (.iload_n 2, 1) := by decide +kernel
theorem dX12_minutesOf_9 : decode cX12_minutesOf 9 = .ok (.invokevirtual 311, 3) := by decide +kernel
theorem dX12_minutesOf_12 : decode cX12_minutesOf 12 = .ok (.aload_n 0, 1) := by decide +kernel
theorem dX12_minutesOf_13 : decode cX12_minutesOf 13 = .ok (.bipush 116, 2) := by decide +kernel
theorem dX12_minutesOf_15 : decode cX12_minutesOf 15 = .ok (.bipush 99, 2) := by decide +kernel
theorem dX12_minutesOf_17 : decode cX12_minutesOf 17 = .ok (.invokevirtual 318, 3) := by decide +kernel
theorem dX12_minutesOf_20 : decode cX12_minutesOf 20 = .ok (.ireturn, 1) := by decide +kernel
theorem dX12_modulus_0 : decode cX12_modulus 0 = .ok (.iload_n 1, 1) := by decide +kernel
theorem dX12_modulus_1 : decode cX12_modulus 1 = .ok (.iconst 2, 1) := by decide +kernel
theorem dX12_modulus_2 : decode cX12_modulus 2 = .ok (.bipush 97, 2) := by decide +kernel
theorem dX12_modulus_4 : decode cX12_modulus 4 = .ok (.invokestatic 141, 3) := by decide +kernel
theorem dX12_modulus_7 : decode cX12_modulus 7 = .ok (.ifCond .ne 5, 3) := by decide +kernel
theorem dX12_modulus_10 : decode cX12_modulus 10 = .ok (.iconst 0, 1) := by decide +kernel
theorem dX12_modulus_11 : decode cX12_modulus 11 = .ok (.ireturn, 1) := by decide +kernel
theorem dX12_modulus_12 : decode cX12_modulus 12 = .ok (.aload_n 0, 1) := by decide +kernel
theorem dX12_modulus_13 : decode cX12_modulus 13 = .ok (.iload_n 1, 1) := by decide +kernel
theorem dX12_modulus_14 : decode cX12_modulus 14 = .ok (.putfield 134, 3) := by decide +kernel
theorem dX12_modulus_17 : decode cX12_modulus 17 = .ok (.aload_n 0, 1) := by decide +kernel
theorem dX12_modulus_18 : decode cX12_modulus 18 = .ok (.iconst 0, 1) := by decide +kernel
theorem dX12_modulus_19 : decode cX12_modulus 19 = .ok (.putfield 145, 3) := by decide +kernel
theorem dX12_modulus_22 : decode cX12_modulus 22 = .ok (.iconst 0, 1) := by decide +kernel
theorem dX12_modulus_23 : decode cX12_modulus 23 = .ok (.istore_n 2, 1) := by decide +kernel
theorem dX12_modulus_24 : decode cX12_modulus 24 = .ok (.iload_n 2, 1) := by decide +kernel
theorem dX12_modulus_25 : decode cX12_modulus 25 = .ok (.bipush 10, 2) := by decide +kernel
theorem dX12_modulus_27 : decode cX12_modulus 27 = .ok (.if_icmp .ge 23, 3) := by decide +kernel
theorem dX12_modulus_30 : decode cX12_modulus 30 = .ok (.aload_n 0, 1) := by decide +kernel
theorem dX12_modulus_31 : decode cX12_modulus 31 = .ok (.getfield 7, 3) := by decide +kernel
theorem dX12_modulus_34 : decode cX12_modulus 34 = .ok (.iload_n 2, 1) := by decide +kernel
theorem dX12_modulus_35 : decode cX12_modulus 35 = .ok (.aload_n 0, 1) := by decide +kernel
theorem dX12_modulus_36 : decode cX12_modulus 36 = .ok (.getfield 7, 3) := by decide +kernel
theorem dX12_modulus_39 : decode cX12_modulus 39 = .ok (.iload_n 2, 1) := by decide +kernel
theorem dX12_modulus_40 : decode cX12_modulus 40 = .ok (.iaload, 1) := by decide +kernel
theorem dX12_modulus_41 : decode cX12_modulus 41 = .ok (.iload_n 1, 1) := by decide +kernel
theorem dX12_modulus_42 : decode cX12_modulus 42 = .ok (.irem, 1) := by decide +kernel
theorem dX12_modulus_43 : decode cX12_modulus 43 = .ok (.iastore, 1) := by decide +kernel
theorem dX12_modulus_44 : decode cX12_modulus 44 = .ok (.iinc 2 1, 3) := by decide +kernel
theorem dX12_modulus_47 : decode cX12_modulus 47 = .ok (.goto (-23), 3) := by decide +kernel
theorem dX12_modulus_50 : decode cX12_modulus 50 = .ok (.iconst 1, 1) := by decide +kernel
theorem dX12_modulus_51 : decode cX12_modulus 51 = .ok (.ireturn, 1) := by decide +kernel
theorem dX12_needsOf_0 : decode cX12_needsOf 0 = .ok (.iconst 0, 1) := by decide +kernel
theorem dX12_needsOf_1 : decode cX12_needsOf 1 = .ok (.istore_n 2, 1) := by decide +kernel
theorem dX12_needsOf_2 : decode cX12_needsOf 2 = .ok (.iconst 0, 1) := by decide +kernel
theorem dX12_needsOf_3 : decode cX12_needsOf 3 = .ok (.istore_n 3, 1) := by decide +kernel
theorem dX12_needsOf_4 : decode cX12_needsOf 4 = .ok (.iload_n 3, 1) := by decide +kernel
theorem dX12_needsOf_5 : decode cX12_needsOf 5 = .ok (.iload_n 1, 1) := by decide +kernel
theorem dX12_needsOf_6 : decode cX12_needsOf 6 = .ok (.if_icmp .ge 28, 3) := by decide +kernel
theorem dX12_needsOf_9 : decode cX12_needsOf 9 = .ok (.aload_n 0, 1) := by decide +kernel
theorem dX12_needsOf_10 : decode cX12_needsOf 10 = .ok (.iload_n 3, 1) := by decide +kernel
theorem dX12_needsOf_11 : decode cX12_needsOf 11 = .ok (.iconst 0, 1) := by decide +kernel
theorem dX12_needsOf_12 : decode cX12_needsOf 12 = .ok (.invokevirtual 364, 3) := by decide +kernel
theorem dX12_needsOf_15 : decode cX12_needsOf 15 = .ok (.iload_n 1, 1) := by decide +kernel
theorem dX12_needsOf_16 : decode cX12_needsOf 16 = .ok (.invokestatic 327, 3) := by decide +kernel
theorem dX12_needsOf_19 : decode cX12_needsOf 19 = .ok (.ifCond .eq 9, 3) := by decide +kernel
theorem dX12_needsOf_22 : decode cX12_needsOf 22 = .ok (.iload_n 2, 1) := by decide +kernel
theorem dX12_needsOf_23 : decode cX12_needsOf 23 = .ok (.iconst 1, 1) := by decide +kernel
theorem dX12_needsOf_24 : decode cX12_needsOf 24 = .ok (.iload_n 3, 1) := by decide +kernel
theorem dX12_needsOf_25 : decode cX12_needsOf 25 = .ok (.ishl, 1) := by decide +kernel
theorem dX12_needsOf_26 : decode cX12_needsOf 26 = .ok (.ior, 1) := by decide +kernel
theorem dX12_needsOf_27 : decode cX12_needsOf 27 = .ok (.istore_n 2, 1) := by decide +kernel
theorem dX12_needsOf_28 : decode cX12_needsOf 28 = .ok (.iinc 3 1, 3) := by decide +kernel
theorem dX12_needsOf_31 : decode cX12_needsOf 31 = .ok (.goto (-27), 3) := by decide +kernel
theorem dX12_needsOf_34 : decode cX12_needsOf 34 = .ok (.iload_n 2, 1) := by decide +kernel
theorem dX12_needsOf_35 : decode cX12_needsOf 35 = .ok (.ireturn, 1) := by decide +kernel
theorem dX12_notes_0 : decode cX12_notes 0 = .ok (.aload_n 0, 1) := by decide +kernel
theorem dX12_notes_1 : decode cX12_notes 1 = .ok (.getfield 56, 3) := by decide +kernel
theorem dX12_notes_4 : decode cX12_notes 4 = .ok (.aload_n 0, 1) := by decide +kernel
theorem dX12_notes_5 : decode cX12_notes 5 = .ok (.getfield 238, 3) := by decide +kernel
theorem dX12_notes_8 : decode cX12_notes 8 = .ok (.ldc 241, 2) := by decide +kernel
theorem dX12_notes_10 : decode cX12_notes 10 = .ok (.iload_n 1, 1) := by decide +kernel
theorem dX12_notes_11 : decode cX12_notes 11 = .ok (.imul, 1) := by decide +kernel
theorem dX12_notes_12 : decode cX12_notes 12 = .ok (.iload_n 2, 1) := by decide +kernel
theorem dX12_notes_13 : decode cX12_notes 13 = .ok (.iadd, 1) := by decide +kernel
theorem dX12_notes_14 : decode cX12_notes 14 = .ok (.iastore, 1) := by decide +kernel
theorem dX12_notes_15 : decode cX12_notes 15 = .ok (.aload_n 0, 1) := by decide +kernel
theorem dX12_notes_16 : decode cX12_notes 16 = .ok (.aload_n 0, 1) := by decide +kernel
theorem dX12_notes_17 : decode cX12_notes 17 = .ok (.getfield 238, 3) := by decide +kernel
theorem dX12_notes_20 : decode cX12_notes 20 = .ok (.iconst 1, 1) := by decide +kernel
theorem dX12_notes_21 : decode cX12_notes 21 = .ok (.iadd, 1) := by decide +kernel
theorem dX12_notes_22 : decode cX12_notes 22 = .ok (.putfield 238, 3) := by decide +kernel
theorem dX12_notes_25 : decode cX12_notes 25 = .ok (.return_, 1) := by decide +kernel
theorem dX12_opens_0 : decode cX12_opens 0 = .ok (.aload_n 0, 1) := by decide +kernel
theorem dX12_opens_1 : decode cX12_opens 1 = .ok (.getfield 242, 3) := by decide +kernel
theorem dX12_opens_4 : decode cX12_opens 4 = .ok (.bipush 6, 2) := by decide +kernel
theorem dX12_opens_6 : decode cX12_opens 6 = .ok (.if_icmp .ne 13, 3) := by decide +kernel
theorem dX12_opens_9 : decode cX12_opens 9 = .ok (.aload_n 0, 1) := by decide +kernel
theorem dX12_opens_10 : decode cX12_opens 10 = .ok (.iconst 5, 1) := by decide +kernel
theorem dX12_opens_11 : decode cX12_opens 11 = .ok (.aload_n 0, 1) := by decide +kernel
theorem dX12_opens_12 : decode cX12_opens 12 = .ok (.getfield 155, 3) := by decide +kernel
theorem dX12_opens_15 : decode cX12_opens 15 = .ok (.invokevirtual 169, 3) := by decide +kernel
theorem dX12_opens_18 : decode cX12_opens 18 = .ok (.ireturn, 1) := by decide +kernel
theorem dX12_opens_19 : decode cX12_opens 19 = .ok (.aload_n 0, 1) := by decide +kernel
theorem dX12_opens_20 : decode cX12_opens 20 = .ok (.aload_n 0, 1) := by decide +kernel
theorem dX12_opens_21 : decode cX12_opens 21 = .ok (.getfield 242, 3) := by decide +kernel
theorem dX12_opens_24 : decode cX12_opens 24 = .ok (.iconst 1, 1) := by decide +kernel
theorem dX12_opens_25 : decode cX12_opens 25 = .ok (.iadd, 1) := by decide +kernel
theorem dX12_opens_26 : decode cX12_opens 26 = .ok (.putfield 242, 3) := by decide +kernel
theorem dX12_opens_29 : decode cX12_opens 29 = .ok (.aload_n 0, 1) := by decide +kernel
theorem dX12_opens_30 : decode cX12_opens 30 = .ok (.getfield 59, 3) := by decide +kernel
theorem dX12_opens_33 : decode cX12_opens 33 = .ok (.aload_n 0, 1) := by decide +kernel
theorem dX12_opens_34 : decode cX12_opens 34 = .ok (.getfield 245, 3) := by decide +kernel
theorem dX12_opens_37 : decode cX12_opens 37 = .ok (.ldc 241, 2) := by decide +kernel
theorem dX12_opens_39 : decode cX12_opens 39 = .ok (.iload_n 1, 1) := by decide +kernel
theorem dX12_opens_40 : decode cX12_opens 40 = .ok (.imul, 1) := by decide +kernel
theorem dX12_opens_41 : decode cX12_opens 41 = .ok (.iastore, 1) := by decide +kernel
theorem dX12_opens_42 : decode cX12_opens 42 = .ok (.aload_n 0, 1) := by decide +kernel
theorem dX12_opens_43 : decode cX12_opens 43 = .ok (.aload_n 0, 1) := by decide +kernel
theorem dX12_opens_44 : decode cX12_opens 44 = .ok (.getfield 245, 3) := by decide +kernel
theorem dX12_opens_47 : decode cX12_opens 47 = .ok (.iconst 1, 1) := by decide +kernel
theorem dX12_opens_48 : decode cX12_opens 48 = .ok (.iadd, 1) := by decide +kernel
theorem dX12_opens_49 : decode cX12_opens 49 = .ok (.putfield 245, 3) := by decide +kernel
theorem dX12_opens_52 : decode cX12_opens 52 = .ok (.aload_n 0, 1) := by decide +kernel
theorem dX12_opens_53 : decode cX12_opens 53 = .ok (.aload_n 0, 1) := by decide +kernel
theorem dX12_opens_54 : decode cX12_opens 54 = .ok (.getfield 155, 3) := by decide +kernel
theorem dX12_opens_57 : decode cX12_opens 57 = .ok (.iconst 1, 1) := by decide +kernel
theorem dX12_opens_58 : decode cX12_opens 58 = .ok (.iadd, 1) := by decide +kernel
theorem dX12_opens_59 : decode cX12_opens 59 = .ok (.putfield 155, 3) := by decide +kernel
theorem dX12_opens_62 : decode cX12_opens 62 = .ok (.iconst 1, 1) := by decide +kernel
theorem dX12_opens_63 : decode cX12_opens 63 = .ok (.ireturn, 1) := by decide +kernel
theorem dX12_order_0 : decode cX12_order 0 = .ok (.iload_n 1, 1) := by decide +kernel
theorem dX12_order_1 : decode cX12_order 1 = .ok (.invokestatic 321, 3) := by decide +kernel
theorem dX12_order_4 : decode cX12_order 4 = .ok (.ifCond .eq 30, 3) := by decide +kernel
theorem dX12_order_7 : decode cX12_order 7 = .ok (.aload_n 0, 1) := by decide +kernel
theorem dX12_order_8 : decode cX12_order 8 = .ok (.getfield 145, 3) := by decide +kernel
theorem dX12_order_11 : decode cX12_order 11 = .ok (.ifCond .eq 23, 3) := by decide +kernel
theorem dX12_order_14 : decode cX12_order 14 = .ok (.iload_n 2, 1) := by decide +kernel
theorem dX12_order_15 : decode cX12_order 15 = .ok (.bipush 30, 2) := by decide +kernel
theorem dX12_order_17 : decode cX12_order 17 = .ok (.if_icmp .eq 21, 3) := by decide +kernel
theorem dX12_order_20 : decode cX12_order 20 = .ok (.iload_n 2, 1) := by decide +kernel
theorem dX12_order_21 : decode cX12_order 21 = .ok (.bipush 31, 2) := by decide +kernel
theorem dX12_order_23 : decode cX12_order 23 = .ok (.if_icmp .eq 15, 3) := by decide +kernel
theorem dX12_order_26 : decode cX12_order 26 = .ok (.aload_n 0, 1) := by decide +kernel
theorem dX12_order_27 : decode cX12_order 27 = .ok (.iload_n 2, 1) := by decide +kernel
theorem dX12_order_28 : decode cX12_order 28 = .ok (.invokevirtual 209, 3) := by decide +kernel
theorem dX12_order_31 : decode cX12_order 31 = .ok (.ifCond .ne 7, 3) := by decide +kernel
theorem dX12_order_34 : decode cX12_order 34 = .ok (.ldc2_w 382, 3) := by decide +kernel
theorem dX12_order_37 : decode cX12_order 37 = .ok (.lreturn, 1) := by decide +kernel
theorem dX12_order_38 : decode cX12_order 38 = .ok (.aload_n 0, 1) := by decide +kernel
theorem dX12_order_39 : decode cX12_order 39 = .ok (.iload_n 1, 1) := by decide +kernel
theorem dX12_order_40 : decode cX12_order 40 = .ok (.invokevirtual 384, 3) := by decide +kernel
theorem dX12_order_43 : decode cX12_order 43 = .ok (.iload_n 2, 1) := by decide +kernel
theorem dX12_order_44 : decode cX12_order 44 = .ok (.bipush 30, 2) := by decide +kernel
theorem dX12_order_46 : decode cX12_order 46 = .ok (.if_icmp .ge 11, 3) := by decide +kernel
theorem dX12_order_49 : decode cX12_order 49 = .ok (.aload_n 0, 1) := by decide +kernel
theorem dX12_order_50 : decode cX12_order 50 = .ok (.getfield 107, 3) := by decide +kernel
theorem dX12_order_53 : decode cX12_order 53 = .ok (.iload_n 2, 1) := by decide +kernel
theorem dX12_order_54 : decode cX12_order 54 = .ok (.iaload, 1) := by decide +kernel
theorem dX12_order_55 : decode cX12_order 55 = .ok (.i2l, 1) := by decide +kernel
theorem dX12_order_56 : decode cX12_order 56 = .ok (.lreturn, 1) := by decide +kernel
theorem dX12_order_57 : decode cX12_order 57 = .ok (.lconst 0, 1) := by decide +kernel
theorem dX12_order_58 : decode cX12_order 58 = .ok (.lstore_n 3, 1) := by decide +kernel
theorem dX12_order_59 : decode cX12_order 59 = .ok (.lconst 0, 1) := by decide +kernel
theorem dX12_order_60 : decode cX12_order 60 = .ok (.lstore 5, 2) := by decide +kernel
theorem dX12_order_62 : decode cX12_order 62 = .ok (.iconst 0, 1) := by decide +kernel
theorem dX12_order_63 : decode cX12_order 63 = .ok (.istore 7, 2) := by decide +kernel
theorem dX12_order_65 : decode cX12_order 65 = .ok (.iconst 0, 1) := by decide +kernel
theorem dX12_order_66 : decode cX12_order 66 = .ok (.istore 8, 2) := by decide +kernel
theorem dX12_order_68 : decode cX12_order 68 = .ok (.iload 8, 2) := by decide +kernel
theorem dX12_order_70 : decode cX12_order 70 = .ok (.aload_n 0, 1) := by decide +kernel
theorem dX12_order_71 : decode cX12_order 71 = .ok (.getfield 145, 3) := by decide +kernel
theorem dX12_order_74 : decode cX12_order 74 = .ok (.if_icmp .ge 64, 3) := by decide +kernel
theorem dX12_order_77 : decode cX12_order 77 = .ok (.iload 7, 2) := by decide +kernel
theorem dX12_order_79 : decode cX12_order 79 = .ok (.aload_n 0, 1) := by decide +kernel
theorem dX12_order_80 : decode cX12_order 80 = .ok (.getfield 101, 3) := by decide +kernel
theorem dX12_order_83 : decode cX12_order 83 = .ok (.aload_n 0, 1) := by decide +kernel
theorem dX12_order_84 : decode cX12_order 84 = .ok (.getfield 107, 3) := by decide +kernel
theorem dX12_order_87 : decode cX12_order 87 = .ok (.iload 8, 2) := by decide +kernel
theorem dX12_order_89 : decode cX12_order 89 = .ok (.iaload, 1) := by decide +kernel
theorem dX12_order_90 : decode cX12_order 90 = .ok (.iaload, 1) := by decide +kernel
theorem dX12_order_91 : decode cX12_order 91 = .ok (.iadd, 1) := by decide +kernel
theorem dX12_order_92 : decode cX12_order 92 = .ok (.istore 7, 2) := by decide +kernel
theorem dX12_order_94 : decode cX12_order 94 = .ok (.lload_n 3, 1) := by decide +kernel
theorem dX12_order_95 : decode cX12_order 95 = .ok (.aload_n 0, 1) := by decide +kernel
theorem dX12_order_96 : decode cX12_order 96 = .ok (.getfield 104, 3) := by decide +kernel
theorem dX12_order_99 : decode cX12_order 99 = .ok (.aload_n 0, 1) := by decide +kernel
theorem dX12_order_100 : decode cX12_order 100 = .ok (.getfield 107, 3) := by decide +kernel
theorem dX12_order_103 : decode cX12_order 103 = .ok (.iload 8, 2) := by decide +kernel
theorem dX12_order_105 : decode cX12_order 105 = .ok (.iaload, 1) := by decide +kernel
theorem dX12_order_106 : decode cX12_order 106 = .ok (.iaload, 1) := by decide +kernel
theorem dX12_order_107 : decode cX12_order 107 = .ok (.i2l, 1) := by decide +kernel
theorem dX12_order_108 : decode cX12_order 108 = .ok (.iload 7, 2) := by decide +kernel
theorem dX12_order_110 : decode cX12_order 110 = .ok (.i2l, 1) := by decide +kernel
theorem dX12_order_111 : decode cX12_order 111 = .ok (.lmul, 1) := by decide +kernel
theorem dX12_order_112 : decode cX12_order 112 = .ok (.ladd, 1) := by decide +kernel
theorem dX12_order_113 : decode cX12_order 113 = .ok (.lstore_n 3, 1) := by decide +kernel
theorem dX12_order_114 : decode cX12_order 114 = .ok (.lload 5, 2) := by decide +kernel
theorem dX12_order_116 : decode cX12_order 116 = .ok (.aload_n 0, 1) := by decide +kernel
theorem dX12_order_117 : decode cX12_order 117 = .ok (.getfield 104, 3) := by decide +kernel
theorem dX12_order_120 : decode cX12_order 120 = .ok (.aload_n 0, 1) := by decide +kernel
theorem dX12_order_121 : decode cX12_order 121 = .ok (.getfield 107, 3) := by decide +kernel
theorem dX12_order_124 : decode cX12_order 124 = .ok (.iload 8, 2) := by decide +kernel
theorem dX12_order_126 : decode cX12_order 126 = .ok (.iaload, 1) := by decide +kernel
theorem dX12_order_127 : decode cX12_order 127 = .ok (.iaload, 1) := by decide +kernel
theorem dX12_order_128 : decode cX12_order 128 = .ok (.i2l, 1) := by decide +kernel
theorem dX12_order_129 : decode cX12_order 129 = .ok (.ladd, 1) := by decide +kernel
theorem dX12_order_130 : decode cX12_order 130 = .ok (.lstore 5, 2) := by decide +kernel
theorem dX12_order_132 : decode cX12_order 132 = .ok (.iinc 8 1, 3) := by decide +kernel
theorem dX12_order_135 : decode cX12_order 135 = .ok (.goto (-67), 3) := by decide +kernel
theorem dX12_order_138 : decode cX12_order 138 = .ok (.lload 5, 2) := by decide +kernel
theorem dX12_order_140 : decode cX12_order 140 = .ok (.lconst 0, 1) := by decide +kernel
theorem dX12_order_141 : decode cX12_order 141 = .ok (.lcmp, 1) := by decide +kernel
theorem dX12_order_142 : decode cX12_order 142 = .ok (.ifCond .ne 15, 3) := by decide +kernel
theorem dX12_order_145 : decode cX12_order 145 = .ok (.iload_n 2, 1) := by decide +kernel
theorem dX12_order_146 : decode cX12_order 146 = .ok (.bipush 30, 2) := by decide +kernel
theorem dX12_order_148 : decode cX12_order 148 = .ok (.if_icmp .ne 7, 3) := by decide +kernel
theorem dX12_order_151 : decode cX12_order 151 = .ok (.lconst 0, 1) := by decide +kernel
theorem dX12_order_152 : decode cX12_order 152 = .ok (.goto 4, 3) := by decide +kernel
theorem dX12_order_155 : decode cX12_order 155 = .ok (.lconst 1, 1) := by decide +kernel
theorem dX12_order_156 : decode cX12_order 156 = .ok (.lreturn, 1) := by decide +kernel
theorem dX12_order_157 : decode cX12_order 157 = .ok (.lload_n 3, 1) := by decide +kernel
theorem dX12_order_158 : decode cX12_order 158 = .ok (.lload 5, 2) := by decide +kernel
theorem dX12_order_160 : decode cX12_order 160 = .ok (.invokestatic 387, 3) := by decide +kernel
theorem dX12_order_163 : decode cX12_order 163 = .ok (.lstore 8, 2) := by decide +kernel
theorem dX12_order_165 : decode cX12_order 165 = .ok (.iload_n 2, 1) := by decide +kernel
theorem dX12_order_166 : decode cX12_order 166 = .ok (.bipush 30, 2) := by decide +kernel
theorem dX12_order_168 : decode cX12_order 168 = .ok (.if_icmp .ne 10, 3) := by decide +kernel
theorem dX12_order_171 : decode cX12_order 171 = .ok (.lload_n 3, 1) := by decide +kernel
theorem dX12_order_172 : decode cX12_order 172 = .ok (.lload 8, 2) := by decide +kernel
theorem dX12_order_174 : decode cX12_order 174 = .ok (.ldiv, 1) := by decide +kernel
theorem dX12_order_175 : decode cX12_order 175 = .ok (.goto 8, 3) := by decide +kernel
theorem dX12_order_178 : decode cX12_order 178 = .ok (.lload 5, 2) := by decide +kernel
theorem dX12_order_180 : decode cX12_order 180 = .ok (.lload 8, 2) := by decide +kernel
theorem dX12_order_182 : decode cX12_order 182 = .ok (.ldiv, 1) := by decide +kernel
theorem dX12_order_183 : decode cX12_order 183 = .ok (.lreturn, 1) := by decide +kernel
theorem dX12_points_0 : decode cX12_points 0 = .ok (.iload_n 1, 1) := by decide +kernel
theorem dX12_points_1 : decode cX12_points 1 = .ok (.invokestatic 399, 3) := by decide +kernel
theorem dX12_points_4 : decode cX12_points 4 = .ok (.ifCond .eq 12, 3) := by decide +kernel
theorem dX12_points_7 : decode cX12_points 7 = .ok (.aload_n 0, 1) := by decide +kernel
theorem dX12_points_8 : decode cX12_points 8 = .ok (.getfield 25, 3) := by decide +kernel
theorem dX12_points_11 : decode cX12_points 11 = .ok (.iload_n 1, 1) := by decide +kernel
theorem dX12_points_12 : decode cX12_points 12 = .ok (.iaload, 1) := by decide +kernel
theorem dX12_points_13 : decode cX12_points 13 = .ok (.goto 6, 3) := by decide +kernel
theorem dX12_points_16 : decode cX12_points 16 = .ok (.sipush (-1000), 3) := by decide +kernel
theorem dX12_points_19 : decode cX12_points 19 = .ok (.ireturn, 1) := by decide +kernel
theorem dX12_proof_0 : decode cX12_proof 0 = .ok (.iload_n 1, 1) := by decide +kernel
theorem dX12_proof_1 : decode cX12_proof 1 = .ok (.iconst 1, 1) := by decide +kernel
theorem dX12_proof_2 : decode cX12_proof 2 = .ok (.sipush 200, 3) := by decide +kernel
theorem dX12_proof_5 : decode cX12_proof 5 = .ok (.invokestatic 141, 3) := by decide +kernel
theorem dX12_proof_8 : decode cX12_proof 8 = .ok (.ifCond .eq 11, 3) := by decide +kernel
theorem dX12_proof_11 : decode cX12_proof 11 = .ok (.iload_n 1, 1) := by decide +kernel
theorem dX12_proof_12 : decode cX12_proof 12 = .ok (.aload_n 0, 1) := by decide +kernel
theorem dX12_proof_13 : decode cX12_proof 13 = .ok (.getfield 148, 3) := by decide +kernel
theorem dX12_proof_16 : decode cX12_proof 16 = .ok (.if_icmp .le 5, 3) := by decide +kernel
theorem dX12_proof_19 : decode cX12_proof 19 = .ok (.iconst (-1), 1) := by decide +kernel
theorem dX12_proof_20 : decode cX12_proof 20 = .ok (.ireturn, 1) := by decide +kernel
theorem dX12_proof_21 : decode cX12_proof 21 = .ok (.aload_n 0, 1) := by decide +kernel
theorem dX12_proof_22 : decode cX12_proof 22 = .ok (.iconst 0, 1) := by decide +kernel
theorem dX12_proof_23 : decode cX12_proof 23 = .ok (.putfield 155, 3) := by decide +kernel
theorem dX12_proof_26 : decode cX12_proof 26 = .ok (.aload_n 0, 1) := by decide +kernel
theorem dX12_proof_27 : decode cX12_proof 27 = .ok (.iload_n 1, 1) := by decide +kernel
theorem dX12_proof_28 : decode cX12_proof 28 = .ok (.putfield 189, 3) := by decide +kernel
theorem dX12_proof_31 : decode cX12_proof 31 = .ok (.aload_n 0, 1) := by decide +kernel
theorem dX12_proof_32 : decode cX12_proof 32 = .ok (.iconst 0, 1) := by decide +kernel
theorem dX12_proof_33 : decode cX12_proof 33 = .ok (.putfield 173, 3) := by decide +kernel
theorem dX12_proof_36 : decode cX12_proof 36 = .ok (.aload_n 0, 1) := by decide +kernel
theorem dX12_proof_37 : decode cX12_proof 37 = .ok (.invokevirtual 192, 3) := by decide +kernel
theorem dX12_proof_40 : decode cX12_proof 40 = .ok (.istore_n 2, 1) := by decide +kernel
theorem dX12_proof_41 : decode cX12_proof 41 = .ok (.iload_n 2, 1) := by decide +kernel
theorem dX12_proof_42 : decode cX12_proof 42 = .ok (.ifCond .eq 39, 3) := by decide +kernel
theorem dX12_proof_45 : decode cX12_proof 45 = .ok (.aload_n 0, 1) := by decide +kernel
theorem dX12_proof_46 : decode cX12_proof 46 = .ok (.getfield 155, 3) := by decide +kernel
theorem dX12_proof_49 : decode cX12_proof 49 = .ok (.aload_n 0, 1) := by decide +kernel
theorem dX12_proof_50 : decode cX12_proof 50 = .ok (.getfield 189, 3) := by decide +kernel
theorem dX12_proof_53 : decode cX12_proof 53 = .ok (.if_icmp .ge 28, 3) := by decide +kernel
theorem dX12_proof_56 : decode cX12_proof 56 = .ok (.aload_n 0, 1) := by decide +kernel
theorem dX12_proof_57 : decode cX12_proof 57 = .ok (.bipush 59, 2) := by decide +kernel
theorem dX12_proof_59 : decode cX12_proof 59 = .ok (.invokevirtual 179, 3) := by decide +kernel
theorem dX12_proof_62 : decode cX12_proof 62 = .ok (.ifCond .eq 14, 3) := by decide +kernel
theorem dX12_proof_65 : decode cX12_proof 65 = .ok (.aload_n 0, 1) := by decide +kernel
theorem dX12_proof_66 : decode cX12_proof 66 = .ok (.invokevirtual 192, 3) := by decide +kernel
theorem dX12_proof_69 : decode cX12_proof 69 = .ok (.ifCond .eq 7, 3) := by decide +kernel
theorem dX12_proof_72 : decode cX12_proof 72 = .ok (.iconst 1, 1) := by decide +kernel
theorem dX12_proof_73 : decode cX12_proof 73 = .ok (.goto 4, 3) := by decide +kernel
theorem dX12_proof_76 : decode cX12_proof 76 = .ok (.iconst 0, 1) := by decide +kernel
theorem dX12_proof_77 : decode cX12_proof 77 = .ok (.istore_n 2, 1) := by decide +kernel
theorem dX12_proof_78 : decode cX12_proof 78 = .ok (.goto (-37), 3) := by decide +kernel
theorem dX12_proof_81 : decode cX12_proof 81 = .ok (.aload_n 0, 1) := by decide +kernel
theorem dX12_proof_82 : decode cX12_proof 82 = .ok (.iconst 0, 1) := by decide +kernel
theorem dX12_proof_83 : decode cX12_proof 83 = .ok (.putfield 148, 3) := by decide +kernel
theorem dX12_proof_86 : decode cX12_proof 86 = .ok (.iload_n 2, 1) := by decide +kernel
theorem dX12_proof_87 : decode cX12_proof 87 = .ok (.ifCond .ne 8, 3) := by decide +kernel
theorem dX12_proof_90 : decode cX12_proof 90 = .ok (.aload_n 0, 1) := by decide +kernel
theorem dX12_proof_91 : decode cX12_proof 91 = .ok (.getfield 195, 3) := by decide +kernel
theorem dX12_proof_94 : decode cX12_proof 94 = .ok (.ireturn, 1) := by decide +kernel
theorem dX12_proof_95 : decode cX12_proof 95 = .ok (.aload_n 0, 1) := by decide +kernel
theorem dX12_proof_96 : decode cX12_proof 96 = .ok (.aload_n 0, 1) := by decide +kernel
theorem dX12_proof_97 : decode cX12_proof 97 = .ok (.getfield 173, 3) := by decide +kernel
theorem dX12_proof_100 : decode cX12_proof 100 = .ok (.putfield 145, 3) := by decide +kernel
theorem dX12_proof_103 : decode cX12_proof 103 = .ok (.iconst 0, 1) := by decide +kernel
theorem dX12_proof_104 : decode cX12_proof 104 = .ok (.istore_n 3, 1) := by decide +kernel
theorem dX12_proof_105 : decode cX12_proof 105 = .ok (.iload_n 3, 1) := by decide +kernel
theorem dX12_proof_106 : decode cX12_proof 106 = .ok (.aload_n 0, 1) := by decide +kernel
theorem dX12_proof_107 : decode cX12_proof 107 = .ok (.getfield 145, 3) := by decide +kernel
theorem dX12_proof_110 : decode cX12_proof 110 = .ok (.if_icmp .ge 57, 3) := by decide +kernel
theorem dX12_proof_113 : decode cX12_proof 113 = .ok (.aload_n 0, 1) := by decide +kernel
theorem dX12_proof_114 : decode cX12_proof 114 = .ok (.getfield 13, 3) := by decide +kernel
theorem dX12_proof_117 : decode cX12_proof 117 = .ok (.iload_n 3, 1) := by decide +kernel
theorem dX12_proof_118 : decode cX12_proof 118 = .ok (.aload_n 0, 1) := by decide +kernel
theorem dX12_proof_119 : decode cX12_proof 119 = .ok (.getfield 32, 3) := by decide +kernel
theorem dX12_proof_122 : decode cX12_proof 122 = .ok (.iload_n 3, 1) := by decide +kernel
theorem dX12_proof_123 : decode cX12_proof 123 = .ok (.iaload, 1) := by decide +kernel
theorem dX12_proof_124 : decode cX12_proof 124 = .ok (.iastore, 1) := by decide +kernel
theorem dX12_proof_125 : decode cX12_proof 125 = .ok (.aload_n 0, 1) := by decide +kernel
theorem dX12_proof_126 : decode cX12_proof 126 = .ok (.getfield 16, 3) := by decide +kernel
theorem dX12_proof_129 : decode cX12_proof 129 = .ok (.iload_n 3, 1) := by decide +kernel
theorem dX12_proof_130 : decode cX12_proof 130 = .ok (.aload_n 0, 1) := by decide +kernel
theorem dX12_proof_131 : decode cX12_proof 131 = .ok (.getfield 35, 3) := by decide +kernel
theorem dX12_proof_134 : decode cX12_proof 134 = .ok (.iload_n 3, 1) := by decide +kernel
theorem dX12_proof_135 : decode cX12_proof 135 = .ok (.iaload, 1) := by decide +kernel
theorem dX12_proof_136 : decode cX12_proof 136 = .ok (.iastore, 1) := by decide +kernel
theorem dX12_proof_137 : decode cX12_proof 137 = .ok (.aload_n 0, 1) := by decide +kernel
theorem dX12_proof_138 : decode cX12_proof 138 = .ok (.getfield 19, 3) := by decide +kernel
theorem dX12_proof_141 : decode cX12_proof 141 = .ok (.iload_n 3, 1) := by decide +kernel
theorem dX12_proof_142 : decode cX12_proof 142 = .ok (.aload_n 0, 1) := by decide +kernel
theorem dX12_proof_143 : decode cX12_proof 143 = .ok (.getfield 38, 3) := by decide +kernel
theorem dX12_proof_146 : decode cX12_proof 146 = .ok (.iload_n 3, 1) := by decide +kernel
theorem dX12_proof_147 : decode cX12_proof 147 = .ok (.iaload, 1) := by decide +kernel
theorem dX12_proof_148 : decode cX12_proof 148 = .ok (.iastore, 1) := by decide +kernel
theorem dX12_proof_149 : decode cX12_proof 149 = .ok (.aload_n 0, 1) := by decide +kernel
theorem dX12_proof_150 : decode cX12_proof 150 = .ok (.getfield 22, 3) := by decide +kernel
theorem dX12_proof_153 : decode cX12_proof 153 = .ok (.iload_n 3, 1) := by decide +kernel
theorem dX12_proof_154 : decode cX12_proof 154 = .ok (.aload_n 0, 1) := by decide +kernel
theorem dX12_proof_155 : decode cX12_proof 155 = .ok (.getfield 41, 3) := by decide +kernel
theorem dX12_proof_158 : decode cX12_proof 158 = .ok (.iload_n 3, 1) := by decide +kernel
theorem dX12_proof_159 : decode cX12_proof 159 = .ok (.iaload, 1) := by decide +kernel
theorem dX12_proof_160 : decode cX12_proof 160 = .ok (.iastore, 1) := by decide +kernel
theorem dX12_proof_161 : decode cX12_proof 161 = .ok (.iinc 3 1, 3) := by decide +kernel
theorem dX12_proof_164 : decode cX12_proof 164 = .ok (.goto (-59), 3) := by decide +kernel
theorem dX12_proof_167 : decode cX12_proof 167 = .ok (.aload_n 0, 1) := by decide +kernel
theorem dX12_proof_168 : decode cX12_proof 168 = .ok (.getfield 145, 3) := by decide +kernel
theorem dX12_proof_171 : decode cX12_proof 171 = .ok (.ireturn, 1) := by decide +kernel
theorem dX12_readBy_0 : decode cX12_readBy 0 = .ok (.iconst 0, 1) := by decide +kernel
theorem dX12_readBy_1 : decode cX12_readBy 1 = .ok (.istore_n 2, 1) := by decide +kernel
theorem dX12_readBy_2 : decode cX12_readBy 2 = .ok (.iconst 0, 1) := by decide +kernel
theorem dX12_readBy_3 : decode cX12_readBy 3 = .ok (.istore_n 3, 1) := by decide +kernel
theorem dX12_readBy_4 : decode cX12_readBy 4 = .ok (.iload_n 3, 1) := by decide +kernel
theorem dX12_readBy_5 : decode cX12_readBy 5 = .ok (.aload_n 0, 1) := by decide +kernel
theorem dX12_readBy_6 : decode cX12_readBy 6 = .ok (.getfield 145, 3) := by decide +kernel
theorem dX12_readBy_9 : decode cX12_readBy 9 = .ok (.if_icmp .ge 30, 3) := by decide +kernel
theorem dX12_readBy_12 : decode cX12_readBy 12 = .ok (.aload_n 0, 1) := by decide +kernel
theorem dX12_readBy_13 : decode cX12_readBy 13 = .ok (.iload_n 3, 1) := by decide +kernel
theorem dX12_readBy_14 : decode cX12_readBy 14 = .ok (.aload_n 0, 1) := by decide +kernel
theorem dX12_readBy_15 : decode cX12_readBy 15 = .ok (.getfield 13, 3) := by decide +kernel
theorem dX12_readBy_18 : decode cX12_readBy 18 = .ok (.iload_n 3, 1) := by decide +kernel
theorem dX12_readBy_19 : decode cX12_readBy 19 = .ok (.iaload, 1) := by decide +kernel
theorem dX12_readBy_20 : decode cX12_readBy 20 = .ok (.iload_n 1, 1) := by decide +kernel
theorem dX12_readBy_21 : decode cX12_readBy 21 = .ok (.invokevirtual 315, 3) := by decide +kernel
theorem dX12_readBy_24 : decode cX12_readBy 24 = .ok (.ifCond .eq 9, 3) := by decide +kernel
theorem dX12_readBy_27 : decode cX12_readBy 27 = .ok (.iload_n 2, 1) := by decide +kernel
theorem dX12_readBy_28 : decode cX12_readBy 28 = .ok (.iconst 1, 1) := by decide +kernel
theorem dX12_readBy_29 : decode cX12_readBy 29 = .ok (.iload_n 3, 1) := by decide +kernel
theorem dX12_readBy_30 : decode cX12_readBy 30 = .ok (.ishl, 1) := by decide +kernel
theorem dX12_readBy_31 : decode cX12_readBy 31 = .ok (.ior, 1) := by decide +kernel
theorem dX12_readBy_32 : decode cX12_readBy 32 = .ok (.istore_n 2, 1) := by decide +kernel
theorem dX12_readBy_33 : decode cX12_readBy 33 = .ok (.iinc 3 1, 3) := by decide +kernel
theorem dX12_readBy_36 : decode cX12_readBy 36 = .ok (.goto (-32), 3) := by decide +kernel
theorem dX12_readBy_39 : decode cX12_readBy 39 = .ok (.iload_n 2, 1) := by decide +kernel
theorem dX12_readBy_40 : decode cX12_readBy 40 = .ok (.ireturn, 1) := by decide +kernel
theorem dX12_readers_0 : decode cX12_readers 0 = .ok (.iload_n 1, 1) := by decide +kernel
theorem dX12_readers_1 : decode cX12_readers 1 = .ok (.iconst 0, 1) := by decide +kernel
theorem dX12_readers_2 : decode cX12_readers 2 = .ok (.sipush 1023, 3) := by decide +kernel
theorem dX12_readers_5 : decode cX12_readers 5 = .ok (.invokestatic 141, 3) := by decide +kernel
theorem dX12_readers_8 : decode cX12_readers 8 = .ok (.ifCond .eq 12, 3) := by decide +kernel
theorem dX12_readers_11 : decode cX12_readers 11 = .ok (.iload_n 2, 1) := by decide +kernel
theorem dX12_readers_12 : decode cX12_readers 12 = .ok (.iconst 0, 1) := by decide +kernel
theorem dX12_readers_13 : decode cX12_readers 13 = .ok (.iconst 1, 1) := by decide +kernel
theorem dX12_readers_14 : decode cX12_readers 14 = .ok (.invokestatic 141, 3) := by decide +kernel
theorem dX12_readers_17 : decode cX12_readers 17 = .ok (.ifCond .ne 5, 3) := by decide +kernel
theorem dX12_readers_20 : decode cX12_readers 20 = .ok (.iconst (-1), 1) := by decide +kernel
theorem dX12_readers_21 : decode cX12_readers 21 = .ok (.ireturn, 1) := by decide +kernel
theorem dX12_readers_22 : decode cX12_readers 22 = .ok (.iconst 0, 1) := by decide +kernel
theorem dX12_readers_23 : decode cX12_readers 23 = .ok (.istore_n 3, 1) := by decide +kernel
theorem dX12_readers_24 : decode cX12_readers 24 = .ok (.iload_n 3, 1) := by decide +kernel
theorem dX12_readers_25 : decode cX12_readers 25 = .ok (.bipush 10, 2) := by decide +kernel
theorem dX12_readers_27 : decode cX12_readers 27 = .ok (.if_icmp .ge 20, 3) := by decide +kernel
theorem dX12_readers_30 : decode cX12_readers 30 = .ok (.aload_n 0, 1) := by decide +kernel
theorem dX12_readers_31 : decode cX12_readers 31 = .ok (.getfield 95, 3) := by decide +kernel
theorem dX12_readers_34 : decode cX12_readers 34 = .ok (.iload_n 3, 1) := by decide +kernel
theorem dX12_readers_35 : decode cX12_readers 35 = .ok (.aload_n 0, 1) := by decide +kernel
theorem dX12_readers_36 : decode cX12_readers 36 = .ok (.iload_n 3, 1) := by decide +kernel
theorem dX12_readers_37 : decode cX12_readers 37 = .ok (.invokevirtual 324, 3) := by decide +kernel
theorem dX12_readers_40 : decode cX12_readers 40 = .ok (.iastore, 1) := by decide +kernel
theorem dX12_readers_41 : decode cX12_readers 41 = .ok (.iinc 3 1, 3) := by decide +kernel
theorem dX12_readers_44 : decode cX12_readers 44 = .ok (.goto (-20), 3) := by decide +kernel
theorem dX12_readers_47 : decode cX12_readers 47 = .ok (.iconst (-1), 1) := by decide +kernel
theorem dX12_readers_48 : decode cX12_readers 48 = .ok (.istore_n 3, 1) := by decide +kernel
theorem dX12_readers_49 : decode cX12_readers 49 = .ok (.iconst 0, 1) := by decide +kernel
theorem dX12_readers_50 : decode cX12_readers 50 = .ok (.istore 4, 2) := by decide +kernel
theorem dX12_readers_52 : decode cX12_readers 52 = .ok (.iload 4, 2) := by decide +kernel
theorem dX12_readers_54 : decode cX12_readers 54 = .ok (.sipush 1024, 3) := by decide +kernel
theorem dX12_readers_57 : decode cX12_readers 57 = .ok (.if_icmp .ge 51, 3) := by decide +kernel
theorem dX12_readers_60 : decode cX12_readers 60 = .ok (.iload 4, 2) := by decide +kernel
theorem dX12_readers_62 : decode cX12_readers 62 = .ok (.iload_n 1, 1) := by decide +kernel
theorem dX12_readers_63 : decode cX12_readers 63 = .ok (.iconst (-1), 1) := by decide +kernel
theorem dX12_readers_64 : decode cX12_readers 64 = .ok (.ixor, 1) := by decide +kernel
theorem dX12_readers_65 : decode cX12_readers 65 = .ok (.iand, 1) := by decide +kernel
theorem dX12_readers_66 : decode cX12_readers 66 = .ok (.ifCond .ne 36, 3) := by decide +kernel
theorem dX12_readers_69 : decode cX12_readers 69 = .ok (.iload_n 3, 1) := by decide +kernel
theorem dX12_readers_70 : decode cX12_readers 70 = .ok (.iconst (-1), 1) := by decide +kernel
theorem dX12_readers_71 : decode cX12_readers 71 = .ok (.if_icmp .eq 15, 3) := by decide +kernel
theorem dX12_readers_74 : decode cX12_readers 74 = .ok (.iload 4, 2) := by decide +kernel
theorem dX12_readers_76 : decode cX12_readers 76 = .ok (.invokestatic 340, 3) := by decide +kernel
theorem dX12_readers_79 : decode cX12_readers 79 = .ok (.iload_n 3, 1) := by decide +kernel
theorem dX12_readers_80 : decode cX12_readers 80 = .ok (.invokestatic 340, 3) := by decide +kernel
theorem dX12_readers_83 : decode cX12_readers 83 = .ok (.if_icmp .ge 19, 3) := by decide +kernel
theorem dX12_readers_86 : decode cX12_readers 86 = .ok (.aload_n 0, 1) := by decide +kernel
theorem dX12_readers_87 : decode cX12_readers 87 = .ok (.iload 4, 2) := by decide +kernel
theorem dX12_readers_89 : decode cX12_readers 89 = .ok (.invokevirtual 343, 3) := by decide +kernel
theorem dX12_readers_92 : decode cX12_readers 92 = .ok (.aload_n 0, 1) := by decide +kernel
theorem dX12_readers_93 : decode cX12_readers 93 = .ok (.invokevirtual 337, 3) := by decide +kernel
theorem dX12_readers_96 : decode cX12_readers 96 = .ok (.if_icmp .ne 6, 3) := by decide +kernel
theorem dX12_readers_99 : decode cX12_readers 99 = .ok (.iload 4, 2) := by decide +kernel
theorem dX12_readers_101 : decode cX12_readers 101 = .ok (.istore_n 3, 1) := by decide +kernel
theorem dX12_readers_102 : decode cX12_readers 102 = .ok (.iinc 4 1, 3) := by decide +kernel
theorem dX12_readers_105 : decode cX12_readers 105 = .ok (.goto (-53), 3) := by decide +kernel
theorem dX12_readers_108 : decode cX12_readers 108 = .ok (.iload_n 3, 1) := by decide +kernel
theorem dX12_readers_109 : decode cX12_readers 109 = .ok (.iconst (-1), 1) := by decide +kernel
theorem dX12_readers_110 : decode cX12_readers 110 = .ok (.if_icmp .ne 8, 3) := by decide +kernel
theorem dX12_readers_113 : decode cX12_readers 113 = .ok (.bipush (-2), 2) := by decide +kernel
theorem dX12_readers_115 : decode cX12_readers 115 = .ok (.goto 15, 3) := by decide +kernel
theorem dX12_readers_118 : decode cX12_readers 118 = .ok (.iload_n 2, 1) := by decide +kernel
theorem dX12_readers_119 : decode cX12_readers 119 = .ok (.ifCond .ne 10, 3) := by decide +kernel
theorem dX12_readers_122 : decode cX12_readers 122 = .ok (.iload_n 3, 1) := by decide +kernel
theorem dX12_readers_123 : decode cX12_readers 123 = .ok (.invokestatic 340, 3) := by decide +kernel
theorem dX12_readers_126 : decode cX12_readers 126 = .ok (.goto 4, 3) := by decide +kernel
theorem dX12_readers_129 : decode cX12_readers 129 = .ok (.iload_n 3, 1) := by decide +kernel
theorem dX12_readers_130 : decode cX12_readers 130 = .ok (.ireturn, 1) := by decide +kernel
theorem dX12_reads_0 : decode cX12_reads 0 = .ok (.iload_n 1, 1) := by decide +kernel
theorem dX12_reads_1 : decode cX12_reads 1 = .ok (.invokestatic 321, 3) := by decide +kernel
theorem dX12_reads_4 : decode cX12_reads 4 = .ok (.ifCond .eq 12, 3) := by decide +kernel
theorem dX12_reads_7 : decode cX12_reads 7 = .ok (.iload_n 2, 1) := by decide +kernel
theorem dX12_reads_8 : decode cX12_reads 8 = .ok (.iconst 0, 1) := by decide +kernel
theorem dX12_reads_9 : decode cX12_reads 9 = .ok (.iconst 2, 1) := by decide +kernel
theorem dX12_reads_10 : decode cX12_reads 10 = .ok (.invokestatic 141, 3) := by decide +kernel
theorem dX12_reads_13 : decode cX12_reads 13 = .ok (.ifCond .ne 5, 3) := by decide +kernel
theorem dX12_reads_16 : decode cX12_reads 16 = .ok (.iconst (-1), 1) := by decide +kernel
theorem dX12_reads_17 : decode cX12_reads 17 = .ok (.ireturn, 1) := by decide +kernel
theorem dX12_reads_18 : decode cX12_reads 18 = .ok (.aload_n 0, 1) := by decide +kernel
theorem dX12_reads_19 : decode cX12_reads 19 = .ok (.iload_n 1, 1) := by decide +kernel
theorem dX12_reads_20 : decode cX12_reads 20 = .ok (.invokevirtual 324, 3) := by decide +kernel
theorem dX12_reads_23 : decode cX12_reads 23 = .ok (.istore_n 3, 1) := by decide +kernel
theorem dX12_reads_24 : decode cX12_reads 24 = .ok (.iload_n 2, 1) := by decide +kernel
theorem dX12_reads_25 : decode cX12_reads 25 = .ok (.iconst 2, 1) := by decide +kernel
theorem dX12_reads_26 : decode cX12_reads 26 = .ok (.if_icmp .ge 18, 3) := by decide +kernel
theorem dX12_reads_29 : decode cX12_reads 29 = .ok (.iload_n 2, 1) := by decide +kernel
theorem dX12_reads_30 : decode cX12_reads 30 = .ok (.ifCond .ne 7, 3) := by decide +kernel
theorem dX12_reads_33 : decode cX12_reads 33 = .ok (.iload_n 3, 1) := by decide +kernel
theorem dX12_reads_34 : decode cX12_reads 34 = .ok (.goto 9, 3) := by decide +kernel
theorem dX12_reads_37 : decode cX12_reads 37 = .ok (.iload_n 3, 1) := by decide +kernel
theorem dX12_reads_38 : decode cX12_reads 38 = .ok (.aload_n 0, 1) := by decide +kernel
theorem dX12_reads_39 : decode cX12_reads 39 = .ok (.invokevirtual 232, 3) := by decide +kernel
theorem dX12_reads_42 : decode cX12_reads 42 = .ok (.iand, 1) := by decide +kernel
theorem dX12_reads_43 : decode cX12_reads 43 = .ok (.ireturn, 1) := by decide +kernel
theorem dX12_reads_44 : decode cX12_reads 44 = .ok (.iconst 0, 1) := by decide +kernel
theorem dX12_reads_45 : decode cX12_reads 45 = .ok (.istore 4, 2) := by decide +kernel
theorem dX12_reads_47 : decode cX12_reads 47 = .ok (.iconst 0, 1) := by decide +kernel
theorem dX12_reads_48 : decode cX12_reads 48 = .ok (.istore 5, 2) := by decide +kernel
theorem dX12_reads_50 : decode cX12_reads 50 = .ok (.iload 5, 2) := by decide +kernel
theorem dX12_reads_52 : decode cX12_reads 52 = .ok (.aload_n 0, 1) := by decide +kernel
theorem dX12_reads_53 : decode cX12_reads 53 = .ok (.getfield 145, 3) := by decide +kernel
theorem dX12_reads_56 : decode cX12_reads 56 = .ok (.if_icmp .ge 34, 3) := by decide +kernel
theorem dX12_reads_59 : decode cX12_reads 59 = .ok (.iload 4, 2) := by decide +kernel
theorem dX12_reads_61 : decode cX12_reads 61 = .ok (.iload_n 3, 1) := by decide +kernel
theorem dX12_reads_62 : decode cX12_reads 62 = .ok (.iload 5, 2) := by decide +kernel
theorem dX12_reads_64 : decode cX12_reads 64 = .ok (.invokestatic 327, 3) := by decide +kernel
theorem dX12_reads_67 : decode cX12_reads 67 = .ok (.ifCond .eq 13, 3) := by decide +kernel
theorem dX12_reads_70 : decode cX12_reads 70 = .ok (.aload_n 0, 1) := by decide +kernel
theorem dX12_reads_71 : decode cX12_reads 71 = .ok (.iload 5, 2) := by decide +kernel
theorem dX12_reads_73 : decode cX12_reads 73 = .ok (.iload_n 1, 1) := by decide +kernel
theorem dX12_reads_74 : decode cX12_reads 74 = .ok (.invokevirtual 330, 3) := by decide +kernel
theorem dX12_reads_77 : decode cX12_reads 77 = .ok (.goto 4, 3) := by decide +kernel
theorem dX12_reads_80 : decode cX12_reads 80 = .ok (.iconst 0, 1) := by decide +kernel
theorem dX12_reads_81 : decode cX12_reads 81 = .ok (.iadd, 1) := by decide +kernel
theorem dX12_reads_82 : decode cX12_reads 82 = .ok (.istore 4, 2) := by decide +kernel
theorem dX12_reads_84 : decode cX12_reads 84 = .ok (.iinc 5 1, 3) := by decide +kernel
theorem dX12_reads_87 : decode cX12_reads 87 = .ok (.goto (-37), 3) := by decide +kernel
theorem dX12_reads_90 : decode cX12_reads 90 = .ok (.iload 4, 2) := by decide +kernel
theorem dX12_reads_92 : decode cX12_reads 92 = .ok (.ireturn, 1) := by decide +kernel
theorem dX12_readsBelow_0 : decode cX12_readsBelow 0 = .ok (.aload_n 0, 1) := by decide +kernel
theorem dX12_readsBelow_1 : decode cX12_readsBelow 1 = .ok (.getfield 155, 3) := by decide +kernel
theorem dX12_readsBelow_4 : decode cX12_readsBelow 4 = .ok (.istore_n 3, 1) := by decide +kernel
theorem dX12_readsBelow_5 : decode cX12_readsBelow 5 = .ok (.aload_n 0, 1) := by decide +kernel
theorem dX12_readsBelow_6 : decode cX12_readsBelow 6 = .ok (.iconst 0, 1) := by decide +kernel
theorem dX12_readsBelow_7 : decode cX12_readsBelow 7 = .ok (.putfield 158, 3) := by decide +kernel
theorem dX12_readsBelow_10 : decode cX12_readsBelow 10 = .ok (.aload_n 0, 1) := by decide +kernel
theorem dX12_readsBelow_11 : decode cX12_readsBelow 11 = .ok (.invokevirtual 161, 3) := by decide +kernel
theorem dX12_readsBelow_14 : decode cX12_readsBelow 14 = .ok (.ifCond .eq 45, 3) := by decide +kernel
theorem dX12_readsBelow_17 : decode cX12_readsBelow 17 = .ok (.aload_n 0, 1) := by decide +kernel
theorem dX12_readsBelow_18 : decode cX12_readsBelow 18 = .ok (.getfield 155, 3) := by decide +kernel
theorem dX12_readsBelow_21 : decode cX12_readsBelow 21 = .ok (.iload_n 3, 1) := by decide +kernel
theorem dX12_readsBelow_22 : decode cX12_readsBelow 22 = .ok (.iconst 2, 1) := by decide +kernel
theorem dX12_readsBelow_23 : decode cX12_readsBelow 23 = .ok (.iadd, 1) := by decide +kernel
theorem dX12_readsBelow_24 : decode cX12_readsBelow 24 = .ok (.if_icmp .ge 35, 3) := by decide +kernel
theorem dX12_readsBelow_27 : decode cX12_readsBelow 27 = .ok (.aload_n 0, 1) := by decide +kernel
theorem dX12_readsBelow_28 : decode cX12_readsBelow 28 = .ok (.bipush 10, 2) := by decide +kernel
theorem dX12_readsBelow_30 : decode cX12_readsBelow 30 = .ok (.aload_n 0, 1) := by decide +kernel
theorem dX12_readsBelow_31 : decode cX12_readsBelow 31 = .ok (.getfield 158, 3) := by decide +kernel
theorem dX12_readsBelow_34 : decode cX12_readsBelow 34 = .ok (.imul, 1) := by decide +kernel
theorem dX12_readsBelow_35 : decode cX12_readsBelow 35 = .ok (.aload_n 0, 1) := by decide +kernel
theorem dX12_readsBelow_36 : decode cX12_readsBelow 36 = .ok (.invokevirtual 165, 3) := by decide +kernel
theorem dX12_readsBelow_39 : decode cX12_readsBelow 39 = .ok (.iadd, 1) := by decide +kernel
theorem dX12_readsBelow_40 : decode cX12_readsBelow 40 = .ok (.bipush 48, 2) := by decide +kernel
theorem dX12_readsBelow_42 : decode cX12_readsBelow 42 = .ok (.isub, 1) := by decide +kernel
theorem dX12_readsBelow_43 : decode cX12_readsBelow 43 = .ok (.putfield 158, 3) := by decide +kernel
theorem dX12_readsBelow_46 : decode cX12_readsBelow 46 = .ok (.aload_n 0, 1) := by decide +kernel
theorem dX12_readsBelow_47 : decode cX12_readsBelow 47 = .ok (.aload_n 0, 1) := by decide +kernel
theorem dX12_readsBelow_48 : decode cX12_readsBelow 48 = .ok (.getfield 155, 3) := by decide +kernel
theorem dX12_readsBelow_51 : decode cX12_readsBelow 51 = .ok (.iconst 1, 1) := by decide +kernel
theorem dX12_readsBelow_52 : decode cX12_readsBelow 52 = .ok (.iadd, 1) := by decide +kernel
theorem dX12_readsBelow_53 : decode cX12_readsBelow 53 = .ok (.putfield 155, 3) := by decide +kernel
theorem dX12_readsBelow_56 : decode cX12_readsBelow 56 = .ok (.goto (-46), 3) := by decide +kernel
theorem dX12_readsBelow_59 : decode cX12_readsBelow 59 = .ok (.aload_n 0, 1) := by decide +kernel
theorem dX12_readsBelow_60 : decode cX12_readsBelow 60 = .ok (.getfield 155, 3) := by decide +kernel
theorem dX12_readsBelow_63 : decode cX12_readsBelow 63 = .ok (.iload_n 3, 1) := by decide +kernel
theorem dX12_readsBelow_64 : decode cX12_readsBelow 64 = .ok (.if_icmp .ne 13, 3) := by decide +kernel
theorem dX12_readsBelow_67 : decode cX12_readsBelow 67 = .ok (.aload_n 0, 1) := by decide +kernel
theorem dX12_readsBelow_68 : decode cX12_readsBelow 68 = .ok (.iconst 1, 1) := by decide +kernel
theorem dX12_readsBelow_69 : decode cX12_readsBelow 69 = .ok (.aload_n 0, 1) := by decide +kernel
theorem dX12_readsBelow_70 : decode cX12_readsBelow 70 = .ok (.getfield 155, 3) := by decide +kernel
theorem dX12_readsBelow_73 : decode cX12_readsBelow 73 = .ok (.invokevirtual 169, 3) := by decide +kernel
theorem dX12_readsBelow_76 : decode cX12_readsBelow 76 = .ok (.ireturn, 1) := by decide +kernel
theorem dX12_readsBelow_77 : decode cX12_readsBelow 77 = .ok (.aload_n 0, 1) := by decide +kernel
theorem dX12_readsBelow_78 : decode cX12_readsBelow 78 = .ok (.getfield 158, 3) := by decide +kernel
theorem dX12_readsBelow_81 : decode cX12_readsBelow 81 = .ok (.iload_n 1, 1) := by decide +kernel
theorem dX12_readsBelow_82 : decode cX12_readsBelow 82 = .ok (.if_icmp .lt 12, 3) := by decide +kernel
theorem dX12_readsBelow_85 : decode cX12_readsBelow 85 = .ok (.aload_n 0, 1) := by decide +kernel
theorem dX12_readsBelow_86 : decode cX12_readsBelow 86 = .ok (.iload_n 2, 1) := by decide +kernel
theorem dX12_readsBelow_87 : decode cX12_readsBelow 87 = .ok (.iload_n 3, 1) := by decide +kernel
theorem dX12_readsBelow_88 : decode cX12_readsBelow 88 = .ok (.invokevirtual 169, 3) := by decide +kernel
theorem dX12_readsBelow_91 : decode cX12_readsBelow 91 = .ok (.ifCond .eq 7, 3) := by decide +kernel
theorem dX12_readsBelow_94 : decode cX12_readsBelow 94 = .ok (.iconst 1, 1) := by decide +kernel
theorem dX12_readsBelow_95 : decode cX12_readsBelow 95 = .ok (.goto 4, 3) := by decide +kernel
theorem dX12_readsBelow_98 : decode cX12_readsBelow 98 = .ok (.iconst 0, 1) := by decide +kernel
theorem dX12_readsBelow_99 : decode cX12_readsBelow 99 = .ok (.ireturn, 1) := by decide +kernel
theorem dX12_readsClause_0 : decode cX12_readsClause 0 = .ok (.aload_n 0, 1) := by decide +kernel
theorem dX12_readsClause_1 : decode cX12_readsClause 1 = .ok (.invokevirtual 165, 3) := by decide +kernel
theorem dX12_readsClause_4 : decode cX12_readsClause 4 = .ok (.istore_n 1, 1) := by decide +kernel
theorem dX12_readsClause_5 : decode cX12_readsClause 5 = .ok (.iload_n 1, 1) := by decide +kernel
theorem dX12_readsClause_6 : decode cX12_readsClause 6 = .ok (.bipush 114, 2) := by decide +kernel
theorem dX12_readsClause_8 : decode cX12_readsClause 8 = .ok (.if_icmp .eq 31, 3) := by decide +kernel
theorem dX12_readsClause_11 : decode cX12_readsClause 11 = .ok (.iload_n 1, 1) := by decide +kernel
theorem dX12_readsClause_12 : decode cX12_readsClause 12 = .ok (.bipush 116, 2) := by decide +kernel
theorem dX12_readsClause_14 : decode cX12_readsClause 14 = .ok (.if_icmp .eq 25, 3) := by decide +kernel
theorem dX12_readsClause_17 : decode cX12_readsClause 17 = .ok (.iload_n 1, 1) := by decide +kernel
theorem dX12_readsClause_18 : decode cX12_readsClause 18 = .ok (.bipush 119, 2) := by decide +kernel
theorem dX12_readsClause_20 : decode cX12_readsClause 20 = .ok (.if_icmp .eq 19, 3) := by decide +kernel
theorem dX12_readsClause_23 : decode cX12_readsClause 23 = .ok (.iload_n 1, 1) := by decide +kernel
theorem dX12_readsClause_24 : decode cX12_readsClause 24 = .ok (.bipush 99, 2) := by decide +kernel
theorem dX12_readsClause_26 : decode cX12_readsClause 26 = .ok (.if_icmp .eq 13, 3) := by decide +kernel
theorem dX12_readsClause_29 : decode cX12_readsClause 29 = .ok (.aload_n 0, 1) := by decide +kernel
theorem dX12_readsClause_30 : decode cX12_readsClause 30 = .ok (.iconst 1, 1) := by decide +kernel
theorem dX12_readsClause_31 : decode cX12_readsClause 31 = .ok (.aload_n 0, 1) := by decide +kernel
theorem dX12_readsClause_32 : decode cX12_readsClause 32 = .ok (.getfield 155, 3) := by decide +kernel
theorem dX12_readsClause_35 : decode cX12_readsClause 35 = .ok (.invokevirtual 169, 3) := by decide +kernel
theorem dX12_readsClause_38 : decode cX12_readsClause 38 = .ok (.ireturn, 1) := by decide +kernel
theorem dX12_readsClause_39 : decode cX12_readsClause 39 = .ok (.aload_n 0, 1) := by decide +kernel
theorem dX12_readsClause_40 : decode cX12_readsClause 40 = .ok (.getfield 292, 3) := by decide +kernel
theorem dX12_readsClause_43 : decode cX12_readsClause 43 = .ok (.bipush 14, 2) := by decide +kernel
theorem dX12_readsClause_45 : decode cX12_readsClause 45 = .ok (.if_icmp .ne 13, 3) := by decide +kernel
theorem dX12_readsClause_48 : decode cX12_readsClause 48 = .ok (.aload_n 0, 1) := by decide +kernel
theorem dX12_readsClause_49 : decode cX12_readsClause 49 = .ok (.iconst 4, 1) := by decide +kernel
theorem dX12_readsClause_50 : decode cX12_readsClause 50 = .ok (.aload_n 0, 1) := by decide +kernel
theorem dX12_readsClause_51 : decode cX12_readsClause 51 = .ok (.getfield 155, 3) := by decide +kernel
theorem dX12_readsClause_54 : decode cX12_readsClause 54 = .ok (.invokevirtual 169, 3) := by decide +kernel
theorem dX12_readsClause_57 : decode cX12_readsClause 57 = .ok (.ireturn, 1) := by decide +kernel
theorem dX12_readsClause_58 : decode cX12_readsClause 58 = .ok (.aload_n 0, 1) := by decide +kernel
theorem dX12_readsClause_59 : decode cX12_readsClause 59 = .ok (.getfield 62, 3) := by decide +kernel
theorem dX12_readsClause_62 : decode cX12_readsClause 62 = .ok (.aload_n 0, 1) := by decide +kernel
theorem dX12_readsClause_63 : decode cX12_readsClause 63 = .ok (.getfield 292, 3) := by decide +kernel
theorem dX12_readsClause_66 : decode cX12_readsClause 66 = .ok (.iload_n 1, 1) := by decide +kernel
theorem dX12_readsClause_67 : decode cX12_readsClause 67 = .ok (.iastore, 1) := by decide +kernel
theorem dX12_readsClause_68 : decode cX12_readsClause 68 = .ok (.aload_n 0, 1) := by decide +kernel
theorem dX12_readsClause_69 : decode cX12_readsClause 69 = .ok (.aload_n 0, 1) := by decide +kernel
theorem dX12_readsClause_70 : decode cX12_readsClause 70 = .ok (.getfield 155, 3) := by decide +kernel
theorem dX12_readsClause_73 : decode cX12_readsClause 73 = .ok (.iconst 1, 1) := by decide +kernel
theorem dX12_readsClause_74 : decode cX12_readsClause 74 = .ok (.iadd, 1) := by decide +kernel
theorem dX12_readsClause_75 : decode cX12_readsClause 75 = .ok (.putfield 155, 3) := by decide +kernel
theorem dX12_readsClause_78 : decode cX12_readsClause 78 = .ok (.aload_n 0, 1) := by decide +kernel
theorem dX12_readsClause_79 : decode cX12_readsClause 79 = .ok (.getfield 65, 3) := by decide +kernel
theorem dX12_readsClause_82 : decode cX12_readsClause 82 = .ok (.aload_n 0, 1) := by decide +kernel
theorem dX12_readsClause_83 : decode cX12_readsClause 83 = .ok (.getfield 292, 3) := by decide +kernel
theorem dX12_readsClause_86 : decode cX12_readsClause 86 = .ok (.aload_n 0, 1) := by decide +kernel
theorem dX12_readsClause_87 : decode cX12_readsClause 87 = .ok (.getfield 238, 3) := by decide +kernel
theorem dX12_readsClause_90 : decode cX12_readsClause 90 = .ok (.iastore, 1) := by decide +kernel
theorem dX12_readsClause_91 : decode cX12_readsClause 91 = .ok (.aload_n 0, 1) := by decide +kernel
theorem dX12_readsClause_92 : decode cX12_readsClause 92 = .ok (.iconst 0, 1) := by decide +kernel
theorem dX12_readsClause_93 : decode cX12_readsClause 93 = .ok (.putfield 242, 3) := by decide +kernel
theorem dX12_readsClause_96 : decode cX12_readsClause 96 = .ok (.aload_n 0, 1) := by decide +kernel
theorem dX12_readsClause_97 : decode cX12_readsClause 97 = .ok (.iconst 0, 1) := by decide +kernel
theorem dX12_readsClause_98 : decode cX12_readsClause 98 = .ok (.putfield 245, 3) := by decide +kernel
theorem dX12_readsClause_101 : decode cX12_readsClause 101 = .ok (.iload_n 1, 1) := by decide +kernel
theorem dX12_readsClause_102 : decode cX12_readsClause 102 = .ok (.bipush 114, 2) := by decide +kernel
theorem dX12_readsClause_104 : decode cX12_readsClause 104 = .ok (.if_icmp .eq 12, 3) := by decide +kernel
theorem dX12_readsClause_107 : decode cX12_readsClause 107 = .ok (.aload_n 0, 1) := by decide +kernel
theorem dX12_readsClause_108 : decode cX12_readsClause 108 = .ok (.invokevirtual 277, 3) := by decide +kernel
theorem dX12_readsClause_111 : decode cX12_readsClause 111 = .ok (.ifCond .ne 5, 3) := by decide +kernel
theorem dX12_readsClause_114 : decode cX12_readsClause 114 = .ok (.iconst 0, 1) := by decide +kernel
theorem dX12_readsClause_115 : decode cX12_readsClause 115 = .ok (.ireturn, 1) := by decide +kernel
theorem dX12_readsClause_116 : decode cX12_readsClause 116 = .ok (.aload_n 0, 1) := by decide +kernel
theorem dX12_readsClause_117 : decode cX12_readsClause 117 = .ok (.getfield 68, 3) := by decide +kernel
theorem dX12_readsClause_120 : decode cX12_readsClause 120 = .ok (.aload_n 0, 1) := by decide +kernel
theorem dX12_readsClause_121 : decode cX12_readsClause 121 = .ok (.getfield 292, 3) := by decide +kernel
theorem dX12_readsClause_124 : decode cX12_readsClause 124 = .ok (.aload_n 0, 1) := by decide +kernel
theorem dX12_readsClause_125 : decode cX12_readsClause 125 = .ok (.getfield 238, 3) := by decide +kernel
theorem dX12_readsClause_128 : decode cX12_readsClause 128 = .ok (.iastore, 1) := by decide +kernel
theorem dX12_readsClause_129 : decode cX12_readsClause 129 = .ok (.aload_n 0, 1) := by decide +kernel
theorem dX12_readsClause_130 : decode cX12_readsClause 130 = .ok (.invokevirtual 295, 3) := by decide +kernel
theorem dX12_readsClause_133 : decode cX12_readsClause 133 = .ok (.ifCond .ne 5, 3) := by decide +kernel
theorem dX12_readsClause_136 : decode cX12_readsClause 136 = .ok (.iconst 0, 1) := by decide +kernel
theorem dX12_readsClause_137 : decode cX12_readsClause 137 = .ok (.ireturn, 1) := by decide +kernel
theorem dX12_readsClause_138 : decode cX12_readsClause 138 = .ok (.aload_n 0, 1) := by decide +kernel
theorem dX12_readsClause_139 : decode cX12_readsClause 139 = .ok (.getfield 71, 3) := by decide +kernel
theorem dX12_readsClause_142 : decode cX12_readsClause 142 = .ok (.aload_n 0, 1) := by decide +kernel
theorem dX12_readsClause_143 : decode cX12_readsClause 143 = .ok (.getfield 292, 3) := by decide +kernel
theorem dX12_readsClause_146 : decode cX12_readsClause 146 = .ok (.aload_n 0, 1) := by decide +kernel
theorem dX12_readsClause_147 : decode cX12_readsClause 147 = .ok (.getfield 238, 3) := by decide +kernel
theorem dX12_readsClause_150 : decode cX12_readsClause 150 = .ok (.iastore, 1) := by decide +kernel
theorem dX12_readsClause_151 : decode cX12_readsClause 151 = .ok (.aload_n 0, 1) := by decide +kernel
theorem dX12_readsClause_152 : decode cX12_readsClause 152 = .ok (.aload_n 0, 1) := by decide +kernel
theorem dX12_readsClause_153 : decode cX12_readsClause 153 = .ok (.getfield 292, 3) := by decide +kernel
theorem dX12_readsClause_156 : decode cX12_readsClause 156 = .ok (.iconst 1, 1) := by decide +kernel
theorem dX12_readsClause_157 : decode cX12_readsClause 157 = .ok (.iadd, 1) := by decide +kernel
theorem dX12_readsClause_158 : decode cX12_readsClause 158 = .ok (.putfield 292, 3) := by decide +kernel
theorem dX12_readsClause_161 : decode cX12_readsClause 161 = .ok (.iconst 1, 1) := by decide +kernel
theorem dX12_readsClause_162 : decode cX12_readsClause 162 = .ok (.ireturn, 1) := by decide +kernel
theorem dX12_readsCompared_0 : decode cX12_readsCompared 0 = .ok (.aload_n 0, 1) := by decide +kernel
theorem dX12_readsCompared_1 : decode cX12_readsCompared 1 = .ok (.invokevirtual 277, 3) := by decide +kernel
theorem dX12_readsCompared_4 : decode cX12_readsCompared 4 = .ok (.ifCond .ne 5, 3) := by decide +kernel
theorem dX12_readsCompared_7 : decode cX12_readsCompared 7 = .ok (.iconst 0, 1) := by decide +kernel
theorem dX12_readsCompared_8 : decode cX12_readsCompared 8 = .ok (.ireturn, 1) := by decide +kernel
theorem dX12_readsCompared_9 : decode cX12_readsCompared 9 = .ok (.aload_n 0, 1) := by decide +kernel
theorem dX12_readsCompared_10 : decode cX12_readsCompared 10 = .ok (.invokevirtual 165, 3) := by decide +kernel
theorem dX12_readsCompared_13 : decode cX12_readsCompared 13 = .ok (.bipush 60, 2) := by decide +kernel
theorem dX12_readsCompared_15 : decode cX12_readsCompared 15 = .ok (.if_icmp .ne 8, 3) := by decide +kernel
theorem dX12_readsCompared_18 : decode cX12_readsCompared 18 = .ok (.bipush 7, 2) := by decide +kernel
theorem dX12_readsCompared_20 : decode cX12_readsCompared 20 = .ok (.goto 32, 3) := by decide +kernel
theorem dX12_readsCompared_23 : decode cX12_readsCompared 23 = .ok (.aload_n 0, 1) := by decide +kernel
theorem dX12_readsCompared_24 : decode cX12_readsCompared 24 = .ok (.invokevirtual 165, 3) := by decide +kernel
theorem dX12_readsCompared_27 : decode cX12_readsCompared 27 = .ok (.bipush 62, 2) := by decide +kernel
theorem dX12_readsCompared_29 : decode cX12_readsCompared 29 = .ok (.if_icmp .ne 8, 3) := by decide +kernel
theorem dX12_readsCompared_32 : decode cX12_readsCompared 32 = .ok (.bipush 8, 2) := by decide +kernel
theorem dX12_readsCompared_34 : decode cX12_readsCompared 34 = .ok (.goto 18, 3) := by decide +kernel
theorem dX12_readsCompared_37 : decode cX12_readsCompared 37 = .ok (.aload_n 0, 1) := by decide +kernel
theorem dX12_readsCompared_38 : decode cX12_readsCompared 38 = .ok (.invokevirtual 165, 3) := by decide +kernel
theorem dX12_readsCompared_41 : decode cX12_readsCompared 41 = .ok (.bipush 61, 2) := by decide +kernel
theorem dX12_readsCompared_43 : decode cX12_readsCompared 43 = .ok (.if_icmp .ne 8, 3) := by decide +kernel
theorem dX12_readsCompared_46 : decode cX12_readsCompared 46 = .ok (.bipush 9, 2) := by decide +kernel
theorem dX12_readsCompared_48 : decode cX12_readsCompared 48 = .ok (.goto 4, 3) := by decide +kernel
theorem dX12_readsCompared_51 : decode cX12_readsCompared 51 = .ok (.iconst (-1), 1) := by decide +kernel
theorem dX12_readsCompared_52 : decode cX12_readsCompared 52 = .ok (.istore_n 1, 1) := by decide +kernel
theorem dX12_readsCompared_53 : decode cX12_readsCompared 53 = .ok (.iload_n 1, 1) := by decide +kernel
theorem dX12_readsCompared_54 : decode cX12_readsCompared 54 = .ok (.iconst (-1), 1) := by decide +kernel
theorem dX12_readsCompared_55 : decode cX12_readsCompared 55 = .ok (.if_icmp .ne 13, 3) := by decide +kernel
theorem dX12_readsCompared_58 : decode cX12_readsCompared 58 = .ok (.aload_n 0, 1) := by decide +kernel
theorem dX12_readsCompared_59 : decode cX12_readsCompared 59 = .ok (.iconst 1, 1) := by decide +kernel
theorem dX12_readsCompared_60 : decode cX12_readsCompared 60 = .ok (.aload_n 0, 1) := by decide +kernel
theorem dX12_readsCompared_61 : decode cX12_readsCompared 61 = .ok (.getfield 155, 3) := by decide +kernel
theorem dX12_readsCompared_64 : decode cX12_readsCompared 64 = .ok (.invokevirtual 169, 3) := by decide +kernel
theorem dX12_readsCompared_67 : decode cX12_readsCompared 67 = .ok (.ireturn, 1) := by decide +kernel
theorem dX12_readsCompared_68 : decode cX12_readsCompared 68 = .ok (.aload_n 0, 1) := by decide +kernel
theorem dX12_readsCompared_69 : decode cX12_readsCompared 69 = .ok (.aload_n 0, 1) := by decide +kernel
theorem dX12_readsCompared_70 : decode cX12_readsCompared 70 = .ok (.getfield 155, 3) := by decide +kernel
theorem dX12_readsCompared_73 : decode cX12_readsCompared 73 = .ok (.iconst 1, 1) := by decide +kernel
theorem dX12_readsCompared_74 : decode cX12_readsCompared 74 = .ok (.iadd, 1) := by decide +kernel
theorem dX12_readsCompared_75 : decode cX12_readsCompared 75 = .ok (.putfield 155, 3) := by decide +kernel
theorem dX12_readsCompared_78 : decode cX12_readsCompared 78 = .ok (.aload_n 0, 1) := by decide +kernel
theorem dX12_readsCompared_79 : decode cX12_readsCompared 79 = .ok (.invokevirtual 277, 3) := by decide +kernel
theorem dX12_readsCompared_82 : decode cX12_readsCompared 82 = .ok (.ifCond .ne 5, 3) := by decide +kernel
theorem dX12_readsCompared_85 : decode cX12_readsCompared 85 = .ok (.iconst 0, 1) := by decide +kernel
theorem dX12_readsCompared_86 : decode cX12_readsCompared 86 = .ok (.ireturn, 1) := by decide +kernel
theorem dX12_readsCompared_87 : decode cX12_readsCompared 87 = .ok (.aload_n 0, 1) := by decide +kernel
theorem dX12_readsCompared_88 : decode cX12_readsCompared 88 = .ok (.iload_n 1, 1) := by decide +kernel
theorem dX12_readsCompared_89 : decode cX12_readsCompared 89 = .ok (.iconst 0, 1) := by decide +kernel
theorem dX12_readsCompared_90 : decode cX12_readsCompared 90 = .ok (.invokevirtual 251, 3) := by decide +kernel
theorem dX12_readsCompared_93 : decode cX12_readsCompared 93 = .ok (.aload_n 0, 1) := by decide +kernel
theorem dX12_readsCompared_94 : decode cX12_readsCompared 94 = .ok (.invokevirtual 280, 3) := by decide +kernel
theorem dX12_readsCompared_97 : decode cX12_readsCompared 97 = .ok (.iconst 1, 1) := by decide +kernel
theorem dX12_readsCompared_98 : decode cX12_readsCompared 98 = .ok (.ireturn, 1) := by decide +kernel
theorem dX12_readsCondition_0 : decode cX12_readsCondition 0 = .ok (.aload_n 0, 1) := by decide +kernel
theorem dX12_readsCondition_1 : decode cX12_readsCondition 1 = .ok (.invokevirtual 165, 3) := by decide +kernel
theorem dX12_readsCondition_4 : decode cX12_readsCondition 4 = .ok (.bipush 40, 2) := by decide +kernel
theorem dX12_readsCondition_6 : decode cX12_readsCondition 6 = .ok (.if_icmp .eq 13, 3) := by decide +kernel
theorem dX12_readsCondition_9 : decode cX12_readsCondition 9 = .ok (.aload_n 0, 1) := by decide +kernel
theorem dX12_readsCondition_10 : decode cX12_readsCondition 10 = .ok (.iconst 1, 1) := by decide +kernel
theorem dX12_readsCondition_11 : decode cX12_readsCondition 11 = .ok (.aload_n 0, 1) := by decide +kernel
theorem dX12_readsCondition_12 : decode cX12_readsCondition 12 = .ok (.getfield 155, 3) := by decide +kernel
theorem dX12_readsCondition_15 : decode cX12_readsCondition 15 = .ok (.invokevirtual 169, 3) := by decide +kernel
theorem dX12_readsCondition_18 : decode cX12_readsCondition 18 = .ok (.ireturn, 1) := by decide +kernel
theorem dX12_readsCondition_19 : decode cX12_readsCondition 19 = .ok (.aload_n 0, 1) := by decide +kernel
theorem dX12_readsCondition_20 : decode cX12_readsCondition 20 = .ok (.iconst 0, 1) := by decide +kernel
theorem dX12_readsCondition_21 : decode cX12_readsCondition 21 = .ok (.putfield 242, 3) := by decide +kernel
theorem dX12_readsCondition_24 : decode cX12_readsCondition 24 = .ok (.aload_n 0, 1) := by decide +kernel
theorem dX12_readsCondition_25 : decode cX12_readsCondition 25 = .ok (.iconst 0, 1) := by decide +kernel
theorem dX12_readsCondition_26 : decode cX12_readsCondition 26 = .ok (.putfield 245, 3) := by decide +kernel
theorem dX12_readsCondition_29 : decode cX12_readsCondition 29 = .ok (.aload_n 0, 1) := by decide +kernel
theorem dX12_readsCondition_30 : decode cX12_readsCondition 30 = .ok (.bipush 13, 2) := by decide +kernel
theorem dX12_readsCondition_32 : decode cX12_readsCondition 32 = .ok (.invokevirtual 255, 3) := by decide +kernel
theorem dX12_readsCondition_35 : decode cX12_readsCondition 35 = .ok (.ifCond .ne 5, 3) := by decide +kernel
theorem dX12_readsCondition_38 : decode cX12_readsCondition 38 = .ok (.iconst 0, 1) := by decide +kernel
theorem dX12_readsCondition_39 : decode cX12_readsCondition 39 = .ok (.ireturn, 1) := by decide +kernel
theorem dX12_readsCondition_40 : decode cX12_readsCondition 40 = .ok (.aload_n 0, 1) := by decide +kernel
theorem dX12_readsCondition_41 : decode cX12_readsCondition 41 = .ok (.invokevirtual 165, 3) := by decide +kernel
theorem dX12_readsCondition_44 : decode cX12_readsCondition 44 = .ok (.bipush 33, 2) := by decide +kernel
theorem dX12_readsCondition_46 : decode cX12_readsCondition 46 = .ok (.if_icmp .eq 12, 3) := by decide +kernel
theorem dX12_readsCondition_49 : decode cX12_readsCondition 49 = .ok (.aload_n 0, 1) := by decide +kernel
theorem dX12_readsCondition_50 : decode cX12_readsCondition 50 = .ok (.invokevirtual 165, 3) := by decide +kernel
theorem dX12_readsCondition_53 : decode cX12_readsCondition 53 = .ok (.bipush 40, 2) := by decide +kernel
theorem dX12_readsCondition_55 : decode cX12_readsCondition 55 = .ok (.if_icmp .ne 28, 3) := by decide +kernel
theorem dX12_readsCondition_58 : decode cX12_readsCondition 58 = .ok (.aload_n 0, 1) := by decide +kernel
theorem dX12_readsCondition_59 : decode cX12_readsCondition 59 = .ok (.aload_n 0, 1) := by decide +kernel
theorem dX12_readsCondition_60 : decode cX12_readsCondition 60 = .ok (.invokevirtual 165, 3) := by decide +kernel
theorem dX12_readsCondition_63 : decode cX12_readsCondition 63 = .ok (.bipush 33, 2) := by decide +kernel
theorem dX12_readsCondition_65 : decode cX12_readsCondition 65 = .ok (.if_icmp .ne 8, 3) := by decide +kernel
theorem dX12_readsCondition_68 : decode cX12_readsCondition 68 = .ok (.bipush 10, 2) := by decide +kernel
theorem dX12_readsCondition_70 : decode cX12_readsCondition 70 = .ok (.goto 5, 3) := by decide +kernel
theorem dX12_readsCondition_73 : decode cX12_readsCondition 73 = .ok (.bipush 13, 2) := by decide +kernel
theorem dX12_readsCondition_75 : decode cX12_readsCondition 75 = .ok (.invokevirtual 255, 3) := by decide +kernel
theorem dX12_readsCondition_78 : decode cX12_readsCondition 78 = .ok (.ifCond .ne (-38), 3) := by decide +kernel
theorem dX12_readsCondition_81 : decode cX12_readsCondition 81 = .ok (.iconst 0, 1) := by decide +kernel
theorem dX12_readsCondition_82 : decode cX12_readsCondition 82 = .ok (.ireturn, 1) := by decide +kernel
theorem dX12_readsCondition_83 : decode cX12_readsCondition 83 = .ok (.aload_n 0, 1) := by decide +kernel
theorem dX12_readsCondition_84 : decode cX12_readsCondition 84 = .ok (.invokevirtual 283, 3) := by decide +kernel
theorem dX12_readsCondition_87 : decode cX12_readsCondition 87 = .ok (.ifCond .ne 5, 3) := by decide +kernel
theorem dX12_readsCondition_90 : decode cX12_readsCondition 90 = .ok (.iconst 0, 1) := by decide +kernel
theorem dX12_readsCondition_91 : decode cX12_readsCondition 91 = .ok (.ireturn, 1) := by decide +kernel
theorem dX12_readsCondition_92 : decode cX12_readsCondition 92 = .ok (.aload_n 0, 1) := by decide +kernel
theorem dX12_readsCondition_93 : decode cX12_readsCondition 93 = .ok (.invokevirtual 165, 3) := by decide +kernel
theorem dX12_readsCondition_96 : decode cX12_readsCondition 96 = .ok (.bipush 41, 2) := by decide +kernel
theorem dX12_readsCondition_98 : decode cX12_readsCondition 98 = .ok (.if_icmp .ne 54, 3) := by decide +kernel
theorem dX12_readsCondition_101 : decode cX12_readsCondition 101 = .ok (.aload_n 0, 1) := by decide +kernel
theorem dX12_readsCondition_102 : decode cX12_readsCondition 102 = .ok (.iconst 1, 1) := by decide +kernel
theorem dX12_readsCondition_103 : decode cX12_readsCondition 103 = .ok (.invokevirtual 286, 3) := by decide +kernel
theorem dX12_readsCondition_106 : decode cX12_readsCondition 106 = .ok (.aload_n 0, 1) := by decide +kernel
theorem dX12_readsCondition_107 : decode cX12_readsCondition 107 = .ok (.aload_n 0, 1) := by decide +kernel
theorem dX12_readsCondition_108 : decode cX12_readsCondition 108 = .ok (.getfield 245, 3) := by decide +kernel
theorem dX12_readsCondition_111 : decode cX12_readsCondition 111 = .ok (.iconst 1, 1) := by decide +kernel
theorem dX12_readsCondition_112 : decode cX12_readsCondition 112 = .ok (.isub, 1) := by decide +kernel
theorem dX12_readsCondition_113 : decode cX12_readsCondition 113 = .ok (.putfield 245, 3) := by decide +kernel
theorem dX12_readsCondition_116 : decode cX12_readsCondition 116 = .ok (.aload_n 0, 1) := by decide +kernel
theorem dX12_readsCondition_117 : decode cX12_readsCondition 117 = .ok (.aload_n 0, 1) := by decide +kernel
theorem dX12_readsCondition_118 : decode cX12_readsCondition 118 = .ok (.getfield 242, 3) := by decide +kernel
theorem dX12_readsCondition_121 : decode cX12_readsCondition 121 = .ok (.iconst 1, 1) := by decide +kernel
theorem dX12_readsCondition_122 : decode cX12_readsCondition 122 = .ok (.isub, 1) := by decide +kernel
theorem dX12_readsCondition_123 : decode cX12_readsCondition 123 = .ok (.putfield 242, 3) := by decide +kernel
theorem dX12_readsCondition_126 : decode cX12_readsCondition 126 = .ok (.aload_n 0, 1) := by decide +kernel
theorem dX12_readsCondition_127 : decode cX12_readsCondition 127 = .ok (.aload_n 0, 1) := by decide +kernel
theorem dX12_readsCondition_128 : decode cX12_readsCondition 128 = .ok (.getfield 155, 3) := by decide +kernel
theorem dX12_readsCondition_131 : decode cX12_readsCondition 131 = .ok (.iconst 1, 1) := by decide +kernel
theorem dX12_readsCondition_132 : decode cX12_readsCondition 132 = .ok (.iadd, 1) := by decide +kernel
theorem dX12_readsCondition_133 : decode cX12_readsCondition 133 = .ok (.putfield 155, 3) := by decide +kernel
theorem dX12_readsCondition_136 : decode cX12_readsCondition 136 = .ok (.aload_n 0, 1) := by decide +kernel
theorem dX12_readsCondition_137 : decode cX12_readsCondition 137 = .ok (.getfield 245, 3) := by decide +kernel
theorem dX12_readsCondition_140 : decode cX12_readsCondition 140 = .ok (.ifCond .ne 5, 3) := by decide +kernel
theorem dX12_readsCondition_143 : decode cX12_readsCondition 143 = .ok (.iconst 1, 1) := by decide +kernel
theorem dX12_readsCondition_144 : decode cX12_readsCondition 144 = .ok (.ireturn, 1) := by decide +kernel
theorem dX12_readsCondition_145 : decode cX12_readsCondition 145 = .ok (.aload_n 0, 1) := by decide +kernel
theorem dX12_readsCondition_146 : decode cX12_readsCondition 146 = .ok (.invokevirtual 280, 3) := by decide +kernel
theorem dX12_readsCondition_149 : decode cX12_readsCondition 149 = .ok (.goto (-57), 3) := by decide +kernel
theorem dX12_readsCondition_152 : decode cX12_readsCondition 152 = .ok (.aload_n 0, 1) := by decide +kernel
theorem dX12_readsCondition_153 : decode cX12_readsCondition 153 = .ok (.invokevirtual 165, 3) := by decide +kernel
theorem dX12_readsCondition_156 : decode cX12_readsCondition 156 = .ok (.bipush 38, 2) := by decide +kernel
theorem dX12_readsCondition_158 : decode cX12_readsCondition 158 = .ok (.if_icmp .eq 22, 3) := by decide +kernel
theorem dX12_readsCondition_161 : decode cX12_readsCondition 161 = .ok (.aload_n 0, 1) := by decide +kernel
theorem dX12_readsCondition_162 : decode cX12_readsCondition 162 = .ok (.invokevirtual 165, 3) := by decide +kernel
theorem dX12_readsCondition_165 : decode cX12_readsCondition 165 = .ok (.bipush 124, 2) := by decide +kernel
theorem dX12_readsCondition_167 : decode cX12_readsCondition 167 = .ok (.if_icmp .eq 13, 3) := by decide +kernel
theorem dX12_readsCondition_170 : decode cX12_readsCondition 170 = .ok (.aload_n 0, 1) := by decide +kernel
theorem dX12_readsCondition_171 : decode cX12_readsCondition 171 = .ok (.iconst 1, 1) := by decide +kernel
theorem dX12_readsCondition_172 : decode cX12_readsCondition 172 = .ok (.aload_n 0, 1) := by decide +kernel
theorem dX12_readsCondition_173 : decode cX12_readsCondition 173 = .ok (.getfield 155, 3) := by decide +kernel
theorem dX12_readsCondition_176 : decode cX12_readsCondition 176 = .ok (.invokevirtual 169, 3) := by decide +kernel
theorem dX12_readsCondition_179 : decode cX12_readsCondition 179 = .ok (.ireturn, 1) := by decide +kernel
theorem dX12_readsCondition_180 : decode cX12_readsCondition 180 = .ok (.aload_n 0, 1) := by decide +kernel
theorem dX12_readsCondition_181 : decode cX12_readsCondition 181 = .ok (.aload_n 0, 1) := by decide +kernel
theorem dX12_readsCondition_182 : decode cX12_readsCondition 182 = .ok (.invokevirtual 165, 3) := by decide +kernel
theorem dX12_readsCondition_185 : decode cX12_readsCondition 185 = .ok (.bipush 124, 2) := by decide +kernel
theorem dX12_readsCondition_187 : decode cX12_readsCondition 187 = .ok (.if_icmp .ne 7, 3) := by decide +kernel
theorem dX12_readsCondition_190 : decode cX12_readsCondition 190 = .ok (.iconst 1, 1) := by decide +kernel
theorem dX12_readsCondition_191 : decode cX12_readsCondition 191 = .ok (.goto 4, 3) := by decide +kernel
theorem dX12_readsCondition_194 : decode cX12_readsCondition 194 = .ok (.iconst 0, 1) := by decide +kernel
theorem dX12_readsCondition_195 : decode cX12_readsCondition 195 = .ok (.invokevirtual 286, 3) := by decide +kernel
theorem dX12_readsCondition_198 : decode cX12_readsCondition 198 = .ok (.aload_n 0, 1) := by decide +kernel
theorem dX12_readsCondition_199 : decode cX12_readsCondition 199 = .ok (.aload_n 0, 1) := by decide +kernel
theorem dX12_readsCondition_200 : decode cX12_readsCondition 200 = .ok (.invokevirtual 165, 3) := by decide +kernel
theorem dX12_readsCondition_203 : decode cX12_readsCondition 203 = .ok (.bipush 38, 2) := by decide +kernel
theorem dX12_readsCondition_205 : decode cX12_readsCondition 205 = .ok (.if_icmp .ne 8, 3) := by decide +kernel
theorem dX12_readsCondition_208 : decode cX12_readsCondition 208 = .ok (.bipush 11, 2) := by decide +kernel
theorem dX12_readsCondition_210 : decode cX12_readsCondition 210 = .ok (.goto 5, 3) := by decide +kernel
theorem dX12_readsCondition_213 : decode cX12_readsCondition 213 = .ok (.bipush 12, 2) := by decide +kernel
theorem dX12_readsCondition_215 : decode cX12_readsCondition 215 = .ok (.invokevirtual 289, 3) := by decide +kernel
theorem dX12_readsCondition_218 : decode cX12_readsCondition 218 = .ok (.goto (-178), 3) := by decide +kernel
theorem dX12_readsFactor_0 : decode cX12_readsFactor 0 = .ok (.aload_n 0, 1) := by decide +kernel
theorem dX12_readsFactor_1 : decode cX12_readsFactor 1 = .ok (.invokevirtual 165, 3) := by decide +kernel
theorem dX12_readsFactor_4 : decode cX12_readsFactor 4 = .ok (.bipush 91, 2) := by decide +kernel
theorem dX12_readsFactor_6 : decode cX12_readsFactor 6 = .ok (.if_icmp .ne 14, 3) := by decide +kernel
theorem dX12_readsFactor_9 : decode cX12_readsFactor 9 = .ok (.aload_n 0, 1) := by decide +kernel
theorem dX12_readsFactor_10 : decode cX12_readsFactor 10 = .ok (.bipush 14, 2) := by decide +kernel
theorem dX12_readsFactor_12 : decode cX12_readsFactor 12 = .ok (.invokevirtual 255, 3) := by decide +kernel
theorem dX12_readsFactor_15 : decode cX12_readsFactor 15 = .ok (.ifCond .ne (-15), 3) := by decide +kernel
theorem dX12_readsFactor_18 : decode cX12_readsFactor 18 = .ok (.iconst 0, 1) := by decide +kernel
theorem dX12_readsFactor_19 : decode cX12_readsFactor 19 = .ok (.ireturn, 1) := by decide +kernel
theorem dX12_readsFactor_20 : decode cX12_readsFactor 20 = .ok (.aload_n 0, 1) := by decide +kernel
theorem dX12_readsFactor_21 : decode cX12_readsFactor 21 = .ok (.invokevirtual 161, 3) := by decide +kernel
theorem dX12_readsFactor_24 : decode cX12_readsFactor 24 = .ok (.ifCond .eq 23, 3) := by decide +kernel
theorem dX12_readsFactor_27 : decode cX12_readsFactor 27 = .ok (.aload_n 0, 1) := by decide +kernel
theorem dX12_readsFactor_28 : decode cX12_readsFactor 28 = .ok (.invokevirtual 258, 3) := by decide +kernel
theorem dX12_readsFactor_31 : decode cX12_readsFactor 31 = .ok (.ifCond .ne 5, 3) := by decide +kernel
theorem dX12_readsFactor_34 : decode cX12_readsFactor 34 = .ok (.iconst 0, 1) := by decide +kernel
theorem dX12_readsFactor_35 : decode cX12_readsFactor 35 = .ok (.ireturn, 1) := by decide +kernel
theorem dX12_readsFactor_36 : decode cX12_readsFactor 36 = .ok (.aload_n 0, 1) := by decide +kernel
theorem dX12_readsFactor_37 : decode cX12_readsFactor 37 = .ok (.iconst 0, 1) := by decide +kernel
theorem dX12_readsFactor_38 : decode cX12_readsFactor 38 = .ok (.aload_n 0, 1) := by decide +kernel
theorem dX12_readsFactor_39 : decode cX12_readsFactor 39 = .ok (.getfield 158, 3) := by decide +kernel
theorem dX12_readsFactor_42 : decode cX12_readsFactor 42 = .ok (.invokevirtual 251, 3) := by decide +kernel
theorem dX12_readsFactor_45 : decode cX12_readsFactor 45 = .ok (.iconst 1, 1) := by decide +kernel
theorem dX12_readsFactor_46 : decode cX12_readsFactor 46 = .ok (.ireturn, 1) := by decide +kernel
theorem dX12_readsFactor_47 : decode cX12_readsFactor 47 = .ok (.aload_n 0, 1) := by decide +kernel
theorem dX12_readsFactor_48 : decode cX12_readsFactor 48 = .ok (.invokevirtual 165, 3) := by decide +kernel
theorem dX12_readsFactor_51 : decode cX12_readsFactor 51 = .ok (.invokestatic 261, 3) := by decide +kernel
theorem dX12_readsFactor_54 : decode cX12_readsFactor 54 = .ok (.istore_n 1, 1) := by decide +kernel
theorem dX12_readsFactor_55 : decode cX12_readsFactor 55 = .ok (.iload_n 1, 1) := by decide +kernel
theorem dX12_readsFactor_56 : decode cX12_readsFactor 56 = .ok (.iconst (-1), 1) := by decide +kernel
theorem dX12_readsFactor_57 : decode cX12_readsFactor 57 = .ok (.if_icmp .ne 13, 3) := by decide +kernel
theorem dX12_readsFactor_60 : decode cX12_readsFactor 60 = .ok (.aload_n 0, 1) := by decide +kernel
theorem dX12_readsFactor_61 : decode cX12_readsFactor 61 = .ok (.iconst 1, 1) := by decide +kernel
theorem dX12_readsFactor_62 : decode cX12_readsFactor 62 = .ok (.aload_n 0, 1) := by decide +kernel
theorem dX12_readsFactor_63 : decode cX12_readsFactor 63 = .ok (.getfield 155, 3) := by decide +kernel
theorem dX12_readsFactor_66 : decode cX12_readsFactor 66 = .ok (.invokevirtual 169, 3) := by decide +kernel
theorem dX12_readsFactor_69 : decode cX12_readsFactor 69 = .ok (.ireturn, 1) := by decide +kernel
theorem dX12_readsFactor_70 : decode cX12_readsFactor 70 = .ok (.aload_n 0, 1) := by decide +kernel
theorem dX12_readsFactor_71 : decode cX12_readsFactor 71 = .ok (.iconst 1, 1) := by decide +kernel
theorem dX12_readsFactor_72 : decode cX12_readsFactor 72 = .ok (.iload_n 1, 1) := by decide +kernel
theorem dX12_readsFactor_73 : decode cX12_readsFactor 73 = .ok (.invokevirtual 251, 3) := by decide +kernel
theorem dX12_readsFactor_76 : decode cX12_readsFactor 76 = .ok (.aload_n 0, 1) := by decide +kernel
theorem dX12_readsFactor_77 : decode cX12_readsFactor 77 = .ok (.aload_n 0, 1) := by decide +kernel
theorem dX12_readsFactor_78 : decode cX12_readsFactor 78 = .ok (.getfield 155, 3) := by decide +kernel
theorem dX12_readsFactor_81 : decode cX12_readsFactor 81 = .ok (.iconst 1, 1) := by decide +kernel
theorem dX12_readsFactor_82 : decode cX12_readsFactor 82 = .ok (.iadd, 1) := by decide +kernel
theorem dX12_readsFactor_83 : decode cX12_readsFactor 83 = .ok (.putfield 155, 3) := by decide +kernel
theorem dX12_readsFactor_86 : decode cX12_readsFactor 86 = .ok (.iconst 1, 1) := by decide +kernel
theorem dX12_readsFactor_87 : decode cX12_readsFactor 87 = .ok (.ireturn, 1) := by decide +kernel
theorem dX12_readsIt_0 : decode cX12_readsIt 0 = .ok (.aload_n 0, 1) := by decide +kernel
theorem dX12_readsIt_1 : decode cX12_readsIt 1 = .ok (.iload_n 1, 1) := by decide +kernel
theorem dX12_readsIt_2 : decode cX12_readsIt 2 = .ok (.iload_n 2, 1) := by decide +kernel
theorem dX12_readsIt_3 : decode cX12_readsIt 3 = .ok (.iload_n 3, 1) := by decide +kernel
theorem dX12_readsIt_4 : decode cX12_readsIt 4 = .ok (.invokevirtual 311, 3) := by decide +kernel
theorem dX12_readsIt_7 : decode cX12_readsIt 7 = .ok (.iconst 0, 1) := by decide +kernel
theorem dX12_readsIt_8 : decode cX12_readsIt 8 = .ok (.istore 4, 2) := by decide +kernel
theorem dX12_readsIt_10 : decode cX12_readsIt 10 = .ok (.iload 4, 2) := by decide +kernel
theorem dX12_readsIt_12 : decode cX12_readsIt 12 = .ok (.aload_n 0, 1) := by decide +kernel
theorem dX12_readsIt_13 : decode cX12_readsIt 13 = .ok (.getfield 301, 3) := by decide +kernel
theorem dX12_readsIt_16 : decode cX12_readsIt 16 = .ok (.if_icmp .ge 45, 3) := by decide +kernel
theorem dX12_readsIt_19 : decode cX12_readsIt 19 = .ok (.aload_n 0, 1) := by decide +kernel
theorem dX12_readsIt_20 : decode cX12_readsIt 20 = .ok (.getfield 77, 3) := by decide +kernel
theorem dX12_readsIt_23 : decode cX12_readsIt 23 = .ok (.iload 4, 2) := by decide +kernel
theorem dX12_readsIt_25 : decode cX12_readsIt 25 = .ok (.iaload, 1) := by decide +kernel
theorem dX12_readsIt_26 : decode cX12_readsIt 26 = .ok (.bipush 114, 2) := by decide +kernel
theorem dX12_readsIt_28 : decode cX12_readsIt 28 = .ok (.if_icmp .ne 27, 3) := by decide +kernel
theorem dX12_readsIt_31 : decode cX12_readsIt 31 = .ok (.aload_n 0, 1) := by decide +kernel
theorem dX12_readsIt_32 : decode cX12_readsIt 32 = .ok (.aload_n 0, 1) := by decide +kernel
theorem dX12_readsIt_33 : decode cX12_readsIt 33 = .ok (.getfield 83, 3) := by decide +kernel
theorem dX12_readsIt_36 : decode cX12_readsIt 36 = .ok (.iload 4, 2) := by decide +kernel
theorem dX12_readsIt_38 : decode cX12_readsIt 38 = .ok (.iaload, 1) := by decide +kernel
theorem dX12_readsIt_39 : decode cX12_readsIt 39 = .ok (.aload_n 0, 1) := by decide +kernel
theorem dX12_readsIt_40 : decode cX12_readsIt 40 = .ok (.getfield 86, 3) := by decide +kernel
theorem dX12_readsIt_43 : decode cX12_readsIt 43 = .ok (.iload 4, 2) := by decide +kernel
theorem dX12_readsIt_45 : decode cX12_readsIt 45 = .ok (.iaload, 1) := by decide +kernel
theorem dX12_readsIt_46 : decode cX12_readsIt 46 = .ok (.invokevirtual 308, 3) := by decide +kernel
theorem dX12_readsIt_49 : decode cX12_readsIt 49 = .ok (.iconst 1, 1) := by decide +kernel
theorem dX12_readsIt_50 : decode cX12_readsIt 50 = .ok (.if_icmp .ne 5, 3) := by decide +kernel
theorem dX12_readsIt_53 : decode cX12_readsIt 53 = .ok (.iconst 1, 1) := by decide +kernel
theorem dX12_readsIt_54 : decode cX12_readsIt 54 = .ok (.ireturn, 1) := by decide +kernel
theorem dX12_readsIt_55 : decode cX12_readsIt 55 = .ok (.iinc 4 1, 3) := by decide +kernel
theorem dX12_readsIt_58 : decode cX12_readsIt 58 = .ok (.goto (-48), 3) := by decide +kernel
theorem dX12_readsIt_61 : decode cX12_readsIt 61 = .ok (.iconst 0, 1) := by decide +kernel
theorem dX12_readsIt_62 : decode cX12_readsIt 62 = .ok (.ireturn, 1) := by decide +kernel
theorem dX12_readsLine_0 : decode cX12_readsLine 0 = .ok (.aload_n 0, 1) := by decide +kernel
theorem dX12_readsLine_1 : decode cX12_readsLine 1 = .ok (.invokevirtual 161, 3) := by decide +kernel
theorem dX12_readsLine_4 : decode cX12_readsLine 4 = .ok (.ifCond .ne 13, 3) := by decide +kernel
theorem dX12_readsLine_7 : decode cX12_readsLine 7 = .ok (.aload_n 0, 1) := by decide +kernel
theorem dX12_readsLine_8 : decode cX12_readsLine 8 = .ok (.iconst 1, 1) := by decide +kernel
theorem dX12_readsLine_9 : decode cX12_readsLine 9 = .ok (.aload_n 0, 1) := by decide +kernel
theorem dX12_readsLine_10 : decode cX12_readsLine 10 = .ok (.getfield 155, 3) := by decide +kernel
theorem dX12_readsLine_13 : decode cX12_readsLine 13 = .ok (.invokevirtual 169, 3) := by decide +kernel
theorem dX12_readsLine_16 : decode cX12_readsLine 16 = .ok (.ireturn, 1) := by decide +kernel
theorem dX12_readsLine_17 : decode cX12_readsLine 17 = .ok (.aload_n 0, 1) := by decide +kernel
theorem dX12_readsLine_18 : decode cX12_readsLine 18 = .ok (.getfield 173, 3) := by decide +kernel
theorem dX12_readsLine_21 : decode cX12_readsLine 21 = .ok (.bipush 20, 2) := by decide +kernel
theorem dX12_readsLine_23 : decode cX12_readsLine 23 = .ok (.if_icmp .ne 13, 3) := by decide +kernel
theorem dX12_readsLine_26 : decode cX12_readsLine 26 = .ok (.aload_n 0, 1) := by decide +kernel
theorem dX12_readsLine_27 : decode cX12_readsLine 27 = .ok (.iconst 4, 1) := by decide +kernel
theorem dX12_readsLine_28 : decode cX12_readsLine 28 = .ok (.aload_n 0, 1) := by decide +kernel
theorem dX12_readsLine_29 : decode cX12_readsLine 29 = .ok (.getfield 155, 3) := by decide +kernel
theorem dX12_readsLine_32 : decode cX12_readsLine 32 = .ok (.invokevirtual 169, 3) := by decide +kernel
theorem dX12_readsLine_35 : decode cX12_readsLine 35 = .ok (.ireturn, 1) := by decide +kernel
theorem dX12_readsLine_36 : decode cX12_readsLine 36 = .ok (.aload_n 0, 1) := by decide +kernel
theorem dX12_readsLine_37 : decode cX12_readsLine 37 = .ok (.aload_n 0, 1) := by decide +kernel
theorem dX12_readsLine_38 : decode cX12_readsLine 38 = .ok (.getfield 134, 3) := by decide +kernel
theorem dX12_readsLine_41 : decode cX12_readsLine 41 = .ok (.iconst 3, 1) := by decide +kernel
theorem dX12_readsLine_42 : decode cX12_readsLine 42 = .ok (.invokevirtual 176, 3) := by decide +kernel
theorem dX12_readsLine_45 : decode cX12_readsLine 45 = .ok (.ifCond .ne 5, 3) := by decide +kernel
theorem dX12_readsLine_48 : decode cX12_readsLine 48 = .ok (.iconst 0, 1) := by decide +kernel
theorem dX12_readsLine_49 : decode cX12_readsLine 49 = .ok (.ireturn, 1) := by decide +kernel
theorem dX12_readsLine_50 : decode cX12_readsLine 50 = .ok (.aload_n 0, 1) := by decide +kernel
theorem dX12_readsLine_51 : decode cX12_readsLine 51 = .ok (.getfield 32, 3) := by decide +kernel
theorem dX12_readsLine_54 : decode cX12_readsLine 54 = .ok (.aload_n 0, 1) := by decide +kernel
theorem dX12_readsLine_55 : decode cX12_readsLine 55 = .ok (.getfield 173, 3) := by decide +kernel
theorem dX12_readsLine_58 : decode cX12_readsLine 58 = .ok (.aload_n 0, 1) := by decide +kernel
theorem dX12_readsLine_59 : decode cX12_readsLine 59 = .ok (.getfield 158, 3) := by decide +kernel
theorem dX12_readsLine_62 : decode cX12_readsLine 62 = .ok (.iastore, 1) := by decide +kernel
theorem dX12_readsLine_63 : decode cX12_readsLine 63 = .ok (.aload_n 0, 1) := by decide +kernel
theorem dX12_readsLine_64 : decode cX12_readsLine 64 = .ok (.bipush 61, 2) := by decide +kernel
theorem dX12_readsLine_66 : decode cX12_readsLine 66 = .ok (.invokevirtual 179, 3) := by decide +kernel
theorem dX12_readsLine_69 : decode cX12_readsLine 69 = .ok (.ifCond .eq 10, 3) := by decide +kernel
theorem dX12_readsLine_72 : decode cX12_readsLine 72 = .ok (.aload_n 0, 1) := by decide +kernel
theorem dX12_readsLine_73 : decode cX12_readsLine 73 = .ok (.invokevirtual 186, 3) := by decide +kernel
theorem dX12_readsLine_76 : decode cX12_readsLine 76 = .ok (.ifCond .ne 5, 3) := by decide +kernel
theorem dX12_readsLine_79 : decode cX12_readsLine 79 = .ok (.iconst 0, 1) := by decide +kernel
theorem dX12_readsLine_80 : decode cX12_readsLine 80 = .ok (.ireturn, 1) := by decide +kernel
theorem dX12_readsLine_81 : decode cX12_readsLine 81 = .ok (.aload_n 0, 1) := by decide +kernel
theorem dX12_readsLine_82 : decode cX12_readsLine 82 = .ok (.aload_n 0, 1) := by decide +kernel
theorem dX12_readsLine_83 : decode cX12_readsLine 83 = .ok (.getfield 173, 3) := by decide +kernel
theorem dX12_readsLine_86 : decode cX12_readsLine 86 = .ok (.iconst 1, 1) := by decide +kernel
theorem dX12_readsLine_87 : decode cX12_readsLine 87 = .ok (.iadd, 1) := by decide +kernel
theorem dX12_readsLine_88 : decode cX12_readsLine 88 = .ok (.putfield 173, 3) := by decide +kernel
theorem dX12_readsLine_91 : decode cX12_readsLine 91 = .ok (.iconst 1, 1) := by decide +kernel
theorem dX12_readsLine_92 : decode cX12_readsLine 92 = .ok (.ireturn, 1) := by decide +kernel
theorem dX12_readsNumber_0 : decode cX12_readsNumber 0 = .ok (.aload_n 0, 1) := by decide +kernel
theorem dX12_readsNumber_1 : decode cX12_readsNumber 1 = .ok (.getfield 155, 3) := by decide +kernel
theorem dX12_readsNumber_4 : decode cX12_readsNumber 4 = .ok (.istore_n 1, 1) := by decide +kernel
theorem dX12_readsNumber_5 : decode cX12_readsNumber 5 = .ok (.aload_n 0, 1) := by decide +kernel
theorem dX12_readsNumber_6 : decode cX12_readsNumber 6 = .ok (.iconst 0, 1) := by decide +kernel
theorem dX12_readsNumber_7 : decode cX12_readsNumber 7 = .ok (.putfield 158, 3) := by decide +kernel
theorem dX12_readsNumber_10 : decode cX12_readsNumber 10 = .ok (.aload_n 0, 1) := by decide +kernel
theorem dX12_readsNumber_11 : decode cX12_readsNumber 11 = .ok (.invokevirtual 161, 3) := by decide +kernel
theorem dX12_readsNumber_14 : decode cX12_readsNumber 14 = .ok (.ifCond .eq 55, 3) := by decide +kernel
theorem dX12_readsNumber_17 : decode cX12_readsNumber 17 = .ok (.aload_n 0, 1) := by decide +kernel
theorem dX12_readsNumber_18 : decode cX12_readsNumber 18 = .ok (.getfield 155, 3) := by decide +kernel
theorem dX12_readsNumber_21 : decode cX12_readsNumber 21 = .ok (.iload_n 1, 1) := by decide +kernel
theorem dX12_readsNumber_22 : decode cX12_readsNumber 22 = .ok (.iconst 5, 1) := by decide +kernel
theorem dX12_readsNumber_23 : decode cX12_readsNumber 23 = .ok (.iadd, 1) := by decide +kernel
theorem dX12_readsNumber_24 : decode cX12_readsNumber 24 = .ok (.if_icmp .ne 13, 3) := by decide +kernel
theorem dX12_readsNumber_27 : decode cX12_readsNumber 27 = .ok (.aload_n 0, 1) := by decide +kernel
theorem dX12_readsNumber_28 : decode cX12_readsNumber 28 = .ok (.iconst 2, 1) := by decide +kernel
theorem dX12_readsNumber_29 : decode cX12_readsNumber 29 = .ok (.aload_n 0, 1) := by decide +kernel
theorem dX12_readsNumber_30 : decode cX12_readsNumber 30 = .ok (.getfield 155, 3) := by decide +kernel
theorem dX12_readsNumber_33 : decode cX12_readsNumber 33 = .ok (.invokevirtual 169, 3) := by decide +kernel
theorem dX12_readsNumber_36 : decode cX12_readsNumber 36 = .ok (.ireturn, 1) := by decide +kernel
theorem dX12_readsNumber_37 : decode cX12_readsNumber 37 = .ok (.aload_n 0, 1) := by decide +kernel
theorem dX12_readsNumber_38 : decode cX12_readsNumber 38 = .ok (.bipush 10, 2) := by decide +kernel
theorem dX12_readsNumber_40 : decode cX12_readsNumber 40 = .ok (.aload_n 0, 1) := by decide +kernel
theorem dX12_readsNumber_41 : decode cX12_readsNumber 41 = .ok (.getfield 158, 3) := by decide +kernel
theorem dX12_readsNumber_44 : decode cX12_readsNumber 44 = .ok (.imul, 1) := by decide +kernel
theorem dX12_readsNumber_45 : decode cX12_readsNumber 45 = .ok (.aload_n 0, 1) := by decide +kernel
theorem dX12_readsNumber_46 : decode cX12_readsNumber 46 = .ok (.invokevirtual 165, 3) := by decide +kernel
theorem dX12_readsNumber_49 : decode cX12_readsNumber 49 = .ok (.iadd, 1) := by decide +kernel
theorem dX12_readsNumber_50 : decode cX12_readsNumber 50 = .ok (.bipush 48, 2) := by decide +kernel
theorem dX12_readsNumber_52 : decode cX12_readsNumber 52 = .ok (.isub, 1) := by decide +kernel
theorem dX12_readsNumber_53 : decode cX12_readsNumber 53 = .ok (.putfield 158, 3) := by decide +kernel
theorem dX12_readsNumber_56 : decode cX12_readsNumber 56 = .ok (.aload_n 0, 1) := by decide +kernel
theorem dX12_readsNumber_57 : decode cX12_readsNumber 57 = .ok (.aload_n 0, 1) := by decide +kernel
theorem dX12_readsNumber_58 : decode cX12_readsNumber 58 = .ok (.getfield 155, 3) := by decide +kernel
theorem dX12_readsNumber_61 : decode cX12_readsNumber 61 = .ok (.iconst 1, 1) := by decide +kernel
theorem dX12_readsNumber_62 : decode cX12_readsNumber 62 = .ok (.iadd, 1) := by decide +kernel
theorem dX12_readsNumber_63 : decode cX12_readsNumber 63 = .ok (.putfield 155, 3) := by decide +kernel
theorem dX12_readsNumber_66 : decode cX12_readsNumber 66 = .ok (.goto (-56), 3) := by decide +kernel
theorem dX12_readsNumber_69 : decode cX12_readsNumber 69 = .ok (.iconst 1, 1) := by decide +kernel
theorem dX12_readsNumber_70 : decode cX12_readsNumber 70 = .ok (.ireturn, 1) := by decide +kernel
theorem dX12_readsRule_0 : decode cX12_readsRule 0 = .ok (.aload_n 0, 1) := by decide +kernel
theorem dX12_readsRule_1 : decode cX12_readsRule 1 = .ok (.invokevirtual 165, 3) := by decide +kernel
theorem dX12_readsRule_4 : decode cX12_readsRule 4 = .ok (.istore_n 1, 1) := by decide +kernel
theorem dX12_readsRule_5 : decode cX12_readsRule 5 = .ok (.iload_n 1, 1) := by decide +kernel
theorem dX12_readsRule_6 : decode cX12_readsRule 6 = .ok (.bipush 97, 2) := by decide +kernel
theorem dX12_readsRule_8 : decode cX12_readsRule 8 = .ok (.if_icmp .ne 7, 3) := by decide +kernel
theorem dX12_readsRule_11 : decode cX12_readsRule 11 = .ok (.iconst 0, 1) := by decide +kernel
theorem dX12_readsRule_12 : decode cX12_readsRule 12 = .ok (.goto 44, 3) := by decide +kernel
theorem dX12_readsRule_15 : decode cX12_readsRule 15 = .ok (.iload_n 1, 1) := by decide +kernel
theorem dX12_readsRule_16 : decode cX12_readsRule 16 = .ok (.bipush 115, 2) := by decide +kernel
theorem dX12_readsRule_18 : decode cX12_readsRule 18 = .ok (.if_icmp .ne 7, 3) := by decide +kernel
theorem dX12_readsRule_21 : decode cX12_readsRule 21 = .ok (.iconst 1, 1) := by decide +kernel
theorem dX12_readsRule_22 : decode cX12_readsRule 22 = .ok (.goto 34, 3) := by decide +kernel
theorem dX12_readsRule_25 : decode cX12_readsRule 25 = .ok (.iload_n 1, 1) := by decide +kernel
theorem dX12_readsRule_26 : decode cX12_readsRule 26 = .ok (.bipush 110, 2) := by decide +kernel
theorem dX12_readsRule_28 : decode cX12_readsRule 28 = .ok (.if_icmp .ne 7, 3) := by decide +kernel
theorem dX12_readsRule_31 : decode cX12_readsRule 31 = .ok (.iconst 2, 1) := by decide +kernel
theorem dX12_readsRule_32 : decode cX12_readsRule 32 = .ok (.goto 24, 3) := by decide +kernel
theorem dX12_readsRule_35 : decode cX12_readsRule 35 = .ok (.iload_n 1, 1) := by decide +kernel
theorem dX12_readsRule_36 : decode cX12_readsRule 36 = .ok (.bipush 43, 2) := by decide +kernel
theorem dX12_readsRule_38 : decode cX12_readsRule 38 = .ok (.if_icmp .ne 7, 3) := by decide +kernel
theorem dX12_readsRule_41 : decode cX12_readsRule 41 = .ok (.iconst 3, 1) := by decide +kernel
theorem dX12_readsRule_42 : decode cX12_readsRule 42 = .ok (.goto 14, 3) := by decide +kernel
theorem dX12_readsRule_45 : decode cX12_readsRule 45 = .ok (.iload_n 1, 1) := by decide +kernel
theorem dX12_readsRule_46 : decode cX12_readsRule 46 = .ok (.bipush 42, 2) := by decide +kernel
theorem dX12_readsRule_48 : decode cX12_readsRule 48 = .ok (.if_icmp .ne 7, 3) := by decide +kernel
theorem dX12_readsRule_51 : decode cX12_readsRule 51 = .ok (.iconst 4, 1) := by decide +kernel
theorem dX12_readsRule_52 : decode cX12_readsRule 52 = .ok (.goto 4, 3) := by decide +kernel
theorem dX12_readsRule_55 : decode cX12_readsRule 55 = .ok (.iconst (-1), 1) := by decide +kernel
theorem dX12_readsRule_56 : decode cX12_readsRule 56 = .ok (.istore_n 2, 1) := by decide +kernel
theorem dX12_readsRule_57 : decode cX12_readsRule 57 = .ok (.iload_n 2, 1) := by decide +kernel
theorem dX12_readsRule_58 : decode cX12_readsRule 58 = .ok (.iconst (-1), 1) := by decide +kernel
theorem dX12_readsRule_59 : decode cX12_readsRule 59 = .ok (.if_icmp .ne 13, 3) := by decide +kernel
theorem dX12_readsRule_62 : decode cX12_readsRule 62 = .ok (.aload_n 0, 1) := by decide +kernel
theorem dX12_readsRule_63 : decode cX12_readsRule 63 = .ok (.iconst 1, 1) := by decide +kernel
theorem dX12_readsRule_64 : decode cX12_readsRule 64 = .ok (.aload_n 0, 1) := by decide +kernel
theorem dX12_readsRule_65 : decode cX12_readsRule 65 = .ok (.getfield 155, 3) := by decide +kernel
theorem dX12_readsRule_68 : decode cX12_readsRule 68 = .ok (.invokevirtual 169, 3) := by decide +kernel
theorem dX12_readsRule_71 : decode cX12_readsRule 71 = .ok (.ireturn, 1) := by decide +kernel
theorem dX12_readsRule_72 : decode cX12_readsRule 72 = .ok (.aload_n 0, 1) := by decide +kernel
theorem dX12_readsRule_73 : decode cX12_readsRule 73 = .ok (.aload_n 0, 1) := by decide +kernel
theorem dX12_readsRule_74 : decode cX12_readsRule 74 = .ok (.getfield 155, 3) := by decide +kernel
theorem dX12_readsRule_77 : decode cX12_readsRule 77 = .ok (.iconst 1, 1) := by decide +kernel
theorem dX12_readsRule_78 : decode cX12_readsRule 78 = .ok (.iadd, 1) := by decide +kernel
theorem dX12_readsRule_79 : decode cX12_readsRule 79 = .ok (.putfield 155, 3) := by decide +kernel
theorem dX12_readsRule_82 : decode cX12_readsRule 82 = .ok (.aload_n 0, 1) := by decide +kernel
theorem dX12_readsRule_83 : decode cX12_readsRule 83 = .ok (.getfield 35, 3) := by decide +kernel
theorem dX12_readsRule_86 : decode cX12_readsRule 86 = .ok (.aload_n 0, 1) := by decide +kernel
theorem dX12_readsRule_87 : decode cX12_readsRule 87 = .ok (.getfield 173, 3) := by decide +kernel
theorem dX12_readsRule_90 : decode cX12_readsRule 90 = .ok (.iload_n 2, 1) := by decide +kernel
theorem dX12_readsRule_91 : decode cX12_readsRule 91 = .ok (.iastore, 1) := by decide +kernel
theorem dX12_readsRule_92 : decode cX12_readsRule 92 = .ok (.aload_n 0, 1) := by decide +kernel
theorem dX12_readsRule_93 : decode cX12_readsRule 93 = .ok (.getfield 41, 3) := by decide +kernel
theorem dX12_readsRule_96 : decode cX12_readsRule 96 = .ok (.aload_n 0, 1) := by decide +kernel
theorem dX12_readsRule_97 : decode cX12_readsRule 97 = .ok (.getfield 173, 3) := by decide +kernel
theorem dX12_readsRule_100 : decode cX12_readsRule 100 = .ok (.bipush (-2), 2) := by decide +kernel
theorem dX12_readsRule_102 : decode cX12_readsRule 102 = .ok (.iastore, 1) := by decide +kernel
theorem dX12_readsRule_103 : decode cX12_readsRule 103 = .ok (.iload_n 2, 1) := by decide +kernel
theorem dX12_readsRule_104 : decode cX12_readsRule 104 = .ok (.iconst 3, 1) := by decide +kernel
theorem dX12_readsRule_105 : decode cX12_readsRule 105 = .ok (.if_icmp .eq 8, 3) := by decide +kernel
theorem dX12_readsRule_108 : decode cX12_readsRule 108 = .ok (.iload_n 2, 1) := by decide +kernel
theorem dX12_readsRule_109 : decode cX12_readsRule 109 = .ok (.iconst 4, 1) := by decide +kernel
theorem dX12_readsRule_110 : decode cX12_readsRule 110 = .ok (.if_icmp .ne 8, 3) := by decide +kernel
theorem dX12_readsRule_113 : decode cX12_readsRule 113 = .ok (.aload_n 0, 1) := by decide +kernel
theorem dX12_readsRule_114 : decode cX12_readsRule 114 = .ok (.invokevirtual 183, 3) := by decide +kernel
theorem dX12_readsRule_117 : decode cX12_readsRule 117 = .ok (.ireturn, 1) := by decide +kernel
theorem dX12_readsRule_118 : decode cX12_readsRule 118 = .ok (.iload_n 2, 1) := by decide +kernel
theorem dX12_readsRule_119 : decode cX12_readsRule 119 = .ok (.ifCond .ne 48, 3) := by decide +kernel
theorem dX12_readsRule_122 : decode cX12_readsRule 122 = .ok (.aload_n 0, 1) := by decide +kernel
theorem dX12_readsRule_123 : decode cX12_readsRule 123 = .ok (.invokevirtual 161, 3) := by decide +kernel
theorem dX12_readsRule_126 : decode cX12_readsRule 126 = .ok (.ifCond .ne 13, 3) := by decide +kernel
theorem dX12_readsRule_129 : decode cX12_readsRule 129 = .ok (.aload_n 0, 1) := by decide +kernel
theorem dX12_readsRule_130 : decode cX12_readsRule 130 = .ok (.iconst 1, 1) := by decide +kernel
theorem dX12_readsRule_131 : decode cX12_readsRule 131 = .ok (.aload_n 0, 1) := by decide +kernel
theorem dX12_readsRule_132 : decode cX12_readsRule 132 = .ok (.getfield 155, 3) := by decide +kernel
theorem dX12_readsRule_135 : decode cX12_readsRule 135 = .ok (.invokevirtual 169, 3) := by decide +kernel
theorem dX12_readsRule_138 : decode cX12_readsRule 138 = .ok (.ireturn, 1) := by decide +kernel
theorem dX12_readsRule_139 : decode cX12_readsRule 139 = .ok (.aload_n 0, 1) := by decide +kernel
theorem dX12_readsRule_140 : decode cX12_readsRule 140 = .ok (.getfield 38, 3) := by decide +kernel
theorem dX12_readsRule_143 : decode cX12_readsRule 143 = .ok (.aload_n 0, 1) := by decide +kernel
theorem dX12_readsRule_144 : decode cX12_readsRule 144 = .ok (.getfield 173, 3) := by decide +kernel
theorem dX12_readsRule_147 : decode cX12_readsRule 147 = .ok (.aload_n 0, 1) := by decide +kernel
theorem dX12_readsRule_148 : decode cX12_readsRule 148 = .ok (.invokevirtual 165, 3) := by decide +kernel
theorem dX12_readsRule_151 : decode cX12_readsRule 151 = .ok (.bipush 48, 2) := by decide +kernel
theorem dX12_readsRule_153 : decode cX12_readsRule 153 = .ok (.isub, 1) := by decide +kernel
theorem dX12_readsRule_154 : decode cX12_readsRule 154 = .ok (.iastore, 1) := by decide +kernel
theorem dX12_readsRule_155 : decode cX12_readsRule 155 = .ok (.aload_n 0, 1) := by decide +kernel
theorem dX12_readsRule_156 : decode cX12_readsRule 156 = .ok (.aload_n 0, 1) := by decide +kernel
theorem dX12_readsRule_157 : decode cX12_readsRule 157 = .ok (.getfield 155, 3) := by decide +kernel
theorem dX12_readsRule_160 : decode cX12_readsRule 160 = .ok (.iconst 1, 1) := by decide +kernel
theorem dX12_readsRule_161 : decode cX12_readsRule 161 = .ok (.iadd, 1) := by decide +kernel
theorem dX12_readsRule_162 : decode cX12_readsRule 162 = .ok (.putfield 155, 3) := by decide +kernel
theorem dX12_readsRule_165 : decode cX12_readsRule 165 = .ok (.iconst 1, 1) := by decide +kernel
theorem dX12_readsRule_166 : decode cX12_readsRule 166 = .ok (.ireturn, 1) := by decide +kernel
theorem dX12_readsRule_167 : decode cX12_readsRule 167 = .ok (.aload_n 0, 1) := by decide +kernel
theorem dX12_readsRule_168 : decode cX12_readsRule 168 = .ok (.aload_n 0, 1) := by decide +kernel
theorem dX12_readsRule_169 : decode cX12_readsRule 169 = .ok (.getfield 173, 3) := by decide +kernel
theorem dX12_readsRule_172 : decode cX12_readsRule 172 = .ok (.bipush 6, 2) := by decide +kernel
theorem dX12_readsRule_174 : decode cX12_readsRule 174 = .ok (.invokevirtual 176, 3) := by decide +kernel
theorem dX12_readsRule_177 : decode cX12_readsRule 177 = .ok (.ifCond .ne 5, 3) := by decide +kernel
theorem dX12_readsRule_180 : decode cX12_readsRule 180 = .ok (.iconst 0, 1) := by decide +kernel
theorem dX12_readsRule_181 : decode cX12_readsRule 181 = .ok (.ireturn, 1) := by decide +kernel
theorem dX12_readsRule_182 : decode cX12_readsRule 182 = .ok (.aload_n 0, 1) := by decide +kernel
theorem dX12_readsRule_183 : decode cX12_readsRule 183 = .ok (.getfield 38, 3) := by decide +kernel
theorem dX12_readsRule_186 : decode cX12_readsRule 186 = .ok (.aload_n 0, 1) := by decide +kernel
theorem dX12_readsRule_187 : decode cX12_readsRule 187 = .ok (.getfield 173, 3) := by decide +kernel
theorem dX12_readsRule_190 : decode cX12_readsRule 190 = .ok (.aload_n 0, 1) := by decide +kernel
theorem dX12_readsRule_191 : decode cX12_readsRule 191 = .ok (.getfield 158, 3) := by decide +kernel
theorem dX12_readsRule_194 : decode cX12_readsRule 194 = .ok (.iastore, 1) := by decide +kernel
theorem dX12_readsRule_195 : decode cX12_readsRule 195 = .ok (.iconst 1, 1) := by decide +kernel
theorem dX12_readsRule_196 : decode cX12_readsRule 196 = .ok (.ireturn, 1) := by decide +kernel
theorem dX12_readsSum_0 : decode cX12_readsSum 0 = .ok (.aload_n 0, 1) := by decide +kernel
theorem dX12_readsSum_1 : decode cX12_readsSum 1 = .ok (.getfield 245, 3) := by decide +kernel
theorem dX12_readsSum_4 : decode cX12_readsSum 4 = .ok (.istore_n 1, 1) := by decide +kernel
theorem dX12_readsSum_5 : decode cX12_readsSum 5 = .ok (.aload_n 0, 1) := by decide +kernel
theorem dX12_readsSum_6 : decode cX12_readsSum 6 = .ok (.invokevirtual 264, 3) := by decide +kernel
theorem dX12_readsSum_9 : decode cX12_readsSum 9 = .ok (.ifCond .ne 5, 3) := by decide +kernel
theorem dX12_readsSum_12 : decode cX12_readsSum 12 = .ok (.iconst 0, 1) := by decide +kernel
theorem dX12_readsSum_13 : decode cX12_readsSum 13 = .ok (.ireturn, 1) := by decide +kernel
theorem dX12_readsSum_14 : decode cX12_readsSum 14 = .ok (.aload_n 0, 1) := by decide +kernel
theorem dX12_readsSum_15 : decode cX12_readsSum 15 = .ok (.invokevirtual 165, 3) := by decide +kernel
theorem dX12_readsSum_18 : decode cX12_readsSum 18 = .ok (.invokestatic 267, 3) := by decide +kernel
theorem dX12_readsSum_21 : decode cX12_readsSum 21 = .ok (.istore_n 2, 1) := by decide +kernel
theorem dX12_readsSum_22 : decode cX12_readsSum 22 = .ok (.iload_n 2, 1) := by decide +kernel
theorem dX12_readsSum_23 : decode cX12_readsSum 23 = .ok (.iconst (-1), 1) := by decide +kernel
theorem dX12_readsSum_24 : decode cX12_readsSum 24 = .ok (.if_icmp .eq 59, 3) := by decide +kernel
theorem dX12_readsSum_27 : decode cX12_readsSum 27 = .ok (.aload_n 0, 1) := by decide +kernel
theorem dX12_readsSum_28 : decode cX12_readsSum 28 = .ok (.iload_n 2, 1) := by decide +kernel
theorem dX12_readsSum_29 : decode cX12_readsSum 29 = .ok (.iconst 4, 1) := by decide +kernel
theorem dX12_readsSum_30 : decode cX12_readsSum 30 = .ok (.if_icmp .ge 7, 3) := by decide +kernel
theorem dX12_readsSum_33 : decode cX12_readsSum 33 = .ok (.iconst 1, 1) := by decide +kernel
theorem dX12_readsSum_34 : decode cX12_readsSum 34 = .ok (.goto 4, 3) := by decide +kernel
theorem dX12_readsSum_37 : decode cX12_readsSum 37 = .ok (.iconst 0, 1) := by decide +kernel
theorem dX12_readsSum_38 : decode cX12_readsSum 38 = .ok (.invokevirtual 270, 3) := by decide +kernel
theorem dX12_readsSum_41 : decode cX12_readsSum 41 = .ok (.aload_n 0, 1) := by decide +kernel
theorem dX12_readsSum_42 : decode cX12_readsSum 42 = .ok (.getfield 59, 3) := by decide +kernel
theorem dX12_readsSum_45 : decode cX12_readsSum 45 = .ok (.aload_n 0, 1) := by decide +kernel
theorem dX12_readsSum_46 : decode cX12_readsSum 46 = .ok (.getfield 245, 3) := by decide +kernel
theorem dX12_readsSum_49 : decode cX12_readsSum 49 = .ok (.ldc 241, 2) := by decide +kernel
theorem dX12_readsSum_51 : decode cX12_readsSum 51 = .ok (.iload_n 2, 1) := by decide +kernel
theorem dX12_readsSum_52 : decode cX12_readsSum 52 = .ok (.imul, 1) := by decide +kernel
theorem dX12_readsSum_53 : decode cX12_readsSum 53 = .ok (.iastore, 1) := by decide +kernel
theorem dX12_readsSum_54 : decode cX12_readsSum 54 = .ok (.aload_n 0, 1) := by decide +kernel
theorem dX12_readsSum_55 : decode cX12_readsSum 55 = .ok (.aload_n 0, 1) := by decide +kernel
theorem dX12_readsSum_56 : decode cX12_readsSum 56 = .ok (.getfield 245, 3) := by decide +kernel
theorem dX12_readsSum_59 : decode cX12_readsSum 59 = .ok (.iconst 1, 1) := by decide +kernel
theorem dX12_readsSum_60 : decode cX12_readsSum 60 = .ok (.iadd, 1) := by decide +kernel
theorem dX12_readsSum_61 : decode cX12_readsSum 61 = .ok (.putfield 245, 3) := by decide +kernel
theorem dX12_readsSum_64 : decode cX12_readsSum 64 = .ok (.aload_n 0, 1) := by decide +kernel
theorem dX12_readsSum_65 : decode cX12_readsSum 65 = .ok (.aload_n 0, 1) := by decide +kernel
theorem dX12_readsSum_66 : decode cX12_readsSum 66 = .ok (.getfield 155, 3) := by decide +kernel
theorem dX12_readsSum_69 : decode cX12_readsSum 69 = .ok (.iconst 1, 1) := by decide +kernel
theorem dX12_readsSum_70 : decode cX12_readsSum 70 = .ok (.iadd, 1) := by decide +kernel
theorem dX12_readsSum_71 : decode cX12_readsSum 71 = .ok (.putfield 155, 3) := by decide +kernel
theorem dX12_readsSum_74 : decode cX12_readsSum 74 = .ok (.aload_n 0, 1) := by decide +kernel
theorem dX12_readsSum_75 : decode cX12_readsSum 75 = .ok (.invokevirtual 264, 3) := by decide +kernel
theorem dX12_readsSum_78 : decode cX12_readsSum 78 = .ok (.ifCond .ne 85, 3) := by decide +kernel
theorem dX12_readsSum_81 : decode cX12_readsSum 81 = .ok (.iconst 0, 1) := by decide +kernel
theorem dX12_readsSum_82 : decode cX12_readsSum 82 = .ok (.ireturn, 1) := by decide +kernel
theorem dX12_readsSum_83 : decode cX12_readsSum 83 = .ok (.aload_n 0, 1) := by decide +kernel
theorem dX12_readsSum_84 : decode cX12_readsSum 84 = .ok (.invokevirtual 165, 3) := by decide +kernel
theorem dX12_readsSum_87 : decode cX12_readsSum 87 = .ok (.bipush 93, 2) := by decide +kernel
theorem dX12_readsSum_89 : decode cX12_readsSum 89 = .ok (.if_icmp .ne 49, 3) := by decide +kernel
theorem dX12_readsSum_92 : decode cX12_readsSum 92 = .ok (.aload_n 0, 1) := by decide +kernel
theorem dX12_readsSum_93 : decode cX12_readsSum 93 = .ok (.iload_n 1, 1) := by decide +kernel
theorem dX12_readsSum_94 : decode cX12_readsSum 94 = .ok (.invokevirtual 274, 3) := by decide +kernel
theorem dX12_readsSum_97 : decode cX12_readsSum 97 = .ok (.ifCond .eq 41, 3) := by decide +kernel
theorem dX12_readsSum_100 : decode cX12_readsSum 100 = .ok (.aload_n 0, 1) := by decide +kernel
theorem dX12_readsSum_101 : decode cX12_readsSum 101 = .ok (.iconst 1, 1) := by decide +kernel
theorem dX12_readsSum_102 : decode cX12_readsSum 102 = .ok (.invokevirtual 270, 3) := by decide +kernel
theorem dX12_readsSum_105 : decode cX12_readsSum 105 = .ok (.aload_n 0, 1) := by decide +kernel
theorem dX12_readsSum_106 : decode cX12_readsSum 106 = .ok (.aload_n 0, 1) := by decide +kernel
theorem dX12_readsSum_107 : decode cX12_readsSum 107 = .ok (.getfield 245, 3) := by decide +kernel
theorem dX12_readsSum_110 : decode cX12_readsSum 110 = .ok (.iconst 1, 1) := by decide +kernel
theorem dX12_readsSum_111 : decode cX12_readsSum 111 = .ok (.isub, 1) := by decide +kernel
theorem dX12_readsSum_112 : decode cX12_readsSum 112 = .ok (.putfield 245, 3) := by decide +kernel
theorem dX12_readsSum_115 : decode cX12_readsSum 115 = .ok (.aload_n 0, 1) := by decide +kernel
theorem dX12_readsSum_116 : decode cX12_readsSum 116 = .ok (.aload_n 0, 1) := by decide +kernel
theorem dX12_readsSum_117 : decode cX12_readsSum 117 = .ok (.getfield 242, 3) := by decide +kernel
theorem dX12_readsSum_120 : decode cX12_readsSum 120 = .ok (.iconst 1, 1) := by decide +kernel
theorem dX12_readsSum_121 : decode cX12_readsSum 121 = .ok (.isub, 1) := by decide +kernel
theorem dX12_readsSum_122 : decode cX12_readsSum 122 = .ok (.putfield 242, 3) := by decide +kernel
theorem dX12_readsSum_125 : decode cX12_readsSum 125 = .ok (.aload_n 0, 1) := by decide +kernel
theorem dX12_readsSum_126 : decode cX12_readsSum 126 = .ok (.aload_n 0, 1) := by decide +kernel
theorem dX12_readsSum_127 : decode cX12_readsSum 127 = .ok (.getfield 155, 3) := by decide +kernel
theorem dX12_readsSum_130 : decode cX12_readsSum 130 = .ok (.iconst 1, 1) := by decide +kernel
theorem dX12_readsSum_131 : decode cX12_readsSum 131 = .ok (.iadd, 1) := by decide +kernel
theorem dX12_readsSum_132 : decode cX12_readsSum 132 = .ok (.putfield 155, 3) := by decide +kernel
theorem dX12_readsSum_135 : decode cX12_readsSum 135 = .ok (.goto 28, 3) := by decide +kernel
theorem dX12_readsSum_138 : decode cX12_readsSum 138 = .ok (.aload_n 0, 1) := by decide +kernel
theorem dX12_readsSum_139 : decode cX12_readsSum 139 = .ok (.iload_n 1, 1) := by decide +kernel
theorem dX12_readsSum_140 : decode cX12_readsSum 140 = .ok (.invokevirtual 274, 3) := by decide +kernel
theorem dX12_readsSum_143 : decode cX12_readsSum 143 = .ok (.ifCond .eq 13, 3) := by decide +kernel
theorem dX12_readsSum_146 : decode cX12_readsSum 146 = .ok (.aload_n 0, 1) := by decide +kernel
theorem dX12_readsSum_147 : decode cX12_readsSum 147 = .ok (.iconst 1, 1) := by decide +kernel
theorem dX12_readsSum_148 : decode cX12_readsSum 148 = .ok (.aload_n 0, 1) := by decide +kernel
theorem dX12_readsSum_149 : decode cX12_readsSum 149 = .ok (.getfield 155, 3) := by decide +kernel
theorem dX12_readsSum_152 : decode cX12_readsSum 152 = .ok (.invokevirtual 169, 3) := by decide +kernel
theorem dX12_readsSum_155 : decode cX12_readsSum 155 = .ok (.ireturn, 1) := by decide +kernel
theorem dX12_readsSum_156 : decode cX12_readsSum 156 = .ok (.aload_n 0, 1) := by decide +kernel
theorem dX12_readsSum_157 : decode cX12_readsSum 157 = .ok (.iconst 1, 1) := by decide +kernel
theorem dX12_readsSum_158 : decode cX12_readsSum 158 = .ok (.invokevirtual 270, 3) := by decide +kernel
theorem dX12_readsSum_161 : decode cX12_readsSum 161 = .ok (.iconst 1, 1) := by decide +kernel
theorem dX12_readsSum_162 : decode cX12_readsSum 162 = .ok (.ireturn, 1) := by decide +kernel
theorem dX12_readsSum_163 : decode cX12_readsSum 163 = .ok (.goto (-149), 3) := by decide +kernel
theorem dX12_readsTwoLines_0 : decode cX12_readsTwoLines 0 = .ok (.aload_n 0, 1) := by decide +kernel
theorem dX12_readsTwoLines_1 : decode cX12_readsTwoLines 1 = .ok (.aload_n 0, 1) := by decide +kernel
theorem dX12_readsTwoLines_2 : decode cX12_readsTwoLines 2 = .ok (.getfield 173, 3) := by decide +kernel
theorem dX12_readsTwoLines_5 : decode cX12_readsTwoLines 5 = .ok (.bipush 6, 2) := by decide +kernel
theorem dX12_readsTwoLines_7 : decode cX12_readsTwoLines 7 = .ok (.invokevirtual 176, 3) := by decide +kernel
theorem dX12_readsTwoLines_10 : decode cX12_readsTwoLines 10 = .ok (.ifCond .ne 5, 3) := by decide +kernel
theorem dX12_readsTwoLines_13 : decode cX12_readsTwoLines 13 = .ok (.iconst 0, 1) := by decide +kernel
theorem dX12_readsTwoLines_14 : decode cX12_readsTwoLines 14 = .ok (.ireturn, 1) := by decide +kernel
theorem dX12_readsTwoLines_15 : decode cX12_readsTwoLines 15 = .ok (.aload_n 0, 1) := by decide +kernel
theorem dX12_readsTwoLines_16 : decode cX12_readsTwoLines 16 = .ok (.getfield 38, 3) := by decide +kernel
theorem dX12_readsTwoLines_19 : decode cX12_readsTwoLines 19 = .ok (.aload_n 0, 1) := by decide +kernel
theorem dX12_readsTwoLines_20 : decode cX12_readsTwoLines 20 = .ok (.getfield 173, 3) := by decide +kernel
theorem dX12_readsTwoLines_23 : decode cX12_readsTwoLines 23 = .ok (.aload_n 0, 1) := by decide +kernel
theorem dX12_readsTwoLines_24 : decode cX12_readsTwoLines 24 = .ok (.getfield 158, 3) := by decide +kernel
theorem dX12_readsTwoLines_27 : decode cX12_readsTwoLines 27 = .ok (.iastore, 1) := by decide +kernel
theorem dX12_readsTwoLines_28 : decode cX12_readsTwoLines 28 = .ok (.aload_n 0, 1) := by decide +kernel
theorem dX12_readsTwoLines_29 : decode cX12_readsTwoLines 29 = .ok (.bipush 44, 2) := by decide +kernel
theorem dX12_readsTwoLines_31 : decode cX12_readsTwoLines 31 = .ok (.invokevirtual 179, 3) := by decide +kernel
theorem dX12_readsTwoLines_34 : decode cX12_readsTwoLines 34 = .ok (.ifCond .eq 16, 3) := by decide +kernel
theorem dX12_readsTwoLines_37 : decode cX12_readsTwoLines 37 = .ok (.aload_n 0, 1) := by decide +kernel
theorem dX12_readsTwoLines_38 : decode cX12_readsTwoLines 38 = .ok (.aload_n 0, 1) := by decide +kernel
theorem dX12_readsTwoLines_39 : decode cX12_readsTwoLines 39 = .ok (.getfield 173, 3) := by decide +kernel
theorem dX12_readsTwoLines_42 : decode cX12_readsTwoLines 42 = .ok (.bipush 6, 2) := by decide +kernel
theorem dX12_readsTwoLines_44 : decode cX12_readsTwoLines 44 = .ok (.invokevirtual 176, 3) := by decide +kernel
theorem dX12_readsTwoLines_47 : decode cX12_readsTwoLines 47 = .ok (.ifCond .ne 5, 3) := by decide +kernel
theorem dX12_readsTwoLines_50 : decode cX12_readsTwoLines 50 = .ok (.iconst 0, 1) := by decide +kernel
theorem dX12_readsTwoLines_51 : decode cX12_readsTwoLines 51 = .ok (.ireturn, 1) := by decide +kernel
theorem dX12_readsTwoLines_52 : decode cX12_readsTwoLines 52 = .ok (.aload_n 0, 1) := by decide +kernel
theorem dX12_readsTwoLines_53 : decode cX12_readsTwoLines 53 = .ok (.getfield 41, 3) := by decide +kernel
theorem dX12_readsTwoLines_56 : decode cX12_readsTwoLines 56 = .ok (.aload_n 0, 1) := by decide +kernel
theorem dX12_readsTwoLines_57 : decode cX12_readsTwoLines 57 = .ok (.getfield 173, 3) := by decide +kernel
theorem dX12_readsTwoLines_60 : decode cX12_readsTwoLines 60 = .ok (.aload_n 0, 1) := by decide +kernel
theorem dX12_readsTwoLines_61 : decode cX12_readsTwoLines 61 = .ok (.getfield 158, 3) := by decide +kernel
theorem dX12_readsTwoLines_64 : decode cX12_readsTwoLines 64 = .ok (.iastore, 1) := by decide +kernel
theorem dX12_readsTwoLines_65 : decode cX12_readsTwoLines 65 = .ok (.iconst 1, 1) := by decide +kernel
theorem dX12_readsTwoLines_66 : decode cX12_readsTwoLines 66 = .ok (.ireturn, 1) := by decide +kernel
theorem dX12_reckon_0 : decode cX12_reckon 0 = .ok (.iload_n 0, 1) := by decide +kernel
theorem dX12_reckon_1 : decode cX12_reckon 1 = .ok (.tableswitch 85 2 8 #[43, 47, 51, 55, 59, 63, 74], 43) := by decide +kernel
theorem dX12_reckon_44 : decode cX12_reckon 44 = .ok (.iload_n 1, 1) := by decide +kernel
theorem dX12_reckon_45 : decode cX12_reckon 45 = .ok (.iload_n 2, 1) := by decide +kernel
theorem dX12_reckon_46 : decode cX12_reckon 46 = .ok (.iadd, 1) := by decide +kernel
theorem dX12_reckon_47 : decode cX12_reckon 47 = .ok (.ireturn, 1) := by decide +kernel
theorem dX12_reckon_48 : decode cX12_reckon 48 = .ok (.iload_n 1, 1) := by decide +kernel
theorem dX12_reckon_49 : decode cX12_reckon 49 = .ok (.iload_n 2, 1) := by decide +kernel
theorem dX12_reckon_50 : decode cX12_reckon 50 = .ok (.isub, 1) := by decide +kernel
theorem dX12_reckon_51 : decode cX12_reckon 51 = .ok (.ireturn, 1) := by decide +kernel
theorem dX12_reckon_52 : decode cX12_reckon 52 = .ok (.iload_n 1, 1) := by decide +kernel
theorem dX12_reckon_53 : decode cX12_reckon 53 = .ok (.iload_n 2, 1) := by decide +kernel
theorem dX12_reckon_54 : decode cX12_reckon 54 = .ok (.imul, 1) := by decide +kernel
theorem dX12_reckon_55 : decode cX12_reckon 55 = .ok (.ireturn, 1) := by decide +kernel
theorem dX12_reckon_56 : decode cX12_reckon 56 = .ok (.iload_n 1, 1) := by decide +kernel
theorem dX12_reckon_57 : decode cX12_reckon 57 = .ok (.iload_n 2, 1) := by decide +kernel
theorem dX12_reckon_58 : decode cX12_reckon 58 = .ok (.idiv, 1) := by decide +kernel
theorem dX12_reckon_59 : decode cX12_reckon 59 = .ok (.ireturn, 1) := by decide +kernel
theorem dX12_reckon_60 : decode cX12_reckon 60 = .ok (.iload_n 1, 1) := by decide +kernel
theorem dX12_reckon_61 : decode cX12_reckon 61 = .ok (.iload_n 2, 1) := by decide +kernel
theorem dX12_reckon_62 : decode cX12_reckon 62 = .ok (.irem, 1) := by decide +kernel
theorem dX12_reckon_63 : decode cX12_reckon 63 = .ok (.ireturn, 1) := by decide +kernel
theorem dX12_reckon_64 : decode cX12_reckon 64 = .ok (.iload_n 1, 1) := by decide +kernel
theorem dX12_reckon_65 : decode cX12_reckon 65 = .ok (.iload_n 2, 1) := by decide +kernel
theorem dX12_reckon_66 : decode cX12_reckon 66 = .ok (.if_icmp .ge 7, 3) := by decide +kernel
theorem dX12_reckon_69 : decode cX12_reckon 69 = .ok (.iconst 1, 1) := by decide +kernel
theorem dX12_reckon_70 : decode cX12_reckon 70 = .ok (.goto 4, 3) := by decide +kernel
theorem dX12_reckon_73 : decode cX12_reckon 73 = .ok (.iconst 0, 1) := by decide +kernel
theorem dX12_reckon_74 : decode cX12_reckon 74 = .ok (.ireturn, 1) := by decide +kernel
theorem dX12_reckon_75 : decode cX12_reckon 75 = .ok (.iload_n 1, 1) := by decide +kernel
theorem dX12_reckon_76 : decode cX12_reckon 76 = .ok (.iload_n 2, 1) := by decide +kernel
theorem dX12_reckon_77 : decode cX12_reckon 77 = .ok (.if_icmp .le 7, 3) := by decide +kernel
theorem dX12_reckon_80 : decode cX12_reckon 80 = .ok (.iconst 1, 1) := by decide +kernel
theorem dX12_reckon_81 : decode cX12_reckon 81 = .ok (.goto 4, 3) := by decide +kernel
theorem dX12_reckon_84 : decode cX12_reckon 84 = .ok (.iconst 0, 1) := by decide +kernel
theorem dX12_reckon_85 : decode cX12_reckon 85 = .ok (.ireturn, 1) := by decide +kernel
theorem dX12_reckon_86 : decode cX12_reckon 86 = .ok (.iload_n 1, 1) := by decide +kernel
theorem dX12_reckon_87 : decode cX12_reckon 87 = .ok (.iload_n 2, 1) := by decide +kernel
theorem dX12_reckon_88 : decode cX12_reckon 88 = .ok (.if_icmp .ne 7, 3) := by decide +kernel
theorem dX12_reckon_91 : decode cX12_reckon 91 = .ok (.iconst 1, 1) := by decide +kernel
theorem dX12_reckon_92 : decode cX12_reckon 92 = .ok (.goto 4, 3) := by decide +kernel
theorem dX12_reckon_95 : decode cX12_reckon 95 = .ok (.iconst 0, 1) := by decide +kernel
theorem dX12_reckon_96 : decode cX12_reckon 96 = .ok (.ireturn, 1) := by decide +kernel
theorem dX12_referred_0 : decode cX12_referred 0 = .ok (.iload_n 1, 1) := by decide +kernel
theorem dX12_referred_1 : decode cX12_referred 1 = .ok (.iconst 0, 1) := by decide +kernel
theorem dX12_referred_2 : decode cX12_referred 2 = .ok (.iconst 3, 1) := by decide +kernel
theorem dX12_referred_3 : decode cX12_referred 3 = .ok (.invokestatic 141, 3) := by decide +kernel
theorem dX12_referred_6 : decode cX12_referred 6 = .ok (.ifCond .eq 10, 3) := by decide +kernel
theorem dX12_referred_9 : decode cX12_referred 9 = .ok (.aload_n 0, 1) := by decide +kernel
theorem dX12_referred_10 : decode cX12_referred 10 = .ok (.invokevirtual 232, 3) := by decide +kernel
theorem dX12_referred_13 : decode cX12_referred 13 = .ok (.ifCond .ne 5, 3) := by decide +kernel
theorem dX12_referred_16 : decode cX12_referred 16 = .ok (.iconst (-1), 1) := by decide +kernel
theorem dX12_referred_17 : decode cX12_referred 17 = .ok (.ireturn, 1) := by decide +kernel
theorem dX12_referred_18 : decode cX12_referred 18 = .ok (.iconst 0, 1) := by decide +kernel
theorem dX12_referred_19 : decode cX12_referred 19 = .ok (.istore_n 2, 1) := by decide +kernel
theorem dX12_referred_20 : decode cX12_referred 20 = .ok (.iconst (-1), 1) := by decide +kernel
theorem dX12_referred_21 : decode cX12_referred 21 = .ok (.istore_n 3, 1) := by decide +kernel
theorem dX12_referred_22 : decode cX12_referred 22 = .ok (.iconst 0, 1) := by decide +kernel
theorem dX12_referred_23 : decode cX12_referred 23 = .ok (.istore 4, 2) := by decide +kernel
theorem dX12_referred_25 : decode cX12_referred 25 = .ok (.iload 4, 2) := by decide +kernel
theorem dX12_referred_27 : decode cX12_referred 27 = .ok (.bipush 40, 2) := by decide +kernel
theorem dX12_referred_29 : decode cX12_referred 29 = .ok (.aload_n 0, 1) := by decide +kernel
theorem dX12_referred_30 : decode cX12_referred 30 = .ok (.getfield 145, 3) := by decide +kernel
theorem dX12_referred_33 : decode cX12_referred 33 = .ok (.imul, 1) := by decide +kernel
theorem dX12_referred_34 : decode cX12_referred 34 = .ok (.if_icmp .ge 124, 3) := by decide +kernel
theorem dX12_referred_37 : decode cX12_referred 37 = .ok (.iload 4, 2) := by decide +kernel
theorem dX12_referred_39 : decode cX12_referred 39 = .ok (.bipush 40, 2) := by decide +kernel
theorem dX12_referred_41 : decode cX12_referred 41 = .ok (.idiv, 1) := by decide +kernel
theorem dX12_referred_42 : decode cX12_referred 42 = .ok (.istore 5, 2) := by decide +kernel
theorem dX12_referred_44 : decode cX12_referred 44 = .ok (.iload 4, 2) := by decide +kernel
theorem dX12_referred_46 : decode cX12_referred 46 = .ok (.bipush 20, 2) := by decide +kernel
theorem dX12_referred_48 : decode cX12_referred 48 = .ok (.idiv, 1) := by decide +kernel
theorem dX12_referred_49 : decode cX12_referred 49 = .ok (.iconst 2, 1) := by decide +kernel
theorem dX12_referred_50 : decode cX12_referred 50 = .ok (.irem, 1) := by decide +kernel
theorem dX12_referred_51 : decode cX12_referred 51 = .ok (.istore 6, 2) := by decide +kernel
theorem dX12_referred_53 : decode cX12_referred 53 = .ok (.iload 4, 2) := by decide +kernel
theorem dX12_referred_55 : decode cX12_referred 55 = .ok (.bipush 20, 2) := by decide +kernel
theorem dX12_referred_57 : decode cX12_referred 57 = .ok (.irem, 1) := by decide +kernel
theorem dX12_referred_58 : decode cX12_referred 58 = .ok (.istore 7, 2) := by decide +kernel
theorem dX12_referred_60 : decode cX12_referred 60 = .ok (.aload_n 0, 1) := by decide +kernel
theorem dX12_referred_61 : decode cX12_referred 61 = .ok (.getfield 16, 3) := by decide +kernel
theorem dX12_referred_64 : decode cX12_referred 64 = .ok (.iload 5, 2) := by decide +kernel
theorem dX12_referred_66 : decode cX12_referred 66 = .ok (.iaload, 1) := by decide +kernel
theorem dX12_referred_67 : decode cX12_referred 67 = .ok (.ifCond .eq 85, 3) := by decide +kernel
theorem dX12_referred_70 : decode cX12_referred 70 = .ok (.iload 6, 2) := by decide +kernel
theorem dX12_referred_72 : decode cX12_referred 72 = .ok (.iconst 1, 1) := by decide +kernel
theorem dX12_referred_73 : decode cX12_referred 73 = .ok (.if_icmp .ne 13, 3) := by decide +kernel
theorem dX12_referred_76 : decode cX12_referred 76 = .ok (.aload_n 0, 1) := by decide +kernel
theorem dX12_referred_77 : decode cX12_referred 77 = .ok (.getfield 22, 3) := by decide +kernel
theorem dX12_referred_80 : decode cX12_referred 80 = .ok (.iload 5, 2) := by decide +kernel
theorem dX12_referred_82 : decode cX12_referred 82 = .ok (.iaload, 1) := by decide +kernel
theorem dX12_referred_83 : decode cX12_referred 83 = .ok (.ifCond .lt 69, 3) := by decide +kernel
theorem dX12_referred_86 : decode cX12_referred 86 = .ok (.iload 7, 2) := by decide +kernel
theorem dX12_referred_88 : decode cX12_referred 88 = .ok (.iload 5, 2) := by decide +kernel
theorem dX12_referred_90 : decode cX12_referred 90 = .ok (.if_icmp .ge 62, 3) := by decide +kernel
theorem dX12_referred_93 : decode cX12_referred 93 = .ok (.iload 7, 2) := by decide +kernel
theorem dX12_referred_95 : decode cX12_referred 95 = .ok (.iload 6, 2) := by decide +kernel
theorem dX12_referred_97 : decode cX12_referred 97 = .ok (.ifCond .ne 13, 3) := by decide +kernel
theorem dX12_referred_100 : decode cX12_referred 100 = .ok (.aload_n 0, 1) := by decide +kernel
theorem dX12_referred_101 : decode cX12_referred 101 = .ok (.getfield 19, 3) := by decide +kernel
theorem dX12_referred_104 : decode cX12_referred 104 = .ok (.iload 5, 2) := by decide +kernel
theorem dX12_referred_106 : decode cX12_referred 106 = .ok (.iaload, 1) := by decide +kernel
theorem dX12_referred_107 : decode cX12_referred 107 = .ok (.goto 10, 3) := by decide +kernel
theorem dX12_referred_110 : decode cX12_referred 110 = .ok (.aload_n 0, 1) := by decide +kernel
theorem dX12_referred_111 : decode cX12_referred 111 = .ok (.getfield 22, 3) := by decide +kernel
theorem dX12_referred_114 : decode cX12_referred 114 = .ok (.iload 5, 2) := by decide +kernel
theorem dX12_referred_116 : decode cX12_referred 116 = .ok (.iaload, 1) := by decide +kernel
theorem dX12_referred_117 : decode cX12_referred 117 = .ok (.if_icmp .eq 35, 3) := by decide +kernel
theorem dX12_referred_120 : decode cX12_referred 120 = .ok (.aload_n 0, 1) := by decide +kernel
theorem dX12_referred_121 : decode cX12_referred 121 = .ok (.iload 5, 2) := by decide +kernel
theorem dX12_referred_123 : decode cX12_referred 123 = .ok (.iload 6, 2) := by decide +kernel
theorem dX12_referred_125 : decode cX12_referred 125 = .ok (.iload 7, 2) := by decide +kernel
theorem dX12_referred_127 : decode cX12_referred 127 = .ok (.invokevirtual 235, 3) := by decide +kernel
theorem dX12_referred_130 : decode cX12_referred 130 = .ok (.ifCond .ne 6, 3) := by decide +kernel
theorem dX12_referred_133 : decode cX12_referred 133 = .ok (.goto 19, 3) := by decide +kernel
theorem dX12_referred_136 : decode cX12_referred 136 = .ok (.iload_n 3, 1) := by decide +kernel
theorem dX12_referred_137 : decode cX12_referred 137 = .ok (.iconst (-1), 1) := by decide +kernel
theorem dX12_referred_138 : decode cX12_referred 138 = .ok (.if_icmp .ne 8, 3) := by decide +kernel
theorem dX12_referred_141 : decode cX12_referred 141 = .ok (.iload 4, 2) := by decide +kernel
theorem dX12_referred_143 : decode cX12_referred 143 = .ok (.goto 4, 3) := by decide +kernel
theorem dX12_referred_146 : decode cX12_referred 146 = .ok (.iload_n 3, 1) := by decide +kernel
theorem dX12_referred_147 : decode cX12_referred 147 = .ok (.istore_n 3, 1) := by decide +kernel
theorem dX12_referred_148 : decode cX12_referred 148 = .ok (.iload_n 2, 1) := by decide +kernel
theorem dX12_referred_149 : decode cX12_referred 149 = .ok (.iconst 1, 1) := by decide +kernel
theorem dX12_referred_150 : decode cX12_referred 150 = .ok (.iadd, 1) := by decide +kernel
theorem dX12_referred_151 : decode cX12_referred 151 = .ok (.istore_n 2, 1) := by decide +kernel
theorem dX12_referred_152 : decode cX12_referred 152 = .ok (.iinc 4 1, 3) := by decide +kernel
theorem dX12_referred_155 : decode cX12_referred 155 = .ok (.goto (-130), 3) := by decide +kernel
theorem dX12_referred_158 : decode cX12_referred 158 = .ok (.iload_n 1, 1) := by decide +kernel
theorem dX12_referred_159 : decode cX12_referred 159 = .ok (.ifCond .ne 5, 3) := by decide +kernel
theorem dX12_referred_162 : decode cX12_referred 162 = .ok (.iload_n 2, 1) := by decide +kernel
theorem dX12_referred_163 : decode cX12_referred 163 = .ok (.ireturn, 1) := by decide +kernel
theorem dX12_referred_164 : decode cX12_referred 164 = .ok (.iload_n 3, 1) := by decide +kernel
theorem dX12_referred_165 : decode cX12_referred 165 = .ok (.iconst (-1), 1) := by decide +kernel
theorem dX12_referred_166 : decode cX12_referred 166 = .ok (.if_icmp .ne 8, 3) := by decide +kernel
theorem dX12_referred_169 : decode cX12_referred 169 = .ok (.bipush (-2), 2) := by decide +kernel
theorem dX12_referred_171 : decode cX12_referred 171 = .ok (.goto 33, 3) := by decide +kernel
theorem dX12_referred_174 : decode cX12_referred 174 = .ok (.iload_n 1, 1) := by decide +kernel
theorem dX12_referred_175 : decode cX12_referred 175 = .ok (.iconst 1, 1) := by decide +kernel
theorem dX12_referred_176 : decode cX12_referred 176 = .ok (.if_icmp .ne 10, 3) := by decide +kernel
theorem dX12_referred_179 : decode cX12_referred 179 = .ok (.iload_n 3, 1) := by decide +kernel
theorem dX12_referred_180 : decode cX12_referred 180 = .ok (.bipush 40, 2) := by decide +kernel
theorem dX12_referred_182 : decode cX12_referred 182 = .ok (.idiv, 1) := by decide +kernel
theorem dX12_referred_183 : decode cX12_referred 183 = .ok (.goto 21, 3) := by decide +kernel
theorem dX12_referred_186 : decode cX12_referred 186 = .ok (.iload_n 1, 1) := by decide +kernel
theorem dX12_referred_187 : decode cX12_referred 187 = .ok (.iconst 2, 1) := by decide +kernel
theorem dX12_referred_188 : decode cX12_referred 188 = .ok (.if_icmp .ne 12, 3) := by decide +kernel
theorem dX12_referred_191 : decode cX12_referred 191 = .ok (.iload_n 3, 1) := by decide +kernel
theorem dX12_referred_192 : decode cX12_referred 192 = .ok (.bipush 20, 2) := by decide +kernel
theorem dX12_referred_194 : decode cX12_referred 194 = .ok (.idiv, 1) := by decide +kernel
theorem dX12_referred_195 : decode cX12_referred 195 = .ok (.iconst 2, 1) := by decide +kernel
theorem dX12_referred_196 : decode cX12_referred 196 = .ok (.irem, 1) := by decide +kernel
theorem dX12_referred_197 : decode cX12_referred 197 = .ok (.goto 7, 3) := by decide +kernel
theorem dX12_referred_200 : decode cX12_referred 200 = .ok (.iload_n 3, 1) := by decide +kernel
theorem dX12_referred_201 : decode cX12_referred 201 = .ok (.bipush 20, 2) := by decide +kernel
theorem dX12_referred_203 : decode cX12_referred 203 = .ok (.irem, 1) := by decide +kernel
theorem dX12_referred_204 : decode cX12_referred 204 = .ok (.ireturn, 1) := by decide +kernel
theorem dX12_seed_0 : decode cX12_seed 0 = .ok (.iload_n 1, 1) := by decide +kernel
theorem dX12_seed_1 : decode cX12_seed 1 = .ok (.iconst 0, 1) := by decide +kernel
theorem dX12_seed_2 : decode cX12_seed 2 = .ok (.ldc_w 391, 3) := by decide +kernel
theorem dX12_seed_5 : decode cX12_seed 5 = .ok (.invokestatic 141, 3) := by decide +kernel
theorem dX12_seed_8 : decode cX12_seed 8 = .ok (.ifCond .ne 5, 3) := by decide +kernel
theorem dX12_seed_11 : decode cX12_seed 11 = .ok (.iconst 0, 1) := by decide +kernel
theorem dX12_seed_12 : decode cX12_seed 12 = .ok (.ireturn, 1) := by decide +kernel
theorem dX12_seed_13 : decode cX12_seed 13 = .ok (.aload_n 0, 1) := by decide +kernel
theorem dX12_seed_14 : decode cX12_seed 14 = .ok (.iload_n 1, 1) := by decide +kernel
theorem dX12_seed_15 : decode cX12_seed 15 = .ok (.putfield 138, 3) := by decide +kernel
theorem dX12_seed_18 : decode cX12_seed 18 = .ok (.iconst 1, 1) := by decide +kernel
theorem dX12_seed_19 : decode cX12_seed 19 = .ok (.ireturn, 1) := by decide +kernel
theorem dX12_seesAll_0 : decode cX12_seesAll 0 = .ok (.iconst 0, 1) := by decide +kernel
theorem dX12_seesAll_1 : decode cX12_seesAll 1 = .ok (.istore_n 2, 1) := by decide +kernel
theorem dX12_seesAll_2 : decode cX12_seesAll 2 = .ok (.iload_n 2, 1) := by decide +kernel
theorem dX12_seesAll_3 : decode cX12_seesAll 3 = .ok (.aload_n 0, 1) := by decide +kernel
theorem dX12_seesAll_4 : decode cX12_seesAll 4 = .ok (.getfield 370, 3) := by decide +kernel
theorem dX12_seesAll_7 : decode cX12_seesAll 7 = .ok (.if_icmp .ge 22, 3) := by decide +kernel
theorem dX12_seesAll_10 : decode cX12_seesAll 10 = .ok (.aload_n 0, 1) := by decide +kernel
theorem dX12_seesAll_11 : decode cX12_seesAll 11 = .ok (.getfield 98, 3) := by decide +kernel
theorem dX12_seesAll_14 : decode cX12_seesAll 14 = .ok (.iload_n 2, 1) := by decide +kernel
theorem dX12_seesAll_15 : decode cX12_seesAll 15 = .ok (.iaload, 1) := by decide +kernel
theorem dX12_seesAll_16 : decode cX12_seesAll 16 = .ok (.iload_n 1, 1) := by decide +kernel
theorem dX12_seesAll_17 : decode cX12_seesAll 17 = .ok (.iand, 1) := by decide +kernel
theorem dX12_seesAll_18 : decode cX12_seesAll 18 = .ok (.ifCond .ne 5, 3) := by decide +kernel
theorem dX12_seesAll_21 : decode cX12_seesAll 21 = .ok (.iconst 0, 1) := by decide +kernel
theorem dX12_seesAll_22 : decode cX12_seesAll 22 = .ok (.ireturn, 1) := by decide +kernel
theorem dX12_seesAll_23 : decode cX12_seesAll 23 = .ok (.iinc 2 1, 3) := by decide +kernel
theorem dX12_seesAll_26 : decode cX12_seesAll 26 = .ok (.goto (-24), 3) := by decide +kernel
theorem dX12_seesAll_29 : decode cX12_seesAll 29 = .ok (.iconst 1, 1) := by decide +kernel
theorem dX12_seesAll_30 : decode cX12_seesAll 30 = .ok (.ireturn, 1) := by decide +kernel
theorem dX12_slip_0 : decode cX12_slip 0 = .ok (.aload_n 0, 1) := by decide +kernel
theorem dX12_slip_1 : decode cX12_slip 1 = .ok (.iload_n 1, 1) := by decide +kernel
theorem dX12_slip_2 : decode cX12_slip 2 = .ok (.invokevirtual 209, 3) := by decide +kernel
theorem dX12_slip_5 : decode cX12_slip 5 = .ok (.ifCond .eq 11, 3) := by decide +kernel
theorem dX12_slip_8 : decode cX12_slip 8 = .ok (.aload_n 0, 1) := by decide +kernel
theorem dX12_slip_9 : decode cX12_slip 9 = .ok (.iload_n 2, 1) := by decide +kernel
theorem dX12_slip_10 : decode cX12_slip 10 = .ok (.invokevirtual 225, 3) := by decide +kernel
theorem dX12_slip_13 : decode cX12_slip 13 = .ok (.ifCond .ne 5, 3) := by decide +kernel
theorem dX12_slip_16 : decode cX12_slip 16 = .ok (.iconst (-1), 1) := by decide +kernel
theorem dX12_slip_17 : decode cX12_slip 17 = .ok (.ireturn, 1) := by decide +kernel
theorem dX12_slip_18 : decode cX12_slip 18 = .ok (.aload_n 0, 1) := by decide +kernel
theorem dX12_slip_19 : decode cX12_slip 19 = .ok (.aload_n 0, 1) := by decide +kernel
theorem dX12_slip_20 : decode cX12_slip 20 = .ok (.getfield 13, 3) := by decide +kernel
theorem dX12_slip_23 : decode cX12_slip 23 = .ok (.aload_n 0, 1) := by decide +kernel
theorem dX12_slip_24 : decode cX12_slip 24 = .ok (.getfield 47, 3) := by decide +kernel
theorem dX12_slip_27 : decode cX12_slip 27 = .ok (.iload_n 1, 1) := by decide +kernel
theorem dX12_slip_28 : decode cX12_slip 28 = .ok (.iload_n 2, 1) := by decide +kernel
theorem dX12_slip_29 : decode cX12_slip 29 = .ok (.invokevirtual 228, 3) := by decide +kernel
theorem dX12_slip_32 : decode cX12_slip 32 = .ok (.aload_n 0, 1) := by decide +kernel
theorem dX12_slip_33 : decode cX12_slip 33 = .ok (.getfield 47, 3) := by decide +kernel
theorem dX12_slip_36 : decode cX12_slip 36 = .ok (.aload_n 0, 1) := by decide +kernel
theorem dX12_slip_37 : decode cX12_slip 37 = .ok (.getfield 145, 3) := by decide +kernel
theorem dX12_slip_40 : decode cX12_slip 40 = .ok (.iconst 1, 1) := by decide +kernel
theorem dX12_slip_41 : decode cX12_slip 41 = .ok (.isub, 1) := by decide +kernel
theorem dX12_slip_42 : decode cX12_slip 42 = .ok (.iaload, 1) := by decide +kernel
theorem dX12_slip_43 : decode cX12_slip 43 = .ok (.ireturn, 1) := by decide +kernel
theorem dX12_slips_0 : decode cX12_slips 0 = .ok (.iconst 0, 1) := by decide +kernel
theorem dX12_slips_1 : decode cX12_slips 1 = .ok (.istore 5, 2) := by decide +kernel
theorem dX12_slips_3 : decode cX12_slips 3 = .ok (.iload 5, 2) := by decide +kernel
theorem dX12_slips_5 : decode cX12_slips 5 = .ok (.aload_n 0, 1) := by decide +kernel
theorem dX12_slips_6 : decode cX12_slips 6 = .ok (.getfield 145, 3) := by decide +kernel
theorem dX12_slips_9 : decode cX12_slips 9 = .ok (.if_icmp .ge 44, 3) := by decide +kernel
theorem dX12_slips_12 : decode cX12_slips 12 = .ok (.aload_n 2, 1) := by decide +kernel
theorem dX12_slips_13 : decode cX12_slips 13 = .ok (.iload 5, 2) := by decide +kernel
theorem dX12_slips_15 : decode cX12_slips 15 = .ok (.iload 5, 2) := by decide +kernel
theorem dX12_slips_17 : decode cX12_slips 17 = .ok (.iload_n 3, 1) := by decide +kernel
theorem dX12_slips_18 : decode cX12_slips 18 = .ok (.if_icmp .ge 10, 3) := by decide +kernel
theorem dX12_slips_21 : decode cX12_slips 21 = .ok (.aload_n 1, 1) := by decide +kernel
theorem dX12_slips_22 : decode cX12_slips 22 = .ok (.iload 5, 2) := by decide +kernel
theorem dX12_slips_24 : decode cX12_slips 24 = .ok (.iaload, 1) := by decide +kernel
theorem dX12_slips_25 : decode cX12_slips 25 = .ok (.goto 21, 3) := by decide +kernel
theorem dX12_slips_28 : decode cX12_slips 28 = .ok (.iload 5, 2) := by decide +kernel
theorem dX12_slips_30 : decode cX12_slips 30 = .ok (.iload_n 3, 1) := by decide +kernel
theorem dX12_slips_31 : decode cX12_slips 31 = .ok (.if_icmp .ne 8, 3) := by decide +kernel
theorem dX12_slips_34 : decode cX12_slips 34 = .ok (.iload 4, 2) := by decide +kernel
theorem dX12_slips_36 : decode cX12_slips 36 = .ok (.goto 10, 3) := by decide +kernel
theorem dX12_slips_39 : decode cX12_slips 39 = .ok (.aload_n 0, 1) := by decide +kernel
theorem dX12_slips_40 : decode cX12_slips 40 = .ok (.iload 5, 2) := by decide +kernel
theorem dX12_slips_42 : decode cX12_slips 42 = .ok (.aload_n 2, 1) := by decide +kernel
theorem dX12_slips_43 : decode cX12_slips 43 = .ok (.invokevirtual 198, 3) := by decide +kernel
theorem dX12_slips_46 : decode cX12_slips 46 = .ok (.iastore, 1) := by decide +kernel
theorem dX12_slips_47 : decode cX12_slips 47 = .ok (.iinc 5 1, 3) := by decide +kernel
theorem dX12_slips_50 : decode cX12_slips 50 = .ok (.goto (-47), 3) := by decide +kernel
theorem dX12_slips_53 : decode cX12_slips 53 = .ok (.return_, 1) := by decide +kernel
theorem dX12_standOn_0 : decode cX12_standOn 0 = .ok (.iconst 0, 1) := by decide +kernel
theorem dX12_standOn_1 : decode cX12_standOn 1 = .ok (.istore_n 3, 1) := by decide +kernel
theorem dX12_standOn_2 : decode cX12_standOn 2 = .ok (.iload_n 1, 1) := by decide +kernel
theorem dX12_standOn_3 : decode cX12_standOn 3 = .ok (.iconst 1, 1) := by decide +kernel
theorem dX12_standOn_4 : decode cX12_standOn 4 = .ok (.iadd, 1) := by decide +kernel
theorem dX12_standOn_5 : decode cX12_standOn 5 = .ok (.istore 4, 2) := by decide +kernel
theorem dX12_standOn_7 : decode cX12_standOn 7 = .ok (.iload 4, 2) := by decide +kernel
theorem dX12_standOn_9 : decode cX12_standOn 9 = .ok (.aload_n 0, 1) := by decide +kernel
theorem dX12_standOn_10 : decode cX12_standOn 10 = .ok (.getfield 145, 3) := by decide +kernel
theorem dX12_standOn_13 : decode cX12_standOn 13 = .ok (.if_icmp .ge 70, 3) := by decide +kernel
theorem dX12_standOn_16 : decode cX12_standOn 16 = .ok (.iload_n 2, 1) := by decide +kernel
theorem dX12_standOn_17 : decode cX12_standOn 17 = .ok (.iload 4, 2) := by decide +kernel
theorem dX12_standOn_19 : decode cX12_standOn 19 = .ok (.invokestatic 327, 3) := by decide +kernel
theorem dX12_standOn_22 : decode cX12_standOn 22 = .ok (.ifCond .eq 6, 3) := by decide +kernel
theorem dX12_standOn_25 : decode cX12_standOn 25 = .ok (.goto 52, 3) := by decide +kernel
theorem dX12_standOn_28 : decode cX12_standOn 28 = .ok (.iconst 0, 1) := by decide +kernel
theorem dX12_standOn_29 : decode cX12_standOn 29 = .ok (.istore 5, 2) := by decide +kernel
theorem dX12_standOn_31 : decode cX12_standOn 31 = .ok (.iload 5, 2) := by decide +kernel
theorem dX12_standOn_33 : decode cX12_standOn 33 = .ok (.iload 4, 2) := by decide +kernel
theorem dX12_standOn_35 : decode cX12_standOn 35 = .ok (.if_icmp .ge 42, 3) := by decide +kernel
theorem dX12_standOn_38 : decode cX12_standOn 38 = .ok (.aload_n 0, 1) := by decide +kernel
theorem dX12_standOn_39 : decode cX12_standOn 39 = .ok (.iload 4, 2) := by decide +kernel
theorem dX12_standOn_41 : decode cX12_standOn 41 = .ok (.iload 5, 2) := by decide +kernel
theorem dX12_standOn_43 : decode cX12_standOn 43 = .ok (.invokevirtual 206, 3) := by decide +kernel
theorem dX12_standOn_46 : decode cX12_standOn 46 = .ok (.ifCond .eq 25, 3) := by decide +kernel
theorem dX12_standOn_49 : decode cX12_standOn 49 = .ok (.iload 5, 2) := by decide +kernel
theorem dX12_standOn_51 : decode cX12_standOn 51 = .ok (.iload_n 1, 1) := by decide +kernel
theorem dX12_standOn_52 : decode cX12_standOn 52 = .ok (.if_icmp .eq 12, 3) := by decide +kernel
theorem dX12_standOn_55 : decode cX12_standOn 55 = .ok (.iload_n 3, 1) := by decide +kernel
theorem dX12_standOn_56 : decode cX12_standOn 56 = .ok (.iload 5, 2) := by decide +kernel
theorem dX12_standOn_58 : decode cX12_standOn 58 = .ok (.invokestatic 327, 3) := by decide +kernel
theorem dX12_standOn_61 : decode cX12_standOn 61 = .ok (.ifCond .eq 10, 3) := by decide +kernel
theorem dX12_standOn_64 : decode cX12_standOn 64 = .ok (.iload_n 3, 1) := by decide +kernel
theorem dX12_standOn_65 : decode cX12_standOn 65 = .ok (.iconst 1, 1) := by decide +kernel
theorem dX12_standOn_66 : decode cX12_standOn 66 = .ok (.iload 4, 2) := by decide +kernel
theorem dX12_standOn_68 : decode cX12_standOn 68 = .ok (.ishl, 1) := by decide +kernel
theorem dX12_standOn_69 : decode cX12_standOn 69 = .ok (.ior, 1) := by decide +kernel
theorem dX12_standOn_70 : decode cX12_standOn 70 = .ok (.istore_n 3, 1) := by decide +kernel
theorem dX12_standOn_71 : decode cX12_standOn 71 = .ok (.iinc 5 1, 3) := by decide +kernel
theorem dX12_standOn_74 : decode cX12_standOn 74 = .ok (.goto (-43), 3) := by decide +kernel
theorem dX12_standOn_77 : decode cX12_standOn 77 = .ok (.iinc 4 1, 3) := by decide +kernel
theorem dX12_standOn_80 : decode cX12_standOn 80 = .ok (.goto (-73), 3) := by decide +kernel
theorem dX12_standOn_83 : decode cX12_standOn 83 = .ok (.iload_n 3, 1) := by decide +kernel
theorem dX12_standOn_84 : decode cX12_standOn 84 = .ok (.ireturn, 1) := by decide +kernel
theorem dX12_stands_0 : decode cX12_stands 0 = .ok (.aload_n 0, 1) := by decide +kernel
theorem dX12_stands_1 : decode cX12_stands 1 = .ok (.iload_n 1, 1) := by decide +kernel
theorem dX12_stands_2 : decode cX12_stands 2 = .ok (.invokevirtual 209, 3) := by decide +kernel
theorem dX12_stands_5 : decode cX12_stands 5 = .ok (.ifCond .eq 12, 3) := by decide +kernel
theorem dX12_stands_8 : decode cX12_stands 8 = .ok (.iload_n 2, 1) := by decide +kernel
theorem dX12_stands_9 : decode cX12_stands 9 = .ok (.iconst 0, 1) := by decide +kernel
theorem dX12_stands_10 : decode cX12_stands 10 = .ok (.iconst 1, 1) := by decide +kernel
theorem dX12_stands_11 : decode cX12_stands 11 = .ok (.invokestatic 141, 3) := by decide +kernel
theorem dX12_stands_14 : decode cX12_stands 14 = .ok (.ifCond .ne 5, 3) := by decide +kernel
theorem dX12_stands_17 : decode cX12_stands 17 = .ok (.iconst (-1), 1) := by decide +kernel
theorem dX12_stands_18 : decode cX12_stands 18 = .ok (.ireturn, 1) := by decide +kernel
theorem dX12_stands_19 : decode cX12_stands 19 = .ok (.iload_n 2, 1) := by decide +kernel
theorem dX12_stands_20 : decode cX12_stands 20 = .ok (.ifCond .ne 12, 3) := by decide +kernel
theorem dX12_stands_23 : decode cX12_stands 23 = .ok (.aload_n 0, 1) := by decide +kernel
theorem dX12_stands_24 : decode cX12_stands 24 = .ok (.iload_n 1, 1) := by decide +kernel
theorem dX12_stands_25 : decode cX12_stands 25 = .ok (.iconst 0, 1) := by decide +kernel
theorem dX12_stands_26 : decode cX12_stands 26 = .ok (.invokevirtual 364, 3) := by decide +kernel
theorem dX12_stands_29 : decode cX12_stands 29 = .ok (.goto 8, 3) := by decide +kernel
theorem dX12_stands_32 : decode cX12_stands 32 = .ok (.aload_n 0, 1) := by decide +kernel
theorem dX12_stands_33 : decode cX12_stands 33 = .ok (.iload_n 1, 1) := by decide +kernel
theorem dX12_stands_34 : decode cX12_stands 34 = .ok (.invokevirtual 367, 3) := by decide +kernel
theorem dX12_stands_37 : decode cX12_stands 37 = .ok (.ireturn, 1) := by decide +kernel
theorem dX12_sumSign_0 : decode cX12_sumSign 0 = .ok (.iload_n 0, 1) := by decide +kernel
theorem dX12_sumSign_1 : decode cX12_sumSign 1 = .ok (.bipush 43, 2) := by decide +kernel
theorem dX12_sumSign_3 : decode cX12_sumSign 3 = .ok (.if_icmp .ne 7, 3) := by decide +kernel
theorem dX12_sumSign_6 : decode cX12_sumSign 6 = .ok (.iconst 2, 1) := by decide +kernel
theorem dX12_sumSign_7 : decode cX12_sumSign 7 = .ok (.goto 45, 3) := by decide +kernel
theorem dX12_sumSign_10 : decode cX12_sumSign 10 = .ok (.iload_n 0, 1) := by decide +kernel
theorem dX12_sumSign_11 : decode cX12_sumSign 11 = .ok (.bipush 45, 2) := by decide +kernel
theorem dX12_sumSign_13 : decode cX12_sumSign 13 = .ok (.if_icmp .ne 7, 3) := by decide +kernel
theorem dX12_sumSign_16 : decode cX12_sumSign 16 = .ok (.iconst 3, 1) := by decide +kernel
theorem dX12_sumSign_17 : decode cX12_sumSign 17 = .ok (.goto 35, 3) := by decide +kernel
theorem dX12_sumSign_20 : decode cX12_sumSign 20 = .ok (.iload_n 0, 1) := by decide +kernel
theorem dX12_sumSign_21 : decode cX12_sumSign 21 = .ok (.bipush 42, 2) := by decide +kernel
theorem dX12_sumSign_23 : decode cX12_sumSign 23 = .ok (.if_icmp .ne 7, 3) := by decide +kernel
theorem dX12_sumSign_26 : decode cX12_sumSign 26 = .ok (.iconst 4, 1) := by decide +kernel
theorem dX12_sumSign_27 : decode cX12_sumSign 27 = .ok (.goto 25, 3) := by decide +kernel
theorem dX12_sumSign_30 : decode cX12_sumSign 30 = .ok (.iload_n 0, 1) := by decide +kernel
theorem dX12_sumSign_31 : decode cX12_sumSign 31 = .ok (.bipush 47, 2) := by decide +kernel
theorem dX12_sumSign_33 : decode cX12_sumSign 33 = .ok (.if_icmp .ne 7, 3) := by decide +kernel
theorem dX12_sumSign_36 : decode cX12_sumSign 36 = .ok (.iconst 5, 1) := by decide +kernel
theorem dX12_sumSign_37 : decode cX12_sumSign 37 = .ok (.goto 15, 3) := by decide +kernel
theorem dX12_sumSign_40 : decode cX12_sumSign 40 = .ok (.iload_n 0, 1) := by decide +kernel
theorem dX12_sumSign_41 : decode cX12_sumSign 41 = .ok (.bipush 37, 2) := by decide +kernel
theorem dX12_sumSign_43 : decode cX12_sumSign 43 = .ok (.if_icmp .ne 8, 3) := by decide +kernel
theorem dX12_sumSign_46 : decode cX12_sumSign 46 = .ok (.bipush 6, 2) := by decide +kernel
theorem dX12_sumSign_48 : decode cX12_sumSign 48 = .ok (.goto 4, 3) := by decide +kernel
theorem dX12_sumSign_51 : decode cX12_sumSign 51 = .ok (.iconst (-1), 1) := by decide +kernel
theorem dX12_sumSign_52 : decode cX12_sumSign 52 = .ok (.ireturn, 1) := by decide +kernel
theorem dX12_takes_0 : decode cX12_takes 0 = .ok (.aload_n 0, 1) := by decide +kernel
theorem dX12_takes_1 : decode cX12_takes 1 = .ok (.invokevirtual 165, 3) := by decide +kernel
theorem dX12_takes_4 : decode cX12_takes 4 = .ok (.iload_n 1, 1) := by decide +kernel
theorem dX12_takes_5 : decode cX12_takes 5 = .ok (.if_icmp .eq 13, 3) := by decide +kernel
theorem dX12_takes_8 : decode cX12_takes 8 = .ok (.aload_n 0, 1) := by decide +kernel
theorem dX12_takes_9 : decode cX12_takes 9 = .ok (.iconst 1, 1) := by decide +kernel
theorem dX12_takes_10 : decode cX12_takes 10 = .ok (.aload_n 0, 1) := by decide +kernel
theorem dX12_takes_11 : decode cX12_takes 11 = .ok (.getfield 155, 3) := by decide +kernel
theorem dX12_takes_14 : decode cX12_takes 14 = .ok (.invokevirtual 169, 3) := by decide +kernel
theorem dX12_takes_17 : decode cX12_takes 17 = .ok (.ireturn, 1) := by decide +kernel
theorem dX12_takes_18 : decode cX12_takes 18 = .ok (.aload_n 0, 1) := by decide +kernel
theorem dX12_takes_19 : decode cX12_takes 19 = .ok (.aload_n 0, 1) := by decide +kernel
theorem dX12_takes_20 : decode cX12_takes 20 = .ok (.getfield 155, 3) := by decide +kernel
theorem dX12_takes_23 : decode cX12_takes 23 = .ok (.iconst 1, 1) := by decide +kernel
theorem dX12_takes_24 : decode cX12_takes 24 = .ok (.iadd, 1) := by decide +kernel
theorem dX12_takes_25 : decode cX12_takes 25 = .ok (.putfield 155, 3) := by decide +kernel
theorem dX12_takes_28 : decode cX12_takes 28 = .ok (.iconst 1, 1) := by decide +kernel
theorem dX12_takes_29 : decode cX12_takes 29 = .ok (.ireturn, 1) := by decide +kernel
theorem dX12_tapeNumber_0 : decode cX12_tapeNumber 0 = .ok (.iconst 0, 1) := by decide +kernel
theorem dX12_tapeNumber_1 : decode cX12_tapeNumber 1 = .ok (.istore_n 2, 1) := by decide +kernel
theorem dX12_tapeNumber_2 : decode cX12_tapeNumber 2 = .ok (.iconst 4, 1) := by decide +kernel
theorem dX12_tapeNumber_3 : decode cX12_tapeNumber 3 = .ok (.iload_n 1, 1) := by decide +kernel
theorem dX12_tapeNumber_4 : decode cX12_tapeNumber 4 = .ok (.imul, 1) := by decide +kernel
theorem dX12_tapeNumber_5 : decode cX12_tapeNumber 5 = .ok (.istore_n 3, 1) := by decide +kernel
theorem dX12_tapeNumber_6 : decode cX12_tapeNumber 6 = .ok (.iload_n 3, 1) := by decide +kernel
theorem dX12_tapeNumber_7 : decode cX12_tapeNumber 7 = .ok (.iconst 4, 1) := by decide +kernel
theorem dX12_tapeNumber_8 : decode cX12_tapeNumber 8 = .ok (.iload_n 1, 1) := by decide +kernel
theorem dX12_tapeNumber_9 : decode cX12_tapeNumber 9 = .ok (.imul, 1) := by decide +kernel
theorem dX12_tapeNumber_10 : decode cX12_tapeNumber 10 = .ok (.iconst 4, 1) := by decide +kernel
theorem dX12_tapeNumber_11 : decode cX12_tapeNumber 11 = .ok (.iadd, 1) := by decide +kernel
theorem dX12_tapeNumber_12 : decode cX12_tapeNumber 12 = .ok (.if_icmp .ge 25, 3) := by decide +kernel
theorem dX12_tapeNumber_15 : decode cX12_tapeNumber 15 = .ok (.iload_n 2, 1) := by decide +kernel
theorem dX12_tapeNumber_16 : decode cX12_tapeNumber 16 = .ok (.bipush 8, 2) := by decide +kernel
theorem dX12_tapeNumber_18 : decode cX12_tapeNumber 18 = .ok (.ishl, 1) := by decide +kernel
theorem dX12_tapeNumber_19 : decode cX12_tapeNumber 19 = .ok (.aload_n 0, 1) := by decide +kernel
theorem dX12_tapeNumber_20 : decode cX12_tapeNumber 20 = .ok (.getfield 28, 3) := by decide +kernel
theorem dX12_tapeNumber_23 : decode cX12_tapeNumber 23 = .ok (.iload_n 3, 1) := by decide +kernel
theorem dX12_tapeNumber_24 : decode cX12_tapeNumber 24 = .ok (.baload, 1) := by decide +kernel
theorem dX12_tapeNumber_25 : decode cX12_tapeNumber 25 = .ok (.sipush 255, 3) := by decide +kernel
theorem dX12_tapeNumber_28 : decode cX12_tapeNumber 28 = .ok (.iand, 1) := by decide +kernel
theorem dX12_tapeNumber_29 : decode cX12_tapeNumber 29 = .ok (.ior, 1) := by decide +kernel
theorem dX12_tapeNumber_30 : decode cX12_tapeNumber 30 = .ok (.istore_n 2, 1) := by decide +kernel
theorem dX12_tapeNumber_31 : decode cX12_tapeNumber 31 = .ok (.iinc 3 1, 3) := by decide +kernel
theorem dX12_tapeNumber_34 : decode cX12_tapeNumber 34 = .ok (.goto (-28), 3) := by decide +kernel
theorem dX12_tapeNumber_37 : decode cX12_tapeNumber 37 = .ok (.iload_n 2, 1) := by decide +kernel
theorem dX12_tapeNumber_38 : decode cX12_tapeNumber 38 = .ok (.ireturn, 1) := by decide +kernel
theorem dX12_together_0 : decode cX12_together 0 = .ok (.iconst 0, 1) := by decide +kernel
theorem dX12_together_1 : decode cX12_together 1 = .ok (.istore_n 2, 1) := by decide +kernel
theorem dX12_together_2 : decode cX12_together 2 = .ok (.iconst 0, 1) := by decide +kernel
theorem dX12_together_3 : decode cX12_together 3 = .ok (.istore_n 3, 1) := by decide +kernel
theorem dX12_together_4 : decode cX12_together 4 = .ok (.iload_n 3, 1) := by decide +kernel
theorem dX12_together_5 : decode cX12_together 5 = .ok (.bipush 10, 2) := by decide +kernel
theorem dX12_together_7 : decode cX12_together 7 = .ok (.if_icmp .ge 26, 3) := by decide +kernel
theorem dX12_together_10 : decode cX12_together 10 = .ok (.iload_n 1, 1) := by decide +kernel
theorem dX12_together_11 : decode cX12_together 11 = .ok (.iload_n 3, 1) := by decide +kernel
theorem dX12_together_12 : decode cX12_together 12 = .ok (.invokestatic 327, 3) := by decide +kernel
theorem dX12_together_15 : decode cX12_together 15 = .ok (.ifCond .eq 12, 3) := by decide +kernel
theorem dX12_together_18 : decode cX12_together 18 = .ok (.iload_n 2, 1) := by decide +kernel
theorem dX12_together_19 : decode cX12_together 19 = .ok (.aload_n 0, 1) := by decide +kernel
theorem dX12_together_20 : decode cX12_together 20 = .ok (.getfield 95, 3) := by decide +kernel
theorem dX12_together_23 : decode cX12_together 23 = .ok (.iload_n 3, 1) := by decide +kernel
theorem dX12_together_24 : decode cX12_together 24 = .ok (.iaload, 1) := by decide +kernel
theorem dX12_together_25 : decode cX12_together 25 = .ok (.ior, 1) := by decide +kernel
theorem dX12_together_26 : decode cX12_together 26 = .ok (.istore_n 2, 1) := by decide +kernel
theorem dX12_together_27 : decode cX12_together 27 = .ok (.iinc 3 1, 3) := by decide +kernel
theorem dX12_together_30 : decode cX12_together 30 = .ok (.goto (-26), 3) := by decide +kernel
theorem dX12_together_33 : decode cX12_together 33 = .ok (.iload_n 2, 1) := by decide +kernel
theorem dX12_together_34 : decode cX12_together 34 = .ok (.ireturn, 1) := by decide +kernel
theorem dX12_types_0 : decode cX12_types 0 = .ok (.iconst 3, 1) := by decide +kernel
theorem dX12_types_1 : decode cX12_types 1 = .ok (.istore_n 2, 1) := by decide +kernel
theorem dX12_types_2 : decode cX12_types 2 = .ok (.iload_n 2, 1) := by decide +kernel
theorem dX12_types_3 : decode cX12_types 3 = .ok (.ifCond .lt 35, 3) := by decide +kernel
theorem dX12_types_6 : decode cX12_types 6 = .ok (.aload_n 0, 1) := by decide +kernel
theorem dX12_types_7 : decode cX12_types 7 = .ok (.getfield 28, 3) := by decide +kernel
theorem dX12_types_10 : decode cX12_types 10 = .ok (.aload_n 0, 1) := by decide +kernel
theorem dX12_types_11 : decode cX12_types 11 = .ok (.getfield 148, 3) := by decide +kernel
theorem dX12_types_14 : decode cX12_types 14 = .ok (.iload_n 1, 1) := by decide +kernel
theorem dX12_types_15 : decode cX12_types 15 = .ok (.bipush 8, 2) := by decide +kernel
theorem dX12_types_17 : decode cX12_types 17 = .ok (.iload_n 2, 1) := by decide +kernel
theorem dX12_types_18 : decode cX12_types 18 = .ok (.imul, 1) := by decide +kernel
theorem dX12_types_19 : decode cX12_types 19 = .ok (.ishr, 1) := by decide +kernel
theorem dX12_types_20 : decode cX12_types 20 = .ok (.i2b, 1) := by decide +kernel
theorem dX12_types_21 : decode cX12_types 21 = .ok (.bastore, 1) := by decide +kernel
theorem dX12_types_22 : decode cX12_types 22 = .ok (.aload_n 0, 1) := by decide +kernel
theorem dX12_types_23 : decode cX12_types 23 = .ok (.aload_n 0, 1) := by decide +kernel
theorem dX12_types_24 : decode cX12_types 24 = .ok (.getfield 148, 3) := by decide +kernel
theorem dX12_types_27 : decode cX12_types 27 = .ok (.iconst 1, 1) := by decide +kernel
theorem dX12_types_28 : decode cX12_types 28 = .ok (.iadd, 1) := by decide +kernel
theorem dX12_types_29 : decode cX12_types 29 = .ok (.putfield 148, 3) := by decide +kernel
theorem dX12_types_32 : decode cX12_types 32 = .ok (.iinc 2 (-1), 3) := by decide +kernel
theorem dX12_types_35 : decode cX12_types 35 = .ok (.goto (-33), 3) := by decide +kernel
theorem dX12_types_38 : decode cX12_types 38 = .ok (.return_, 1) := by decide +kernel
theorem dX12_undo_0 : decode cX12_undo 0 = .ok (.aload_n 0, 1) := by decide +kernel
theorem dX12_undo_1 : decode cX12_undo 1 = .ok (.getfield 402, 3) := by decide +kernel
theorem dX12_undo_4 : decode cX12_undo 4 = .ok (.ifCond .ne 5, 3) := by decide +kernel
theorem dX12_undo_7 : decode cX12_undo 7 = .ok (.iconst 0, 1) := by decide +kernel
theorem dX12_undo_8 : decode cX12_undo 8 = .ok (.ireturn, 1) := by decide +kernel
theorem dX12_undo_9 : decode cX12_undo 9 = .ok (.aload_n 0, 1) := by decide +kernel
theorem dX12_undo_10 : decode cX12_undo 10 = .ok (.aload_n 0, 1) := by decide +kernel
theorem dX12_undo_11 : decode cX12_undo 11 = .ok (.getfield 406, 3) := by decide +kernel
theorem dX12_undo_14 : decode cX12_undo 14 = .ok (.putfield 134, 3) := by decide +kernel
theorem dX12_undo_17 : decode cX12_undo 17 = .ok (.aload_n 0, 1) := by decide +kernel
theorem dX12_undo_18 : decode cX12_undo 18 = .ok (.aload_n 0, 1) := by decide +kernel
theorem dX12_undo_19 : decode cX12_undo 19 = .ok (.getfield 409, 3) := by decide +kernel
theorem dX12_undo_22 : decode cX12_undo 22 = .ok (.putfield 145, 3) := by decide +kernel
theorem dX12_undo_25 : decode cX12_undo 25 = .ok (.aload_n 0, 1) := by decide +kernel
theorem dX12_undo_26 : decode cX12_undo 26 = .ok (.aload_n 0, 1) := by decide +kernel
theorem dX12_undo_27 : decode cX12_undo 27 = .ok (.getfield 412, 3) := by decide +kernel
theorem dX12_undo_30 : decode cX12_undo 30 = .ok (.putfield 138, 3) := by decide +kernel
theorem dX12_undo_33 : decode cX12_undo 33 = .ok (.aload_n 0, 1) := by decide +kernel
theorem dX12_undo_34 : decode cX12_undo 34 = .ok (.getfield 116, 3) := by decide +kernel
theorem dX12_undo_37 : decode cX12_undo 37 = .ok (.aload_n 0, 1) := by decide +kernel
theorem dX12_undo_38 : decode cX12_undo 38 = .ok (.getfield 7, 3) := by decide +kernel
theorem dX12_undo_41 : decode cX12_undo 41 = .ok (.bipush 10, 2) := by decide +kernel
theorem dX12_undo_43 : decode cX12_undo 43 = .ok (.invokestatic 415, 3) := by decide +kernel
theorem dX12_undo_46 : decode cX12_undo 46 = .ok (.aload_n 0, 1) := by decide +kernel
theorem dX12_undo_47 : decode cX12_undo 47 = .ok (.getfield 119, 3) := by decide +kernel
theorem dX12_undo_50 : decode cX12_undo 50 = .ok (.aload_n 0, 1) := by decide +kernel
theorem dX12_undo_51 : decode cX12_undo 51 = .ok (.getfield 13, 3) := by decide +kernel
theorem dX12_undo_54 : decode cX12_undo 54 = .ok (.bipush 20, 2) := by decide +kernel
theorem dX12_undo_56 : decode cX12_undo 56 = .ok (.invokestatic 415, 3) := by decide +kernel
theorem dX12_undo_59 : decode cX12_undo 59 = .ok (.aload_n 0, 1) := by decide +kernel
theorem dX12_undo_60 : decode cX12_undo 60 = .ok (.getfield 122, 3) := by decide +kernel
theorem dX12_undo_63 : decode cX12_undo 63 = .ok (.aload_n 0, 1) := by decide +kernel
theorem dX12_undo_64 : decode cX12_undo 64 = .ok (.getfield 16, 3) := by decide +kernel
theorem dX12_undo_67 : decode cX12_undo 67 = .ok (.bipush 20, 2) := by decide +kernel
theorem dX12_undo_69 : decode cX12_undo 69 = .ok (.invokestatic 415, 3) := by decide +kernel
theorem dX12_undo_72 : decode cX12_undo 72 = .ok (.aload_n 0, 1) := by decide +kernel
theorem dX12_undo_73 : decode cX12_undo 73 = .ok (.getfield 125, 3) := by decide +kernel
theorem dX12_undo_76 : decode cX12_undo 76 = .ok (.aload_n 0, 1) := by decide +kernel
theorem dX12_undo_77 : decode cX12_undo 77 = .ok (.getfield 19, 3) := by decide +kernel
theorem dX12_undo_80 : decode cX12_undo 80 = .ok (.bipush 20, 2) := by decide +kernel
theorem dX12_undo_82 : decode cX12_undo 82 = .ok (.invokestatic 415, 3) := by decide +kernel
theorem dX12_undo_85 : decode cX12_undo 85 = .ok (.aload_n 0, 1) := by decide +kernel
theorem dX12_undo_86 : decode cX12_undo 86 = .ok (.getfield 128, 3) := by decide +kernel
theorem dX12_undo_89 : decode cX12_undo 89 = .ok (.aload_n 0, 1) := by decide +kernel
theorem dX12_undo_90 : decode cX12_undo 90 = .ok (.getfield 22, 3) := by decide +kernel
theorem dX12_undo_93 : decode cX12_undo 93 = .ok (.bipush 20, 2) := by decide +kernel
theorem dX12_undo_95 : decode cX12_undo 95 = .ok (.invokestatic 415, 3) := by decide +kernel
theorem dX12_undo_98 : decode cX12_undo 98 = .ok (.aload_n 0, 1) := by decide +kernel
theorem dX12_undo_99 : decode cX12_undo 99 = .ok (.getfield 131, 3) := by decide +kernel
theorem dX12_undo_102 : decode cX12_undo 102 = .ok (.aload_n 0, 1) := by decide +kernel
theorem dX12_undo_103 : decode cX12_undo 103 = .ok (.getfield 25, 3) := by decide +kernel
theorem dX12_undo_106 : decode cX12_undo 106 = .ok (.bipush 8, 2) := by decide +kernel
theorem dX12_undo_108 : decode cX12_undo 108 = .ok (.invokestatic 415, 3) := by decide +kernel
theorem dX12_undo_111 : decode cX12_undo 111 = .ok (.iconst 1, 1) := by decide +kernel
theorem dX12_undo_112 : decode cX12_undo 112 = .ok (.ireturn, 1) := by decide +kernel
theorem dX12_unread_0 : decode cX12_unread 0 = .ok (.iload_n 1, 1) := by decide +kernel
theorem dX12_unread_1 : decode cX12_unread 1 = .ok (.iconst 0, 1) := by decide +kernel
theorem dX12_unread_2 : decode cX12_unread 2 = .ok (.sipush 1023, 3) := by decide +kernel
theorem dX12_unread_5 : decode cX12_unread 5 = .ok (.invokestatic 141, 3) := by decide +kernel
theorem dX12_unread_8 : decode cX12_unread 8 = .ok (.ifCond .ne 5, 3) := by decide +kernel
theorem dX12_unread_11 : decode cX12_unread 11 = .ok (.iconst (-1), 1) := by decide +kernel
theorem dX12_unread_12 : decode cX12_unread 12 = .ok (.ireturn, 1) := by decide +kernel
theorem dX12_unread_13 : decode cX12_unread 13 = .ok (.aload_n 0, 1) := by decide +kernel
theorem dX12_unread_14 : decode cX12_unread 14 = .ok (.invokevirtual 337, 3) := by decide +kernel
theorem dX12_unread_17 : decode cX12_unread 17 = .ok (.istore_n 2, 1) := by decide +kernel
theorem dX12_unread_18 : decode cX12_unread 18 = .ok (.iconst 0, 1) := by decide +kernel
theorem dX12_unread_19 : decode cX12_unread 19 = .ok (.istore_n 3, 1) := by decide +kernel
theorem dX12_unread_20 : decode cX12_unread 20 = .ok (.iload_n 3, 1) := by decide +kernel
theorem dX12_unread_21 : decode cX12_unread 21 = .ok (.bipush 10, 2) := by decide +kernel
theorem dX12_unread_23 : decode cX12_unread 23 = .ok (.if_icmp .ge 27, 3) := by decide +kernel
theorem dX12_unread_26 : decode cX12_unread 26 = .ok (.iload_n 1, 1) := by decide +kernel
theorem dX12_unread_27 : decode cX12_unread 27 = .ok (.iload_n 3, 1) := by decide +kernel
theorem dX12_unread_28 : decode cX12_unread 28 = .ok (.invokestatic 327, 3) := by decide +kernel
theorem dX12_unread_31 : decode cX12_unread 31 = .ok (.ifCond .eq 13, 3) := by decide +kernel
theorem dX12_unread_34 : decode cX12_unread 34 = .ok (.iload_n 2, 1) := by decide +kernel
theorem dX12_unread_35 : decode cX12_unread 35 = .ok (.aload_n 0, 1) := by decide +kernel
theorem dX12_unread_36 : decode cX12_unread 36 = .ok (.iload_n 3, 1) := by decide +kernel
theorem dX12_unread_37 : decode cX12_unread 37 = .ok (.invokevirtual 324, 3) := by decide +kernel
theorem dX12_unread_40 : decode cX12_unread 40 = .ok (.iconst (-1), 1) := by decide +kernel
theorem dX12_unread_41 : decode cX12_unread 41 = .ok (.ixor, 1) := by decide +kernel
theorem dX12_unread_42 : decode cX12_unread 42 = .ok (.iand, 1) := by decide +kernel
theorem dX12_unread_43 : decode cX12_unread 43 = .ok (.istore_n 2, 1) := by decide +kernel
theorem dX12_unread_44 : decode cX12_unread 44 = .ok (.iinc 3 1, 3) := by decide +kernel
theorem dX12_unread_47 : decode cX12_unread 47 = .ok (.goto (-27), 3) := by decide +kernel
theorem dX12_unread_50 : decode cX12_unread 50 = .ok (.iload_n 2, 1) := by decide +kernel
theorem dX12_unread_51 : decode cX12_unread 51 = .ok (.ireturn, 1) := by decide +kernel
theorem dX12_untrue_0 : decode cX12_untrue 0 = .ok (.aload_n 0, 1) := by decide +kernel
theorem dX12_untrue_1 : decode cX12_untrue 1 = .ok (.invokevirtual 212, 3) := by decide +kernel
theorem dX12_untrue_4 : decode cX12_untrue 4 = .ok (.iconst 0, 1) := by decide +kernel
theorem dX12_untrue_5 : decode cX12_untrue 5 = .ok (.istore_n 1, 1) := by decide +kernel
theorem dX12_untrue_6 : decode cX12_untrue 6 = .ok (.iconst 0, 1) := by decide +kernel
theorem dX12_untrue_7 : decode cX12_untrue 7 = .ok (.istore_n 2, 1) := by decide +kernel
theorem dX12_untrue_8 : decode cX12_untrue 8 = .ok (.iload_n 2, 1) := by decide +kernel
theorem dX12_untrue_9 : decode cX12_untrue 9 = .ok (.aload_n 0, 1) := by decide +kernel
theorem dX12_untrue_10 : decode cX12_untrue 10 = .ok (.getfield 145, 3) := by decide +kernel
theorem dX12_untrue_13 : decode cX12_untrue 13 = .ok (.if_icmp .ge 30, 3) := by decide +kernel
theorem dX12_untrue_16 : decode cX12_untrue 16 = .ok (.aload_n 0, 1) := by decide +kernel
theorem dX12_untrue_17 : decode cX12_untrue 17 = .ok (.getfield 13, 3) := by decide +kernel
theorem dX12_untrue_20 : decode cX12_untrue 20 = .ok (.iload_n 2, 1) := by decide +kernel
theorem dX12_untrue_21 : decode cX12_untrue 21 = .ok (.iaload, 1) := by decide +kernel
theorem dX12_untrue_22 : decode cX12_untrue 22 = .ok (.aload_n 0, 1) := by decide +kernel
theorem dX12_untrue_23 : decode cX12_untrue 23 = .ok (.getfield 44, 3) := by decide +kernel
theorem dX12_untrue_26 : decode cX12_untrue 26 = .ok (.iload_n 2, 1) := by decide +kernel
theorem dX12_untrue_27 : decode cX12_untrue 27 = .ok (.iaload, 1) := by decide +kernel
theorem dX12_untrue_28 : decode cX12_untrue 28 = .ok (.if_icmp .eq 9, 3) := by decide +kernel
theorem dX12_untrue_31 : decode cX12_untrue 31 = .ok (.iload_n 1, 1) := by decide +kernel
theorem dX12_untrue_32 : decode cX12_untrue 32 = .ok (.iconst 1, 1) := by decide +kernel
theorem dX12_untrue_33 : decode cX12_untrue 33 = .ok (.iload_n 2, 1) := by decide +kernel
theorem dX12_untrue_34 : decode cX12_untrue 34 = .ok (.ishl, 1) := by decide +kernel
theorem dX12_untrue_35 : decode cX12_untrue 35 = .ok (.ior, 1) := by decide +kernel
theorem dX12_untrue_36 : decode cX12_untrue 36 = .ok (.istore_n 1, 1) := by decide +kernel
theorem dX12_untrue_37 : decode cX12_untrue 37 = .ok (.iinc 2 1, 3) := by decide +kernel
theorem dX12_untrue_40 : decode cX12_untrue 40 = .ok (.goto (-32), 3) := by decide +kernel
theorem dX12_untrue_43 : decode cX12_untrue 43 = .ok (.iload_n 1, 1) := by decide +kernel
theorem dX12_untrue_44 : decode cX12_untrue 44 = .ok (.ireturn, 1) := by decide +kernel
theorem dX12_usedBy_0 : decode cX12_usedBy 0 = .ok (.iconst 0, 1) := by decide +kernel
theorem dX12_usedBy_1 : decode cX12_usedBy 1 = .ok (.istore_n 2, 1) := by decide +kernel
theorem dX12_usedBy_2 : decode cX12_usedBy 2 = .ok (.iconst 0, 1) := by decide +kernel
theorem dX12_usedBy_3 : decode cX12_usedBy 3 = .ok (.istore_n 3, 1) := by decide +kernel
theorem dX12_usedBy_4 : decode cX12_usedBy 4 = .ok (.iload_n 3, 1) := by decide +kernel
theorem dX12_usedBy_5 : decode cX12_usedBy 5 = .ok (.aload_n 0, 1) := by decide +kernel
theorem dX12_usedBy_6 : decode cX12_usedBy 6 = .ok (.getfield 145, 3) := by decide +kernel
theorem dX12_usedBy_9 : decode cX12_usedBy 9 = .ok (.if_icmp .ge 26, 3) := by decide +kernel
theorem dX12_usedBy_12 : decode cX12_usedBy 12 = .ok (.iload_n 2, 1) := by decide +kernel
theorem dX12_usedBy_13 : decode cX12_usedBy 13 = .ok (.aload_n 0, 1) := by decide +kernel
theorem dX12_usedBy_14 : decode cX12_usedBy 14 = .ok (.iload_n 3, 1) := by decide +kernel
theorem dX12_usedBy_15 : decode cX12_usedBy 15 = .ok (.iload_n 1, 1) := by decide +kernel
theorem dX12_usedBy_16 : decode cX12_usedBy 16 = .ok (.invokevirtual 206, 3) := by decide +kernel
theorem dX12_usedBy_19 : decode cX12_usedBy 19 = .ok (.ifCond .eq 7, 3) := by decide +kernel
theorem dX12_usedBy_22 : decode cX12_usedBy 22 = .ok (.iconst 1, 1) := by decide +kernel
theorem dX12_usedBy_23 : decode cX12_usedBy 23 = .ok (.goto 4, 3) := by decide +kernel
theorem dX12_usedBy_26 : decode cX12_usedBy 26 = .ok (.iconst 0, 1) := by decide +kernel
theorem dX12_usedBy_27 : decode cX12_usedBy 27 = .ok (.iadd, 1) := by decide +kernel
theorem dX12_usedBy_28 : decode cX12_usedBy 28 = .ok (.istore_n 2, 1) := by decide +kernel
theorem dX12_usedBy_29 : decode cX12_usedBy 29 = .ok (.iinc 3 1, 3) := by decide +kernel
theorem dX12_usedBy_32 : decode cX12_usedBy 32 = .ok (.goto (-28), 3) := by decide +kernel
theorem dX12_usedBy_35 : decode cX12_usedBy 35 = .ok (.iload_n 2, 1) := by decide +kernel
theorem dX12_usedBy_36 : decode cX12_usedBy 36 = .ok (.ireturn, 1) := by decide +kernel
theorem dX12_waitTop_0 : decode cX12_waitTop 0 = .ok (.aload_n 0, 1) := by decide +kernel
theorem dX12_waitTop_1 : decode cX12_waitTop 1 = .ok (.getfield 245, 3) := by decide +kernel
theorem dX12_waitTop_4 : decode cX12_waitTop 4 = .ok (.ifCond .ne 7, 3) := by decide +kernel
theorem dX12_waitTop_7 : decode cX12_waitTop 7 = .ok (.iconst (-1), 1) := by decide +kernel
theorem dX12_waitTop_8 : decode cX12_waitTop 8 = .ok (.goto 17, 3) := by decide +kernel
theorem dX12_waitTop_11 : decode cX12_waitTop 11 = .ok (.aload_n 0, 1) := by decide +kernel
theorem dX12_waitTop_12 : decode cX12_waitTop 12 = .ok (.getfield 59, 3) := by decide +kernel
theorem dX12_waitTop_15 : decode cX12_waitTop 15 = .ok (.aload_n 0, 1) := by decide +kernel
theorem dX12_waitTop_16 : decode cX12_waitTop 16 = .ok (.getfield 245, 3) := by decide +kernel
theorem dX12_waitTop_19 : decode cX12_waitTop 19 = .ok (.iconst 1, 1) := by decide +kernel
theorem dX12_waitTop_20 : decode cX12_waitTop 20 = .ok (.isub, 1) := by decide +kernel
theorem dX12_waitTop_21 : decode cX12_waitTop 21 = .ok (.iaload, 1) := by decide +kernel
theorem dX12_waitTop_22 : decode cX12_waitTop 22 = .ok (.ldc 241, 2) := by decide +kernel
theorem dX12_waitTop_24 : decode cX12_waitTop 24 = .ok (.idiv, 1) := by decide +kernel
theorem dX12_waitTop_25 : decode cX12_waitTop 25 = .ok (.ireturn, 1) := by decide +kernel
theorem dX12_works_0 : decode cX12_works 0 = .ok (.aload_n 0, 1) := by decide +kernel
theorem dX12_works_1 : decode cX12_works 1 = .ok (.aload_n 0, 1) := by decide +kernel
theorem dX12_works_2 : decode cX12_works 2 = .ok (.getfield 13, 3) := by decide +kernel
theorem dX12_works_5 : decode cX12_works 5 = .ok (.aload_n 0, 1) := by decide +kernel
theorem dX12_works_6 : decode cX12_works 6 = .ok (.getfield 47, 3) := by decide +kernel
theorem dX12_works_9 : decode cX12_works 9 = .ok (.iload_n 1, 1) := by decide +kernel
theorem dX12_works_10 : decode cX12_works 10 = .ok (.iload_n 2, 1) := by decide +kernel
theorem dX12_works_11 : decode cX12_works 11 = .ok (.invokevirtual 228, 3) := by decide +kernel
theorem dX12_works_14 : decode cX12_works 14 = .ok (.iconst 0, 1) := by decide +kernel
theorem dX12_works_15 : decode cX12_works 15 = .ok (.istore_n 3, 1) := by decide +kernel
theorem dX12_works_16 : decode cX12_works 16 = .ok (.iload_n 3, 1) := by decide +kernel
theorem dX12_works_17 : decode cX12_works 17 = .ok (.aload_n 0, 1) := by decide +kernel
theorem dX12_works_18 : decode cX12_works 18 = .ok (.getfield 145, 3) := by decide +kernel
theorem dX12_works_21 : decode cX12_works 21 = .ok (.if_icmp .ge 21, 3) := by decide +kernel
theorem dX12_works_24 : decode cX12_works 24 = .ok (.aload_n 0, 1) := by decide +kernel
theorem dX12_works_25 : decode cX12_works 25 = .ok (.getfield 13, 3) := by decide +kernel
theorem dX12_works_28 : decode cX12_works 28 = .ok (.iload_n 3, 1) := by decide +kernel
theorem dX12_works_29 : decode cX12_works 29 = .ok (.aload_n 0, 1) := by decide +kernel
theorem dX12_works_30 : decode cX12_works 30 = .ok (.getfield 47, 3) := by decide +kernel
theorem dX12_works_33 : decode cX12_works 33 = .ok (.iload_n 3, 1) := by decide +kernel
theorem dX12_works_34 : decode cX12_works 34 = .ok (.iaload, 1) := by decide +kernel
theorem dX12_works_35 : decode cX12_works 35 = .ok (.iastore, 1) := by decide +kernel
theorem dX12_works_36 : decode cX12_works 36 = .ok (.iinc 3 1, 3) := by decide +kernel
theorem dX12_works_39 : decode cX12_works 39 = .ok (.goto (-23), 3) := by decide +kernel
theorem dX12_works_42 : decode cX12_works 42 = .ok (.return_, 1) := by decide +kernel
theorem dX12_wrong_0 : decode cX12_wrong 0 = .ok (.iconst 0, 1) := by decide +kernel
theorem dX12_wrong_1 : decode cX12_wrong 1 = .ok (.istore_n 1, 1) := by decide +kernel
theorem dX12_wrong_2 : decode cX12_wrong 2 = .ok (.iconst 0, 1) := by decide +kernel
theorem dX12_wrong_3 : decode cX12_wrong 3 = .ok (.istore_n 2, 1) := by decide +kernel
theorem dX12_wrong_4 : decode cX12_wrong 4 = .ok (.iload_n 2, 1) := by decide +kernel
theorem dX12_wrong_5 : decode cX12_wrong 5 = .ok (.aload_n 0, 1) := by decide +kernel
theorem dX12_wrong_6 : decode cX12_wrong 6 = .ok (.getfield 145, 3) := by decide +kernel
theorem dX12_wrong_9 : decode cX12_wrong 9 = .ok (.if_icmp .ge 23, 3) := by decide +kernel
theorem dX12_wrong_12 : decode cX12_wrong 12 = .ok (.aload_n 0, 1) := by decide +kernel
theorem dX12_wrong_13 : decode cX12_wrong 13 = .ok (.iload_n 2, 1) := by decide +kernel
theorem dX12_wrong_14 : decode cX12_wrong 14 = .ok (.invokevirtual 222, 3) := by decide +kernel
theorem dX12_wrong_17 : decode cX12_wrong 17 = .ok (.ifCond .eq 9, 3) := by decide +kernel
theorem dX12_wrong_20 : decode cX12_wrong 20 = .ok (.iload_n 1, 1) := by decide +kernel
theorem dX12_wrong_21 : decode cX12_wrong 21 = .ok (.iconst 1, 1) := by decide +kernel
theorem dX12_wrong_22 : decode cX12_wrong 22 = .ok (.iload_n 2, 1) := by decide +kernel
theorem dX12_wrong_23 : decode cX12_wrong 23 = .ok (.ishl, 1) := by decide +kernel
theorem dX12_wrong_24 : decode cX12_wrong 24 = .ok (.ior, 1) := by decide +kernel
theorem dX12_wrong_25 : decode cX12_wrong 25 = .ok (.istore_n 1, 1) := by decide +kernel
theorem dX12_wrong_26 : decode cX12_wrong 26 = .ok (.iinc 2 1, 3) := by decide +kernel
theorem dX12_wrong_29 : decode cX12_wrong 29 = .ok (.goto (-25), 3) := by decide +kernel
theorem dX12_wrong_32 : decode cX12_wrong 32 = .ok (.iload_n 1, 1) := by decide +kernel
theorem dX12_wrong_33 : decode cX12_wrong 33 = .ok (.ireturn, 1) := by decide +kernel
theorem dX12_wrongAt_0 : decode cX12_wrongAt 0 = .ok (.aload_n 0, 1) := by decide +kernel
theorem dX12_wrongAt_1 : decode cX12_wrongAt 1 = .ok (.sipush (-1000), 3) := by decide +kernel
theorem dX12_wrongAt_4 : decode cX12_wrongAt 4 = .ok (.iload_n 1, 1) := by decide +kernel
theorem dX12_wrongAt_5 : decode cX12_wrongAt 5 = .ok (.imul, 1) := by decide +kernel
theorem dX12_wrongAt_6 : decode cX12_wrongAt 6 = .ok (.iload_n 2, 1) := by decide +kernel
theorem dX12_wrongAt_7 : decode cX12_wrongAt 7 = .ok (.isub, 1) := by decide +kernel
theorem dX12_wrongAt_8 : decode cX12_wrongAt 8 = .ok (.putfield 195, 3) := by decide +kernel
theorem dX12_wrongAt_11 : decode cX12_wrongAt 11 = .ok (.iconst 0, 1) := by decide +kernel
theorem dX12_wrongAt_12 : decode cX12_wrongAt 12 = .ok (.ireturn, 1) := by decide +kernel
