theorem dX10_day_7 : decode cX10_day 7 = .ok (.if_icmp .ne 6, 3) := by decide +kernel
theorem dX10_day_10 : decode cX10_day 10 = .ok (.bipush (-3), 2) := by decide +kernel
theorem dX10_day_12 : decode cX10_day 12 = .ok (.ireturn, 1) := by decide +kernel
theorem dX10_day_13 : decode cX10_day 13 = .ok (.iconst 0, 1) := by decide +kernel
theorem dX10_day_14 : decode cX10_day 14 = .ok (.istore_n 1, 1) := by decide +kernel
theorem dX10_day_15 : decode cX10_day 15 = .ok (.iconst 0, 1) := by decide +kernel
theorem dX10_day_16 : decode cX10_day 16 = .ok (.istore_n 2, 1) := by decide +kernel
theorem dX10_day_17 : decode cX10_day 17 = .ok (.iload_n 2, 1) := by decide +kernel
theorem dX10_day_18 : decode cX10_day 18 = .ok (.aload_n 0, 1) := by decide +kernel
theorem dX10_day_19 : decode cX10_day 19 = .ok (.getfield 76, 3) := by decide +kernel
theorem dX10_day_22 : decode cX10_day 22 = .ok (.if_icmp .ge 42, 3) := by decide +kernel
theorem dX10_day_25 : decode cX10_day 25 = .ok (.aload_n 0, 1) := by decide +kernel
theorem dX10_day_26 : decode cX10_day 26 = .ok (.iload_n 2, 1) := by decide +kernel
theorem dX10_day_27 : decode cX10_day 27 = .ok (.aload_n 0, 1) := by decide +kernel
theorem dX10_day_28 : decode cX10_day 28 = .ok (.getfield 32, 3) := by decide +kernel
theorem dX10_day_31 : decode cX10_day 31 = .ok (.iload_n 2, 1) := by decide +kernel
theorem dX10_day_32 : decode cX10_day 32 = .ok (.iaload, 1) := by decide +kernel
theorem dX10_day_33 : decode cX10_day 33 = .ok (.iconst 1, 1) := by decide +kernel
theorem dX10_day_34 : decode cX10_day 34 = .ok (.invokevirtual 265, 3) := by decide +kernel
theorem dX10_day_37 : decode cX10_day 37 = .ok (.aload_n 0, 1) := by decide +kernel
theorem dX10_day_38 : decode cX10_day 38 = .ok (.getfield 29, 3) := by decide +kernel
theorem dX10_day_41 : decode cX10_day 41 = .ok (.iconst 3, 1) := by decide +kernel
theorem dX10_day_42 : decode cX10_day 42 = .ok (.iload_n 2, 1) := by decide +kernel
theorem dX10_day_43 : decode cX10_day 43 = .ok (.imul, 1) := by decide +kernel
theorem dX10_day_44 : decode cX10_day 44 = .ok (.iconst 2, 1) := by decide +kernel
theorem dX10_day_45 : decode cX10_day 45 = .ok (.iadd, 1) := by decide +kernel
theorem dX10_day_46 : decode cX10_day 46 = .ok (.aload_n 0, 1) := by decide +kernel
theorem dX10_day_47 : decode cX10_day 47 = .ok (.getfield 256, 3) := by decide +kernel
theorem dX10_day_50 : decode cX10_day 50 = .ok (.iastore, 1) := by decide +kernel
theorem dX10_day_51 : decode cX10_day 51 = .ok (.iload_n 1, 1) := by decide +kernel
theorem dX10_day_52 : decode cX10_day 52 = .ok (.aload_n 0, 1) := by decide +kernel
theorem dX10_day_53 : decode cX10_day 53 = .ok (.getfield 259, 3) := by decide +kernel
theorem dX10_day_56 : decode cX10_day 56 = .ok (.iadd, 1) := by decide +kernel
theorem dX10_day_57 : decode cX10_day 57 = .ok (.istore_n 1, 1) := by decide +kernel
theorem dX10_day_58 : decode cX10_day 58 = .ok (.iinc 2 1, 3) := by decide +kernel
theorem dX10_day_61 : decode cX10_day 61 = .ok (.goto (-44), 3) := by decide +kernel
theorem dX10_day_64 : decode cX10_day 64 = .ok (.aload_n 0, 1) := by decide +kernel
theorem dX10_day_65 : decode cX10_day 65 = .ok (.dup, 1) := by decide +kernel
theorem dX10_day_66 : decode cX10_day 66 = .ok (.getfield 101, 3) := by decide +kernel
theorem dX10_day_69 : decode cX10_day 69 = .ok (.iconst 1, 1) := by decide +kernel
theorem dX10_day_70 : decode cX10_day 70 = .ok (.iadd, 1) := by decide +kernel
theorem dX10_day_71 : decode cX10_day 71 = .ok (.putfield 101, 3) := by decide +kernel
theorem dX10_day_74 : decode cX10_day 74 = .ok (.iload_n 1, 1) := by decide +kernel
theorem dX10_day_75 : decode cX10_day 75 = .ok (.ireturn, 1) := by decide +kernel
theorem dX10_run_0 : decode cX10_run 0 = .ok (.iload_n 2, 1) := by decide +kernel
theorem dX10_run_1 : decode cX10_run 1 = .ok (.i2l, 1) := by decide +kernel
theorem dX10_run_2 : decode cX10_run 2 = .ok (.ldc2_w 117, 3) := by decide +kernel
theorem dX10_run_5 : decode cX10_run 5 = .ok (.ldc2_w 268, 3) := by decide +kernel
theorem dX10_run_8 : decode cX10_run 8 = .ok (.invokestatic 79, 3) := by decide +kernel
theorem dX10_run_11 : decode cX10_run 11 = .ok (.ifCond .eq 18, 3) := by decide +kernel
theorem dX10_run_14 : decode cX10_run 14 = .ok (.aload_n 0, 1) := by decide +kernel
theorem dX10_run_15 : decode cX10_run 15 = .ok (.iload_n 2, 1) := by decide +kernel
theorem dX10_run_16 : decode cX10_run 16 = .ok (.bipush 10, 2) := by decide +kernel
theorem dX10_run_18 : decode cX10_run 18 = .ok (.irem, 1) := by decide +kernel
theorem dX10_run_19 : decode cX10_run 19 = .ok (.invokevirtual 85, 3) := by decide +kernel
theorem dX10_run_22 : decode cX10_run 22 = .ok (.ifCond .eq 7, 3) := by decide +kernel
theorem dX10_run_25 : decode cX10_run 25 = .ok (.iconst 1, 1) := by decide +kernel
theorem dX10_run_26 : decode cX10_run 26 = .ok (.goto 4, 3) := by decide +kernel
theorem dX10_run_29 : decode cX10_run 29 = .ok (.iconst 0, 1) := by decide +kernel
theorem dX10_run_30 : decode cX10_run 30 = .ok (.istore_n 3, 1) := by decide +kernel
theorem dX10_run_31 : decode cX10_run 31 = .ok (.iload_n 1, 1) := by decide +kernel
theorem dX10_run_32 : decode cX10_run 32 = .ok (.i2l, 1) := by decide +kernel
theorem dX10_run_33 : decode cX10_run 33 = .ok (.lconst 0, 1) := by decide +kernel
theorem dX10_run_34 : decode cX10_run 34 = .ok (.ldc2_w 270, 3) := by decide +kernel
theorem dX10_run_37 : decode cX10_run 37 = .ok (.invokestatic 79, 3) := by decide +kernel
theorem dX10_run_40 : decode cX10_run 40 = .ok (.ifCond .eq 17, 3) := by decide +kernel
theorem dX10_run_43 : decode cX10_run 43 = .ok (.iload_n 2, 1) := by decide +kernel
theorem dX10_run_44 : decode cX10_run 44 = .ok (.i2l, 1) := by decide +kernel
theorem dX10_run_45 : decode cX10_run 45 = .ok (.lconst 0, 1) := by decide +kernel
theorem dX10_run_46 : decode cX10_run 46 = .ok (.lconst 1, 1) := by decide +kernel
theorem dX10_run_47 : decode cX10_run 47 = .ok (.invokestatic 79, 3) := by decide +kernel
theorem dX10_run_50 : decode cX10_run 50 = .ok (.ifCond .ne 10, 3) := by decide +kernel
theorem dX10_run_53 : decode cX10_run 53 = .ok (.iload_n 3, 1) := by decide +kernel
theorem dX10_run_54 : decode cX10_run 54 = .ok (.ifCond .ne 6, 3) := by decide +kernel
theorem dX10_run_57 : decode cX10_run 57 = .ok (.bipush (-2), 2) := by decide +kernel
theorem dX10_run_59 : decode cX10_run 59 = .ok (.ireturn, 1) := by decide +kernel
theorem dX10_run_60 : decode cX10_run 60 = .ok (.iload_n 3, 1) := by decide +kernel
theorem dX10_run_61 : decode cX10_run 61 = .ok (.ifCond .eq 39, 3) := by decide +kernel
theorem dX10_run_64 : decode cX10_run 64 = .ok (.aload_n 0, 1) := by decide +kernel
theorem dX10_run_65 : decode cX10_run 65 = .ok (.iload_n 2, 1) := by decide +kernel
theorem dX10_run_66 : decode cX10_run 66 = .ok (.bipush 10, 2) := by decide +kernel
theorem dX10_run_68 : decode cX10_run 68 = .ok (.irem, 1) := by decide +kernel
theorem dX10_run_69 : decode cX10_run 69 = .ok (.aload_n 0, 1) := by decide +kernel
theorem dX10_run_70 : decode cX10_run 70 = .ok (.getfield 32, 3) := by decide +kernel
theorem dX10_run_73 : decode cX10_run 73 = .ok (.iload_n 2, 1) := by decide +kernel
theorem dX10_run_74 : decode cX10_run 74 = .ok (.bipush 10, 2) := by decide +kernel
theorem dX10_run_76 : decode cX10_run 76 = .ok (.irem, 1) := by decide +kernel
theorem dX10_run_77 : decode cX10_run 77 = .ok (.iaload, 1) := by decide +kernel
theorem dX10_run_78 : decode cX10_run 78 = .ok (.iload_n 1, 1) := by decide +kernel
theorem dX10_run_79 : decode cX10_run 79 = .ok (.invokevirtual 265, 3) := by decide +kernel
theorem dX10_run_82 : decode cX10_run 82 = .ok (.iload_n 2, 1) := by decide +kernel
theorem dX10_run_83 : decode cX10_run 83 = .ok (.bipush 20, 2) := by decide +kernel
theorem dX10_run_85 : decode cX10_run 85 = .ok (.if_icmp .ge 10, 3) := by decide +kernel
theorem dX10_run_88 : decode cX10_run 88 = .ok (.aload_n 0, 1) := by decide +kernel
theorem dX10_run_89 : decode cX10_run 89 = .ok (.getfield 256, 3) := by decide +kernel
theorem dX10_run_92 : decode cX10_run 92 = .ok (.goto 7, 3) := by decide +kernel
theorem dX10_run_95 : decode cX10_run 95 = .ok (.aload_n 0, 1) := by decide +kernel
theorem dX10_run_96 : decode cX10_run 96 = .ok (.getfield 262, 3) := by decide +kernel
theorem dX10_run_99 : decode cX10_run 99 = .ok (.ireturn, 1) := by decide +kernel
theorem dX10_run_100 : decode cX10_run 100 = .ok (.iconst 0, 1) := by decide +kernel
theorem dX10_run_101 : decode cX10_run 101 = .ok (.istore 4, 2) := by decide +kernel
theorem dX10_run_103 : decode cX10_run 103 = .ok (.iconst 0, 1) := by decide +kernel
theorem dX10_run_104 : decode cX10_run 104 = .ok (.istore 5, 2) := by decide +kernel
theorem dX10_run_106 : decode cX10_run 106 = .ok (.iload 5, 2) := by decide +kernel
theorem dX10_run_108 : decode cX10_run 108 = .ok (.aload_n 0, 1) := by decide +kernel
theorem dX10_run_109 : decode cX10_run 109 = .ok (.getfield 76, 3) := by decide +kernel
theorem dX10_run_112 : decode cX10_run 112 = .ok (.if_icmp .ge 43, 3) := by decide +kernel
theorem dX10_run_115 : decode cX10_run 115 = .ok (.aload_n 0, 1) := by decide +kernel
theorem dX10_run_116 : decode cX10_run 116 = .ok (.iload 5, 2) := by decide +kernel
theorem dX10_run_118 : decode cX10_run 118 = .ok (.aload_n 0, 1) := by decide +kernel
theorem dX10_run_119 : decode cX10_run 119 = .ok (.getfield 32, 3) := by decide +kernel
theorem dX10_run_122 : decode cX10_run 122 = .ok (.iload 5, 2) := by decide +kernel
theorem dX10_run_124 : decode cX10_run 124 = .ok (.iaload, 1) := by decide +kernel
theorem dX10_run_125 : decode cX10_run 125 = .ok (.iload_n 1, 1) := by decide +kernel
theorem dX10_run_126 : decode cX10_run 126 = .ok (.invokevirtual 265, 3) := by decide +kernel
theorem dX10_run_129 : decode cX10_run 129 = .ok (.iload 4, 2) := by decide +kernel
theorem dX10_run_131 : decode cX10_run 131 = .ok (.iload_n 2, 1) := by decide +kernel
theorem dX10_run_132 : decode cX10_run 132 = .ok (.ifCond .ne 10, 3) := by decide +kernel
theorem dX10_run_135 : decode cX10_run 135 = .ok (.aload_n 0, 1) := by decide +kernel
theorem dX10_run_136 : decode cX10_run 136 = .ok (.getfield 256, 3) := by decide +kernel
theorem dX10_run_139 : decode cX10_run 139 = .ok (.goto 7, 3) := by decide +kernel
theorem dX10_run_142 : decode cX10_run 142 = .ok (.aload_n 0, 1) := by decide +kernel
theorem dX10_run_143 : decode cX10_run 143 = .ok (.getfield 259, 3) := by decide +kernel
theorem dX10_run_146 : decode cX10_run 146 = .ok (.iadd, 1) := by decide +kernel
theorem dX10_run_147 : decode cX10_run 147 = .ok (.istore 4, 2) := by decide +kernel
theorem dX10_run_149 : decode cX10_run 149 = .ok (.iinc 5 1, 3) := by decide +kernel
theorem dX10_run_152 : decode cX10_run 152 = .ok (.goto (-46), 3) := by decide +kernel
theorem dX10_run_155 : decode cX10_run 155 = .ok (.iload 4, 2) := by decide +kernel
theorem dX10_run_157 : decode cX10_run 157 = .ok (.ireturn, 1) := by decide +kernel
theorem dX10_ringOf_0 : decode cX10_ringOf 0 = .ok (.iconst 0, 1) := by decide +kernel
theorem dX10_ringOf_1 : decode cX10_ringOf 1 = .ok (.istore_n 2, 1) := by decide +kernel
theorem dX10_ringOf_2 : decode cX10_ringOf 2 = .ok (.iload_n 1, 1) := by decide +kernel
theorem dX10_ringOf_3 : decode cX10_ringOf 3 = .ok (.istore_n 3, 1) := by decide +kernel
theorem dX10_ringOf_4 : decode cX10_ringOf 4 = .ok (.iload_n 2, 1) := by decide +kernel
theorem dX10_ringOf_5 : decode cX10_ringOf 5 = .ok (.iload_n 3, 1) := by decide +kernel
theorem dX10_ringOf_6 : decode cX10_ringOf 6 = .ok (.ishr, 1) := by decide +kernel
theorem dX10_ringOf_7 : decode cX10_ringOf 7 = .ok (.iconst 1, 1) := by decide +kernel
theorem dX10_ringOf_8 : decode cX10_ringOf 8 = .ok (.iand, 1) := by decide +kernel
theorem dX10_ringOf_9 : decode cX10_ringOf 9 = .ok (.ifCond .ne 19, 3) := by decide +kernel
theorem dX10_ringOf_12 : decode cX10_ringOf 12 = .ok (.iload_n 2, 1) := by decide +kernel
theorem dX10_ringOf_13 : decode cX10_ringOf 13 = .ok (.iconst 1, 1) := by decide +kernel
theorem dX10_ringOf_14 : decode cX10_ringOf 14 = .ok (.iload_n 3, 1) := by decide +kernel
theorem dX10_ringOf_15 : decode cX10_ringOf 15 = .ok (.ishl, 1) := by decide +kernel
theorem dX10_ringOf_16 : decode cX10_ringOf 16 = .ok (.ior, 1) := by decide +kernel
theorem dX10_ringOf_17 : decode cX10_ringOf 17 = .ok (.istore_n 2, 1) := by decide +kernel
theorem dX10_ringOf_18 : decode cX10_ringOf 18 = .ok (.aload_n 0, 1) := by decide +kernel
theorem dX10_ringOf_19 : decode cX10_ringOf 19 = .ok (.getfield 32, 3) := by decide +kernel
theorem dX10_ringOf_22 : decode cX10_ringOf 22 = .ok (.iload_n 3, 1) := by decide +kernel
theorem dX10_ringOf_23 : decode cX10_ringOf 23 = .ok (.iaload, 1) := by decide +kernel
theorem dX10_ringOf_24 : decode cX10_ringOf 24 = .ok (.istore_n 3, 1) := by decide +kernel
theorem dX10_ringOf_25 : decode cX10_ringOf 25 = .ok (.goto (-21), 3) := by decide +kernel
theorem dX10_ringOf_28 : decode cX10_ringOf 28 = .ok (.iload_n 2, 1) := by decide +kernel
theorem dX10_ringOf_29 : decode cX10_ringOf 29 = .ok (.ireturn, 1) := by decide +kernel
theorem dX10_bitsOf_0 : decode cX10_bitsOf 0 = .ok (.iconst 0, 1) := by decide +kernel
theorem dX10_bitsOf_1 : decode cX10_bitsOf 1 = .ok (.istore_n 1, 1) := by decide +kernel
theorem dX10_bitsOf_2 : decode cX10_bitsOf 2 = .ok (.iload_n 0, 1) := by decide +kernel
theorem dX10_bitsOf_3 : decode cX10_bitsOf 3 = .ok (.istore_n 2, 1) := by decide +kernel
theorem dX10_bitsOf_4 : decode cX10_bitsOf 4 = .ok (.iload_n 2, 1) := by decide +kernel
theorem dX10_bitsOf_5 : decode cX10_bitsOf 5 = .ok (.ifCond .eq 15, 3) := by decide +kernel
theorem dX10_bitsOf_8 : decode cX10_bitsOf 8 = .ok (.iinc 1 1, 3) := by decide +kernel
theorem dX10_bitsOf_11 : decode cX10_bitsOf 11 = .ok (.iload_n 2, 1) := by decide +kernel
theorem dX10_bitsOf_12 : decode cX10_bitsOf 12 = .ok (.iload_n 2, 1) := by decide +kernel
theorem dX10_bitsOf_13 : decode cX10_bitsOf 13 = .ok (.iconst 1, 1) := by decide +kernel
theorem dX10_bitsOf_14 : decode cX10_bitsOf 14 = .ok (.isub, 1) := by decide +kernel
theorem dX10_bitsOf_15 : decode cX10_bitsOf 15 = .ok (.iand, 1) := by decide +kernel
theorem dX10_bitsOf_16 : decode cX10_bitsOf 16 = .ok (.istore_n 2, 1) := by decide +kernel
theorem dX10_bitsOf_17 : decode cX10_bitsOf 17 = .ok (.goto (-13), 3) := by decide +kernel
theorem dX10_bitsOf_20 : decode cX10_bitsOf 20 = .ok (.iload_n 1, 1) := by decide +kernel
theorem dX10_bitsOf_21 : decode cX10_bitsOf 21 = .ok (.ireturn, 1) := by decide +kernel
theorem dX10_ringMany_0 : decode cX10_ringMany 0 = .ok (.iconst 0, 1) := by decide +kernel
theorem dX10_ringMany_1 : decode cX10_ringMany 1 = .ok (.istore_n 1, 1) := by decide +kernel
theorem dX10_ringMany_2 : decode cX10_ringMany 2 = .ok (.iconst 0, 1) := by decide +kernel
theorem dX10_ringMany_3 : decode cX10_ringMany 3 = .ok (.istore_n 2, 1) := by decide +kernel
theorem dX10_ringMany_4 : decode cX10_ringMany 4 = .ok (.iload_n 2, 1) := by decide +kernel
theorem dX10_ringMany_5 : decode cX10_ringMany 5 = .ok (.aload_n 0, 1) := by decide +kernel
theorem dX10_ringMany_6 : decode cX10_ringMany 6 = .ok (.getfield 76, 3) := by decide +kernel
theorem dX10_ringMany_9 : decode cX10_ringMany 9 = .ok (.if_icmp .ge 31, 3) := by decide +kernel
theorem dX10_ringMany_12 : decode cX10_ringMany 12 = .ok (.iload_n 1, 1) := by decide +kernel
theorem dX10_ringMany_13 : decode cX10_ringMany 13 = .ok (.aload_n 0, 1) := by decide +kernel
theorem dX10_ringMany_14 : decode cX10_ringMany 14 = .ok (.iload_n 2, 1) := by decide +kernel
theorem dX10_ringMany_15 : decode cX10_ringMany 15 = .ok (.invokevirtual 272, 3) := by decide +kernel
theorem dX10_ringMany_18 : decode cX10_ringMany 18 = .ok (.iconst 1, 1) := by decide +kernel
theorem dX10_ringMany_19 : decode cX10_ringMany 19 = .ok (.iload_n 2, 1) := by decide +kernel
theorem dX10_ringMany_20 : decode cX10_ringMany 20 = .ok (.ishl, 1) := by decide +kernel
theorem dX10_ringMany_21 : decode cX10_ringMany 21 = .ok (.iconst 1, 1) := by decide +kernel
theorem dX10_ringMany_22 : decode cX10_ringMany 22 = .ok (.isub, 1) := by decide +kernel
theorem dX10_ringMany_23 : decode cX10_ringMany 23 = .ok (.iand, 1) := by decide +kernel
theorem dX10_ringMany_24 : decode cX10_ringMany 24 = .ok (.ifCond .ne 7, 3) := by decide +kernel
theorem dX10_ringMany_27 : decode cX10_ringMany 27 = .ok (.iconst 1, 1) := by decide +kernel
theorem dX10_ringMany_28 : decode cX10_ringMany 28 = .ok (.goto 4, 3) := by decide +kernel
theorem dX10_ringMany_31 : decode cX10_ringMany 31 = .ok (.iconst 0, 1) := by decide +kernel
theorem dX10_ringMany_32 : decode cX10_ringMany 32 = .ok (.iadd, 1) := by decide +kernel
theorem dX10_ringMany_33 : decode cX10_ringMany 33 = .ok (.istore_n 1, 1) := by decide +kernel
theorem dX10_ringMany_34 : decode cX10_ringMany 34 = .ok (.iinc 2 1, 3) := by decide +kernel
theorem dX10_ringMany_37 : decode cX10_ringMany 37 = .ok (.goto (-33), 3) := by decide +kernel
theorem dX10_ringMany_40 : decode cX10_ringMany 40 = .ok (.iload_n 1, 1) := by decide +kernel
theorem dX10_ringMany_41 : decode cX10_ringMany 41 = .ok (.ireturn, 1) := by decide +kernel
theorem dX10_firstChange_0 : decode cX10_firstChange 0 = .ok (.iconst 0, 1) := by decide +kernel
theorem dX10_firstChange_1 : decode cX10_firstChange 1 = .ok (.istore_n 1, 1) := by decide +kernel
theorem dX10_firstChange_2 : decode cX10_firstChange 2 = .ok (.iload_n 1, 1) := by decide +kernel
theorem dX10_firstChange_3 : decode cX10_firstChange 3 = .ok (.aload_n 0, 1) := by decide +kernel
theorem dX10_firstChange_4 : decode cX10_firstChange 4 = .ok (.getfield 76, 3) := by decide +kernel
theorem dX10_firstChange_7 : decode cX10_firstChange 7 = .ok (.if_icmp .ge 47, 3) := by decide +kernel
theorem dX10_firstChange_10 : decode cX10_firstChange 10 = .ok (.iload_n 1, 1) := by decide +kernel
theorem dX10_firstChange_11 : decode cX10_firstChange 11 = .ok (.iconst 1, 1) := by decide +kernel
theorem dX10_firstChange_12 : decode cX10_firstChange 12 = .ok (.iadd, 1) := by decide +kernel
theorem dX10_firstChange_13 : decode cX10_firstChange 13 = .ok (.istore_n 2, 1) := by decide +kernel
theorem dX10_firstChange_14 : decode cX10_firstChange 14 = .ok (.iload_n 2, 1) := by decide +kernel
theorem dX10_firstChange_15 : decode cX10_firstChange 15 = .ok (.aload_n 0, 1) := by decide +kernel
theorem dX10_firstChange_16 : decode cX10_firstChange 16 = .ok (.getfield 76, 3) := by decide +kernel
theorem dX10_firstChange_19 : decode cX10_firstChange 19 = .ok (.if_icmp .ge 29, 3) := by decide +kernel
theorem dX10_firstChange_22 : decode cX10_firstChange 22 = .ok (.aload_n 0, 1) := by decide +kernel
theorem dX10_firstChange_23 : decode cX10_firstChange 23 = .ok (.iload_n 1, 1) := by decide +kernel
theorem dX10_firstChange_24 : decode cX10_firstChange 24 = .ok (.invokevirtual 272, 3) := by decide +kernel
theorem dX10_firstChange_27 : decode cX10_firstChange 27 = .ok (.iload_n 2, 1) := by decide +kernel
theorem dX10_firstChange_28 : decode cX10_firstChange 28 = .ok (.ishr, 1) := by decide +kernel
theorem dX10_firstChange_29 : decode cX10_firstChange 29 = .ok (.iconst 1, 1) := by decide +kernel
theorem dX10_firstChange_30 : decode cX10_firstChange 30 = .ok (.iand, 1) := by decide +kernel
theorem dX10_firstChange_31 : decode cX10_firstChange 31 = .ok (.iconst 1, 1) := by decide +kernel
theorem dX10_firstChange_32 : decode cX10_firstChange 32 = .ok (.if_icmp .ne 10, 3) := by decide +kernel
theorem dX10_firstChange_35 : decode cX10_firstChange 35 = .ok (.bipush 10, 2) := by decide +kernel
theorem dX10_firstChange_37 : decode cX10_firstChange 37 = .ok (.iload_n 1, 1) := by decide +kernel
theorem dX10_firstChange_38 : decode cX10_firstChange 38 = .ok (.imul, 1) := by decide +kernel
theorem dX10_firstChange_39 : decode cX10_firstChange 39 = .ok (.iload_n 2, 1) := by decide +kernel
theorem dX10_firstChange_40 : decode cX10_firstChange 40 = .ok (.iadd, 1) := by decide +kernel
theorem dX10_firstChange_41 : decode cX10_firstChange 41 = .ok (.ireturn, 1) := by decide +kernel
theorem dX10_firstChange_42 : decode cX10_firstChange 42 = .ok (.iinc 2 1, 3) := by decide +kernel
theorem dX10_firstChange_45 : decode cX10_firstChange 45 = .ok (.goto (-31), 3) := by decide +kernel
theorem dX10_firstChange_48 : decode cX10_firstChange 48 = .ok (.iinc 1 1, 3) := by decide +kernel
theorem dX10_firstChange_51 : decode cX10_firstChange 51 = .ok (.goto (-49), 3) := by decide +kernel
theorem dX10_firstChange_54 : decode cX10_firstChange 54 = .ok (.iconst (-1), 1) := by decide +kernel
theorem dX10_firstChange_55 : decode cX10_firstChange 55 = .ok (.ireturn, 1) := by decide +kernel
theorem dX10_rings_0 : decode cX10_rings 0 = .ok (.iload_n 1, 1) := by decide +kernel
theorem dX10_rings_1 : decode cX10_rings 1 = .ok (.i2l, 1) := by decide +kernel
theorem dX10_rings_2 : decode cX10_rings 2 = .ok (.lconst 0, 1) := by decide +kernel
theorem dX10_rings_3 : decode cX10_rings 3 = .ok (.ldc2_w 83, 3) := by decide +kernel
theorem dX10_rings_6 : decode cX10_rings 6 = .ok (.invokestatic 79, 3) := by decide +kernel
theorem dX10_rings_9 : decode cX10_rings 9 = .ok (.ifCond .ne 6, 3) := by decide +kernel
theorem dX10_rings_12 : decode cX10_rings 12 = .ok (.bipush (-2), 2) := by decide +kernel
theorem dX10_rings_14 : decode cX10_rings 14 = .ok (.ireturn, 1) := by decide +kernel
theorem dX10_rings_15 : decode cX10_rings 15 = .ok (.iload_n 1, 1) := by decide +kernel
theorem dX10_rings_16 : decode cX10_rings 16 = .ok (.ifCond .eq 8, 3) := by decide +kernel
theorem dX10_rings_19 : decode cX10_rings 19 = .ok (.iload_n 1, 1) := by decide +kernel
theorem dX10_rings_20 : decode cX10_rings 20 = .ok (.iconst 2, 1) := by decide +kernel
theorem dX10_rings_21 : decode cX10_rings 21 = .ok (.if_icmp .ne 24, 3) := by decide +kernel
theorem dX10_rings_24 : decode cX10_rings 24 = .ok (.iload_n 1, 1) := by decide +kernel
theorem dX10_rings_25 : decode cX10_rings 25 = .ok (.ifCond .ne 10, 3) := by decide +kernel
theorem dX10_rings_28 : decode cX10_rings 28 = .ok (.aload_n 0, 1) := by decide +kernel
theorem dX10_rings_29 : decode cX10_rings 29 = .ok (.invokevirtual 275, 3) := by decide +kernel
theorem dX10_rings_32 : decode cX10_rings 32 = .ok (.goto 12, 3) := by decide +kernel
theorem dX10_rings_35 : decode cX10_rings 35 = .ok (.aload_n 0, 1) := by decide +kernel
theorem dX10_rings_36 : decode cX10_rings 36 = .ok (.getfield 76, 3) := by decide +kernel
theorem dX10_rings_39 : decode cX10_rings 39 = .ok (.aload_n 0, 1) := by decide +kernel
theorem dX10_rings_40 : decode cX10_rings 40 = .ok (.invokevirtual 275, 3) := by decide +kernel
theorem dX10_rings_43 : decode cX10_rings 43 = .ok (.isub, 1) := by decide +kernel
theorem dX10_rings_44 : decode cX10_rings 44 = .ok (.ireturn, 1) := by decide +kernel
theorem dX10_rings_45 : decode cX10_rings 45 = .ok (.iload_n 1, 1) := by decide +kernel
theorem dX10_rings_46 : decode cX10_rings 46 = .ok (.iconst 3, 1) := by decide +kernel
theorem dX10_rings_47 : decode cX10_rings 47 = .ok (.if_icmp .ne 8, 3) := by decide +kernel
theorem dX10_rings_50 : decode cX10_rings 50 = .ok (.aload_n 0, 1) := by decide +kernel
theorem dX10_rings_51 : decode cX10_rings 51 = .ok (.invokevirtual 278, 3) := by decide +kernel
theorem dX10_rings_54 : decode cX10_rings 54 = .ok (.ireturn, 1) := by decide +kernel
theorem dX10_rings_55 : decode cX10_rings 55 = .ok (.iconst 0, 1) := by decide +kernel
theorem dX10_rings_56 : decode cX10_rings 56 = .ok (.istore_n 2, 1) := by decide +kernel
theorem dX10_rings_57 : decode cX10_rings 57 = .ok (.iconst 0, 1) := by decide +kernel
theorem dX10_rings_58 : decode cX10_rings 58 = .ok (.istore_n 3, 1) := by decide +kernel
theorem dX10_rings_59 : decode cX10_rings 59 = .ok (.iconst 0, 1) := by decide +kernel
theorem dX10_rings_60 : decode cX10_rings 60 = .ok (.istore 4, 2) := by decide +kernel
theorem dX10_rings_62 : decode cX10_rings 62 = .ok (.iload 4, 2) := by decide +kernel
theorem dX10_rings_64 : decode cX10_rings 64 = .ok (.aload_n 0, 1) := by decide +kernel
theorem dX10_rings_65 : decode cX10_rings 65 = .ok (.getfield 76, 3) := by decide +kernel
theorem dX10_rings_68 : decode cX10_rings 68 = .ok (.if_icmp .ge 59, 3) := by decide +kernel
theorem dX10_rings_71 : decode cX10_rings 71 = .ok (.aload_n 0, 1) := by decide +kernel
theorem dX10_rings_72 : decode cX10_rings 72 = .ok (.iload 4, 2) := by decide +kernel
theorem dX10_rings_74 : decode cX10_rings 74 = .ok (.invokevirtual 272, 3) := by decide +kernel
theorem dX10_rings_77 : decode cX10_rings 77 = .ok (.invokestatic 281, 3) := by decide +kernel
theorem dX10_rings_80 : decode cX10_rings 80 = .ok (.iload_n 2, 1) := by decide +kernel
theorem dX10_rings_81 : decode cX10_rings 81 = .ok (.if_icmp .le 15, 3) := by decide +kernel
theorem dX10_rings_84 : decode cX10_rings 84 = .ok (.aload_n 0, 1) := by decide +kernel
theorem dX10_rings_85 : decode cX10_rings 85 = .ok (.iload 4, 2) := by decide +kernel
theorem dX10_rings_87 : decode cX10_rings 87 = .ok (.invokevirtual 272, 3) := by decide +kernel
theorem dX10_rings_90 : decode cX10_rings 90 = .ok (.invokestatic 281, 3) := by decide +kernel
theorem dX10_rings_93 : decode cX10_rings 93 = .ok (.goto 4, 3) := by decide +kernel
theorem dX10_rings_96 : decode cX10_rings 96 = .ok (.iload_n 2, 1) := by decide +kernel
theorem dX10_rings_97 : decode cX10_rings 97 = .ok (.istore_n 2, 1) := by decide +kernel
theorem dX10_rings_98 : decode cX10_rings 98 = .ok (.iload_n 3, 1) := by decide +kernel
theorem dX10_rings_99 : decode cX10_rings 99 = .ok (.aload_n 0, 1) := by decide +kernel
theorem dX10_rings_100 : decode cX10_rings 100 = .ok (.getfield 32, 3) := by decide +kernel
theorem dX10_rings_103 : decode cX10_rings 103 = .ok (.iload 4, 2) := by decide +kernel
theorem dX10_rings_105 : decode cX10_rings 105 = .ok (.iaload, 1) := by decide +kernel
theorem dX10_rings_106 : decode cX10_rings 106 = .ok (.iload 4, 2) := by decide +kernel
theorem dX10_rings_108 : decode cX10_rings 108 = .ok (.if_icmp .ne 7, 3) := by decide +kernel
theorem dX10_rings_111 : decode cX10_rings 111 = .ok (.iconst 1, 1) := by decide +kernel
theorem dX10_rings_112 : decode cX10_rings 112 = .ok (.goto 4, 3) := by decide +kernel
theorem dX10_rings_115 : decode cX10_rings 115 = .ok (.iconst 0, 1) := by decide +kernel
theorem dX10_rings_116 : decode cX10_rings 116 = .ok (.iload 4, 2) := by decide +kernel
theorem dX10_rings_118 : decode cX10_rings 118 = .ok (.ishl, 1) := by decide +kernel
theorem dX10_rings_119 : decode cX10_rings 119 = .ok (.ior, 1) := by decide +kernel
theorem dX10_rings_120 : decode cX10_rings 120 = .ok (.istore_n 3, 1) := by decide +kernel
theorem dX10_rings_121 : decode cX10_rings 121 = .ok (.iinc 4 1, 3) := by decide +kernel
theorem dX10_rings_124 : decode cX10_rings 124 = .ok (.goto (-62), 3) := by decide +kernel
theorem dX10_rings_127 : decode cX10_rings 127 = .ok (.iload_n 1, 1) := by decide +kernel
theorem dX10_rings_128 : decode cX10_rings 128 = .ok (.iconst 1, 1) := by decide +kernel
theorem dX10_rings_129 : decode cX10_rings 129 = .ok (.if_icmp .ne 7, 3) := by decide +kernel
theorem dX10_rings_132 : decode cX10_rings 132 = .ok (.iload_n 2, 1) := by decide +kernel
theorem dX10_rings_133 : decode cX10_rings 133 = .ok (.goto 4, 3) := by decide +kernel
theorem dX10_rings_136 : decode cX10_rings 136 = .ok (.iload_n 3, 1) := by decide +kernel
theorem dX10_rings_137 : decode cX10_rings 137 = .ok (.ireturn, 1) := by decide +kernel
theorem dX10_ring_0 : decode cX10_ring 0 = .ok (.aload_n 0, 1) := by decide +kernel
theorem dX10_ring_1 : decode cX10_ring 1 = .ok (.iload_n 1, 1) := by decide +kernel
theorem dX10_ring_2 : decode cX10_ring 2 = .ok (.invokevirtual 85, 3) := by decide +kernel
theorem dX10_ring_5 : decode cX10_ring 5 = .ok (.ifCond .eq 11, 3) := by decide +kernel
theorem dX10_ring_8 : decode cX10_ring 8 = .ok (.aload_n 0, 1) := by decide +kernel
theorem dX10_ring_9 : decode cX10_ring 9 = .ok (.iload_n 1, 1) := by decide +kernel
theorem dX10_ring_10 : decode cX10_ring 10 = .ok (.invokevirtual 272, 3) := by decide +kernel
theorem dX10_ring_13 : decode cX10_ring 13 = .ok (.goto 5, 3) := by decide +kernel
theorem dX10_ring_16 : decode cX10_ring 16 = .ok (.bipush (-2), 2) := by decide +kernel
theorem dX10_ring_18 : decode cX10_ring 18 = .ok (.ireturn, 1) := by decide +kernel
theorem dX10_tables_0 : decode cX10_tables 0 = .ok (.iconst 0, 1) := by decide +kernel
theorem dX10_tables_1 : decode cX10_tables 1 = .ok (.istore_n 2, 1) := by decide +kernel
theorem dX10_tables_2 : decode cX10_tables 2 = .ok (.iload_n 2, 1) := by decide +kernel
theorem dX10_tables_3 : decode cX10_tables 3 = .ok (.aload_n 0, 1) := by decide +kernel
theorem dX10_tables_4 : decode cX10_tables 4 = .ok (.getfield 76, 3) := by decide +kernel
theorem dX10_tables_7 : decode cX10_tables 7 = .ok (.if_icmp .ge 47, 3) := by decide +kernel
theorem dX10_tables_10 : decode cX10_tables 10 = .ok (.iconst 0, 1) := by decide +kernel
theorem dX10_tables_11 : decode cX10_tables 11 = .ok (.istore_n 3, 1) := by decide +kernel
theorem dX10_tables_12 : decode cX10_tables 12 = .ok (.iload_n 3, 1) := by decide +kernel
theorem dX10_tables_13 : decode cX10_tables 13 = .ok (.aload_n 0, 1) := by decide +kernel
theorem dX10_tables_14 : decode cX10_tables 14 = .ok (.getfield 76, 3) := by decide +kernel
theorem dX10_tables_17 : decode cX10_tables 17 = .ok (.if_icmp .ge 31, 3) := by decide +kernel
theorem dX10_tables_20 : decode cX10_tables 20 = .ok (.aload_n 0, 1) := by decide +kernel
theorem dX10_tables_21 : decode cX10_tables 21 = .ok (.iload_n 2, 1) := by decide +kernel
theorem dX10_tables_22 : decode cX10_tables 22 = .ok (.iload_n 3, 1) := by decide +kernel
theorem dX10_tables_23 : decode cX10_tables 23 = .ok (.iload_n 1, 1) := by decide +kernel
theorem dX10_tables_24 : decode cX10_tables 24 = .ok (.invokevirtual 265, 3) := by decide +kernel
theorem dX10_tables_27 : decode cX10_tables 27 = .ok (.aload_n 0, 1) := by decide +kernel
theorem dX10_tables_28 : decode cX10_tables 28 = .ok (.getfield 35, 3) := by decide +kernel
theorem dX10_tables_31 : decode cX10_tables 31 = .ok (.bipush 6, 2) := by decide +kernel
theorem dX10_tables_33 : decode cX10_tables 33 = .ok (.iload_n 2, 1) := by decide +kernel
theorem dX10_tables_34 : decode cX10_tables 34 = .ok (.imul, 1) := by decide +kernel
theorem dX10_tables_35 : decode cX10_tables 35 = .ok (.iload_n 3, 1) := by decide +kernel
theorem dX10_tables_36 : decode cX10_tables 36 = .ok (.iadd, 1) := by decide +kernel
theorem dX10_tables_37 : decode cX10_tables 37 = .ok (.aload_n 0, 1) := by decide +kernel
theorem dX10_tables_38 : decode cX10_tables 38 = .ok (.getfield 256, 3) := by decide +kernel
theorem dX10_tables_41 : decode cX10_tables 41 = .ok (.iastore, 1) := by decide +kernel
theorem dX10_tables_42 : decode cX10_tables 42 = .ok (.iinc 3 1, 3) := by decide +kernel
theorem dX10_tables_45 : decode cX10_tables 45 = .ok (.goto (-33), 3) := by decide +kernel
theorem dX10_tables_48 : decode cX10_tables 48 = .ok (.iinc 2 1, 3) := by decide +kernel
theorem dX10_tables_51 : decode cX10_tables 51 = .ok (.goto (-49), 3) := by decide +kernel
theorem dX10_tables_54 : decode cX10_tables 54 = .ok (.return_, 1) := by decide +kernel
theorem dX10_warmNow_0 : decode cX10_warmNow 0 = .ok (.iconst 0, 1) := by decide +kernel
theorem dX10_warmNow_1 : decode cX10_warmNow 1 = .ok (.istore_n 1, 1) := by decide +kernel
theorem dX10_warmNow_2 : decode cX10_warmNow 2 = .ok (.iconst 0, 1) := by decide +kernel
theorem dX10_warmNow_3 : decode cX10_warmNow 3 = .ok (.istore_n 2, 1) := by decide +kernel
theorem dX10_warmNow_4 : decode cX10_warmNow 4 = .ok (.iload_n 2, 1) := by decide +kernel
theorem dX10_warmNow_5 : decode cX10_warmNow 5 = .ok (.aload_n 0, 1) := by decide +kernel
theorem dX10_warmNow_6 : decode cX10_warmNow 6 = .ok (.getfield 76, 3) := by decide +kernel
theorem dX10_warmNow_9 : decode cX10_warmNow 9 = .ok (.if_icmp .ge 28, 3) := by decide +kernel
theorem dX10_warmNow_12 : decode cX10_warmNow 12 = .ok (.iload_n 1, 1) := by decide +kernel
theorem dX10_warmNow_13 : decode cX10_warmNow 13 = .ok (.aload_n 0, 1) := by decide +kernel
theorem dX10_warmNow_14 : decode cX10_warmNow 14 = .ok (.getfield 35, 3) := by decide +kernel
theorem dX10_warmNow_17 : decode cX10_warmNow 17 = .ok (.bipush 6, 2) := by decide +kernel
theorem dX10_warmNow_19 : decode cX10_warmNow 19 = .ok (.iload_n 2, 1) := by decide +kernel
theorem dX10_warmNow_20 : decode cX10_warmNow 20 = .ok (.imul, 1) := by decide +kernel
theorem dX10_warmNow_21 : decode cX10_warmNow 21 = .ok (.aload_n 0, 1) := by decide +kernel
theorem dX10_warmNow_22 : decode cX10_warmNow 22 = .ok (.getfield 32, 3) := by decide +kernel
theorem dX10_warmNow_25 : decode cX10_warmNow 25 = .ok (.iload_n 2, 1) := by decide +kernel
theorem dX10_warmNow_26 : decode cX10_warmNow 26 = .ok (.iaload, 1) := by decide +kernel
theorem dX10_warmNow_27 : decode cX10_warmNow 27 = .ok (.iadd, 1) := by decide +kernel
theorem dX10_warmNow_28 : decode cX10_warmNow 28 = .ok (.iaload, 1) := by decide +kernel
theorem dX10_warmNow_29 : decode cX10_warmNow 29 = .ok (.iadd, 1) := by decide +kernel
theorem dX10_warmNow_30 : decode cX10_warmNow 30 = .ok (.istore_n 1, 1) := by decide +kernel
theorem dX10_warmNow_31 : decode cX10_warmNow 31 = .ok (.iinc 2 1, 3) := by decide +kernel
theorem dX10_warmNow_34 : decode cX10_warmNow 34 = .ok (.goto (-30), 3) := by decide +kernel
theorem dX10_warmNow_37 : decode cX10_warmNow 37 = .ok (.iload_n 1, 1) := by decide +kernel
theorem dX10_warmNow_38 : decode cX10_warmNow 38 = .ok (.ireturn, 1) := by decide +kernel
theorem dX10_better_0 : decode cX10_better 0 = .ok (.iload_n 1, 1) := by decide +kernel
theorem dX10_better_1 : decode cX10_better 1 = .ok (.i2l, 1) := by decide +kernel
theorem dX10_better_2 : decode cX10_better 2 = .ok (.lconst 0, 1) := by decide +kernel
theorem dX10_better_3 : decode cX10_better 3 = .ok (.ldc2_w 270, 3) := by decide +kernel
theorem dX10_better_6 : decode cX10_better 6 = .ok (.invokestatic 79, 3) := by decide +kernel
theorem dX10_better_9 : decode cX10_better 9 = .ok (.ifCond .eq 13, 3) := by decide +kernel
theorem dX10_better_12 : decode cX10_better 12 = .ok (.iload_n 2, 1) := by decide +kernel
theorem dX10_better_13 : decode cX10_better 13 = .ok (.i2l, 1) := by decide +kernel
theorem dX10_better_14 : decode cX10_better 14 = .ok (.lconst 0, 1) := by decide +kernel
theorem dX10_better_15 : decode cX10_better 15 = .ok (.lconst 1, 1) := by decide +kernel
theorem dX10_better_16 : decode cX10_better 16 = .ok (.invokestatic 79, 3) := by decide +kernel
theorem dX10_better_19 : decode cX10_better 19 = .ok (.ifCond .ne 6, 3) := by decide +kernel
theorem dX10_better_22 : decode cX10_better 22 = .ok (.bipush (-2), 2) := by decide +kernel
theorem dX10_better_24 : decode cX10_better 24 = .ok (.ireturn, 1) := by decide +kernel
theorem dX10_better_25 : decode cX10_better 25 = .ok (.aload_n 0, 1) := by decide +kernel
theorem dX10_better_26 : decode cX10_better 26 = .ok (.iload_n 1, 1) := by decide +kernel
theorem dX10_better_27 : decode cX10_better 27 = .ok (.invokevirtual 284, 3) := by decide +kernel
theorem dX10_better_30 : decode cX10_better 30 = .ok (.iconst (-1), 1) := by decide +kernel
theorem dX10_better_31 : decode cX10_better 31 = .ok (.istore_n 3, 1) := by decide +kernel
theorem dX10_better_32 : decode cX10_better 32 = .ok (.aload_n 0, 1) := by decide +kernel
theorem dX10_better_33 : decode cX10_better 33 = .ok (.invokevirtual 288, 3) := by decide +kernel
theorem dX10_better_36 : decode cX10_better 36 = .ok (.istore 4, 2) := by decide +kernel
theorem dX10_better_38 : decode cX10_better 38 = .ok (.iconst 0, 1) := by decide +kernel
theorem dX10_better_39 : decode cX10_better 39 = .ok (.istore 5, 2) := by decide +kernel
theorem dX10_better_41 : decode cX10_better 41 = .ok (.iload 5, 2) := by decide +kernel
theorem dX10_better_43 : decode cX10_better 43 = .ok (.aload_n 0, 1) := by decide +kernel
theorem dX10_better_44 : decode cX10_better 44 = .ok (.getfield 76, 3) := by decide +kernel
theorem dX10_better_47 : decode cX10_better 47 = .ok (.if_icmp .ge 72, 3) := by decide +kernel
theorem dX10_better_50 : decode cX10_better 50 = .ok (.iload 5, 2) := by decide +kernel
theorem dX10_better_52 : decode cX10_better 52 = .ok (.iconst 1, 1) := by decide +kernel
theorem dX10_better_53 : decode cX10_better 53 = .ok (.iadd, 1) := by decide +kernel
theorem dX10_better_54 : decode cX10_better 54 = .ok (.istore 6, 2) := by decide +kernel
theorem dX10_better_56 : decode cX10_better 56 = .ok (.iload 6, 2) := by decide +kernel
theorem dX10_better_58 : decode cX10_better 58 = .ok (.aload_n 0, 1) := by decide +kernel
theorem dX10_better_59 : decode cX10_better 59 = .ok (.getfield 76, 3) := by decide +kernel
theorem dX10_better_62 : decode cX10_better 62 = .ok (.if_icmp .ge 51, 3) := by decide +kernel
theorem dX10_better_65 : decode cX10_better 65 = .ok (.aload_n 0, 1) := by decide +kernel
theorem dX10_better_66 : decode cX10_better 66 = .ok (.iload 5, 2) := by decide +kernel
theorem dX10_better_68 : decode cX10_better 68 = .ok (.iload 6, 2) := by decide +kernel
theorem dX10_better_70 : decode cX10_better 70 = .ok (.invokevirtual 113, 3) := by decide +kernel
theorem dX10_better_73 : decode cX10_better 73 = .ok (.aload_n 0, 1) := by decide +kernel
theorem dX10_better_74 : decode cX10_better 74 = .ok (.invokevirtual 288, 3) := by decide +kernel
theorem dX10_better_77 : decode cX10_better 77 = .ok (.istore 7, 2) := by decide +kernel
theorem dX10_better_79 : decode cX10_better 79 = .ok (.aload_n 0, 1) := by decide +kernel
theorem dX10_better_80 : decode cX10_better 80 = .ok (.iload 5, 2) := by decide +kernel
theorem dX10_better_82 : decode cX10_better 82 = .ok (.iload 6, 2) := by decide +kernel
theorem dX10_better_84 : decode cX10_better 84 = .ok (.invokevirtual 113, 3) := by decide +kernel
theorem dX10_better_87 : decode cX10_better 87 = .ok (.iload 7, 2) := by decide +kernel
theorem dX10_better_89 : decode cX10_better 89 = .ok (.iload 4, 2) := by decide +kernel
theorem dX10_better_91 : decode cX10_better 91 = .ok (.if_icmp .ge 16, 3) := by decide +kernel
theorem dX10_better_94 : decode cX10_better 94 = .ok (.bipush 10, 2) := by decide +kernel
theorem dX10_better_96 : decode cX10_better 96 = .ok (.iload 5, 2) := by decide +kernel
theorem dX10_better_98 : decode cX10_better 98 = .ok (.imul, 1) := by decide +kernel
theorem dX10_better_99 : decode cX10_better 99 = .ok (.iload 6, 2) := by decide +kernel
theorem dX10_better_101 : decode cX10_better 101 = .ok (.iadd, 1) := by decide +kernel
theorem dX10_better_102 : decode cX10_better 102 = .ok (.istore_n 3, 1) := by decide +kernel
theorem dX10_better_103 : decode cX10_better 103 = .ok (.iload 7, 2) := by decide +kernel
theorem dX10_better_105 : decode cX10_better 105 = .ok (.istore 4, 2) := by decide +kernel
theorem dX10_better_107 : decode cX10_better 107 = .ok (.iinc 6 1, 3) := by decide +kernel
theorem dX10_better_110 : decode cX10_better 110 = .ok (.goto (-54), 3) := by decide +kernel
theorem dX10_better_113 : decode cX10_better 113 = .ok (.iinc 5 1, 3) := by decide +kernel
theorem dX10_better_116 : decode cX10_better 116 = .ok (.goto (-75), 3) := by decide +kernel
theorem dX10_better_119 : decode cX10_better 119 = .ok (.iload_n 2, 1) := by decide +kernel
theorem dX10_better_120 : decode cX10_better 120 = .ok (.ifCond .ne 7, 3) := by decide +kernel
theorem dX10_better_123 : decode cX10_better 123 = .ok (.iload_n 3, 1) := by decide +kernel
theorem dX10_better_124 : decode cX10_better 124 = .ok (.goto 5, 3) := by decide +kernel
theorem dX10_better_127 : decode cX10_better 127 = .ok (.iload 4, 2) := by decide +kernel
theorem dX10_better_129 : decode cX10_better 129 = .ok (.ireturn, 1) := by decide +kernel
theorem dX10_seeks_0 : decode cX10_seeks 0 = .ok (.iload_n 1, 1) := by decide +kernel
theorem dX10_seeks_1 : decode cX10_seeks 1 = .ok (.aload_n 0, 1) := by decide +kernel
theorem dX10_seeks_2 : decode cX10_seeks 2 = .ok (.getfield 76, 3) := by decide +kernel
theorem dX10_seeks_5 : decode cX10_seeks 5 = .ok (.if_icmp .ne 35, 3) := by decide +kernel
theorem dX10_seeks_8 : decode cX10_seeks 8 = .ok (.aload_n 0, 1) := by decide +kernel
theorem dX10_seeks_9 : decode cX10_seeks 9 = .ok (.getfield 291, 3) := by decide +kernel
theorem dX10_seeks_12 : decode cX10_seeks 12 = .ok (.ifCond .eq 11, 3) := by decide +kernel
theorem dX10_seeks_15 : decode cX10_seeks 15 = .ok (.iload_n 3, 1) := by decide +kernel
theorem dX10_seeks_16 : decode cX10_seeks 16 = .ok (.aload_n 0, 1) := by decide +kernel
theorem dX10_seeks_17 : decode cX10_seeks 17 = .ok (.getfield 294, 3) := by decide +kernel
theorem dX10_seeks_20 : decode cX10_seeks 20 = .ok (.if_icmp .ge 19, 3) := by decide +kernel
theorem dX10_seeks_23 : decode cX10_seeks 23 = .ok (.aload_n 0, 1) := by decide +kernel
theorem dX10_seeks_24 : decode cX10_seeks 24 = .ok (.iconst 1, 1) := by decide +kernel
theorem dX10_seeks_25 : decode cX10_seeks 25 = .ok (.putfield 291, 3) := by decide +kernel
theorem dX10_seeks_28 : decode cX10_seeks 28 = .ok (.aload_n 0, 1) := by decide +kernel
theorem dX10_seeks_29 : decode cX10_seeks 29 = .ok (.iload 4, 2) := by decide +kernel
theorem dX10_seeks_31 : decode cX10_seeks 31 = .ok (.putfield 297, 3) := by decide +kernel
theorem dX10_seeks_34 : decode cX10_seeks 34 = .ok (.aload_n 0, 1) := by decide +kernel
theorem dX10_seeks_35 : decode cX10_seeks 35 = .ok (.iload_n 3, 1) := by decide +kernel
theorem dX10_seeks_36 : decode cX10_seeks 36 = .ok (.putfield 294, 3) := by decide +kernel
theorem dX10_seeks_39 : decode cX10_seeks 39 = .ok (.return_, 1) := by decide +kernel
theorem dX10_seeks_40 : decode cX10_seeks 40 = .ok (.iconst 0, 1) := by decide +kernel
theorem dX10_seeks_41 : decode cX10_seeks 41 = .ok (.istore 5, 2) := by decide +kernel
theorem dX10_seeks_43 : decode cX10_seeks 43 = .ok (.iload 5, 2) := by decide +kernel
theorem dX10_seeks_45 : decode cX10_seeks 45 = .ok (.aload_n 0, 1) := by decide +kernel
theorem dX10_seeks_46 : decode cX10_seeks 46 = .ok (.getfield 76, 3) := by decide +kernel
theorem dX10_seeks_49 : decode cX10_seeks 49 = .ok (.if_icmp .ge 55, 3) := by decide +kernel
theorem dX10_seeks_52 : decode cX10_seeks 52 = .ok (.iload_n 2, 1) := by decide +kernel
theorem dX10_seeks_53 : decode cX10_seeks 53 = .ok (.iload 5, 2) := by decide +kernel
theorem dX10_seeks_55 : decode cX10_seeks 55 = .ok (.ishr, 1) := by decide +kernel
theorem dX10_seeks_56 : decode cX10_seeks 56 = .ok (.iconst 1, 1) := by decide +kernel
theorem dX10_seeks_57 : decode cX10_seeks 57 = .ok (.iand, 1) := by decide +kernel
theorem dX10_seeks_58 : decode cX10_seeks 58 = .ok (.ifCond .ne 40, 3) := by decide +kernel
theorem dX10_seeks_61 : decode cX10_seeks 61 = .ok (.aload_n 0, 1) := by decide +kernel
theorem dX10_seeks_62 : decode cX10_seeks 62 = .ok (.iload_n 1, 1) := by decide +kernel
theorem dX10_seeks_63 : decode cX10_seeks 63 = .ok (.iconst 1, 1) := by decide +kernel
theorem dX10_seeks_64 : decode cX10_seeks 64 = .ok (.iadd, 1) := by decide +kernel
theorem dX10_seeks_65 : decode cX10_seeks 65 = .ok (.iload_n 2, 1) := by decide +kernel
theorem dX10_seeks_66 : decode cX10_seeks 66 = .ok (.iconst 1, 1) := by decide +kernel
theorem dX10_seeks_67 : decode cX10_seeks 67 = .ok (.iload 5, 2) := by decide +kernel
theorem dX10_seeks_69 : decode cX10_seeks 69 = .ok (.ishl, 1) := by decide +kernel
theorem dX10_seeks_70 : decode cX10_seeks 70 = .ok (.ior, 1) := by decide +kernel
theorem dX10_seeks_71 : decode cX10_seeks 71 = .ok (.iload_n 3, 1) := by decide +kernel
theorem dX10_seeks_72 : decode cX10_seeks 72 = .ok (.aload_n 0, 1) := by decide +kernel
theorem dX10_seeks_73 : decode cX10_seeks 73 = .ok (.getfield 35, 3) := by decide +kernel
theorem dX10_seeks_76 : decode cX10_seeks 76 = .ok (.bipush 6, 2) := by decide +kernel
theorem dX10_seeks_78 : decode cX10_seeks 78 = .ok (.iload_n 1, 1) := by decide +kernel
theorem dX10_seeks_79 : decode cX10_seeks 79 = .ok (.imul, 1) := by decide +kernel
theorem dX10_seeks_80 : decode cX10_seeks 80 = .ok (.iload 5, 2) := by decide +kernel
theorem dX10_seeks_82 : decode cX10_seeks 82 = .ok (.iadd, 1) := by decide +kernel
theorem dX10_seeks_83 : decode cX10_seeks 83 = .ok (.iaload, 1) := by decide +kernel
theorem dX10_seeks_84 : decode cX10_seeks 84 = .ok (.iadd, 1) := by decide +kernel
theorem dX10_seeks_85 : decode cX10_seeks 85 = .ok (.bipush 10, 2) := by decide +kernel
theorem dX10_seeks_87 : decode cX10_seeks 87 = .ok (.iload 4, 2) := by decide +kernel
theorem dX10_seeks_89 : decode cX10_seeks 89 = .ok (.imul, 1) := by decide +kernel
theorem dX10_seeks_90 : decode cX10_seeks 90 = .ok (.iload 5, 2) := by decide +kernel
theorem dX10_seeks_92 : decode cX10_seeks 92 = .ok (.iadd, 1) := by decide +kernel
theorem dX10_seeks_93 : decode cX10_seeks 93 = .ok (.iconst 1, 1) := by decide +kernel
theorem dX10_seeks_94 : decode cX10_seeks 94 = .ok (.iadd, 1) := by decide +kernel
theorem dX10_seeks_95 : decode cX10_seeks 95 = .ok (.invokevirtual 300, 3) := by decide +kernel
theorem dX10_seeks_98 : decode cX10_seeks 98 = .ok (.iinc 5 1, 3) := by decide +kernel
theorem dX10_seeks_101 : decode cX10_seeks 101 = .ok (.goto (-58), 3) := by decide +kernel
theorem dX10_seeks_104 : decode cX10_seeks 104 = .ok (.return_, 1) := by decide +kernel
theorem dX10_best_0 : decode cX10_best 0 = .ok (.iload_n 1, 1) := by decide +kernel
theorem dX10_best_1 : decode cX10_best 1 = .ok (.i2l, 1) := by decide +kernel
theorem dX10_best_2 : decode cX10_best 2 = .ok (.lconst 0, 1) := by decide +kernel
theorem dX10_best_3 : decode cX10_best 3 = .ok (.ldc2_w 117, 3) := by decide +kernel
theorem dX10_best_6 : decode cX10_best 6 = .ok (.invokestatic 79, 3) := by decide +kernel
theorem dX10_best_9 : decode cX10_best 9 = .ok (.ifCond .eq 13, 3) := by decide +kernel
theorem dX10_best_12 : decode cX10_best 12 = .ok (.iload_n 2, 1) := by decide +kernel
theorem dX10_best_13 : decode cX10_best 13 = .ok (.i2l, 1) := by decide +kernel
theorem dX10_best_14 : decode cX10_best 14 = .ok (.lconst 0, 1) := by decide +kernel
theorem dX10_best_15 : decode cX10_best 15 = .ok (.lconst 1, 1) := by decide +kernel
theorem dX10_best_16 : decode cX10_best 16 = .ok (.invokestatic 79, 3) := by decide +kernel
theorem dX10_best_19 : decode cX10_best 19 = .ok (.ifCond .ne 6, 3) := by decide +kernel
theorem dX10_best_22 : decode cX10_best 22 = .ok (.bipush (-2), 2) := by decide +kernel
theorem dX10_best_24 : decode cX10_best 24 = .ok (.ireturn, 1) := by decide +kernel
theorem dX10_best_25 : decode cX10_best 25 = .ok (.aload_n 0, 1) := by decide +kernel
theorem dX10_best_26 : decode cX10_best 26 = .ok (.iload_n 1, 1) := by decide +kernel
theorem dX10_best_27 : decode cX10_best 27 = .ok (.invokevirtual 284, 3) := by decide +kernel
theorem dX10_best_30 : decode cX10_best 30 = .ok (.aload_n 0, 1) := by decide +kernel
theorem dX10_best_31 : decode cX10_best 31 = .ok (.iconst 0, 1) := by decide +kernel
theorem dX10_best_32 : decode cX10_best 32 = .ok (.putfield 291, 3) := by decide +kernel
theorem dX10_best_35 : decode cX10_best 35 = .ok (.aload_n 0, 1) := by decide +kernel
theorem dX10_best_36 : decode cX10_best 36 = .ok (.iconst 0, 1) := by decide +kernel
theorem dX10_best_37 : decode cX10_best 37 = .ok (.iconst 0, 1) := by decide +kernel
theorem dX10_best_38 : decode cX10_best 38 = .ok (.iconst 0, 1) := by decide +kernel
theorem dX10_best_39 : decode cX10_best 39 = .ok (.iconst 0, 1) := by decide +kernel
theorem dX10_best_40 : decode cX10_best 40 = .ok (.invokevirtual 300, 3) := by decide +kernel
theorem dX10_best_43 : decode cX10_best 43 = .ok (.iload_n 2, 1) := by decide +kernel
theorem dX10_best_44 : decode cX10_best 44 = .ok (.ifCond .ne 10, 3) := by decide +kernel
theorem dX10_best_47 : decode cX10_best 47 = .ok (.aload_n 0, 1) := by decide +kernel
theorem dX10_best_48 : decode cX10_best 48 = .ok (.getfield 297, 3) := by decide +kernel
theorem dX10_best_51 : decode cX10_best 51 = .ok (.goto 7, 3) := by decide +kernel
theorem dX10_best_54 : decode cX10_best 54 = .ok (.aload_n 0, 1) := by decide +kernel
theorem dX10_best_55 : decode cX10_best 55 = .ok (.getfield 294, 3) := by decide +kernel
theorem dX10_best_58 : decode cX10_best 58 = .ok (.ireturn, 1) := by decide +kernel
theorem dX10_opens1_0 : decode cX10_opens1 0 = .ok (.iload_n 1, 1) := by decide +kernel
theorem dX10_opens1_1 : decode cX10_opens1 1 = .ok (.bipush 7, 2) := by decide +kernel
theorem dX10_opens1_3 : decode cX10_opens1 3 = .ok (.if_icmp .le 25, 3) := by decide +kernel
theorem dX10_opens1_6 : decode cX10_opens1 6 = .ok (.iload_n 1, 1) := by decide +kernel
theorem dX10_opens1_7 : decode cX10_opens1 7 = .ok (.bipush 8, 2) := by decide +kernel
theorem dX10_opens1_9 : decode cX10_opens1 9 = .ok (.irem, 1) := by decide +kernel
theorem dX10_opens1_10 : decode cX10_opens1 10 = .ok (.aload_n 0, 1) := by decide +kernel
theorem dX10_opens1_11 : decode cX10_opens1 11 = .ok (.getfield 29, 3) := by decide +kernel
theorem dX10_opens1_14 : decode cX10_opens1 14 = .ok (.iconst 3, 1) := by decide +kernel
theorem dX10_opens1_15 : decode cX10_opens1 15 = .ok (.iload_n 2, 1) := by decide +kernel
theorem dX10_opens1_16 : decode cX10_opens1 16 = .ok (.imul, 1) := by decide +kernel
theorem dX10_opens1_17 : decode cX10_opens1 17 = .ok (.iaload, 1) := by decide +kernel
theorem dX10_opens1_18 : decode cX10_opens1 18 = .ok (.bipush 8, 2) := by decide +kernel
theorem dX10_opens1_20 : decode cX10_opens1 20 = .ok (.irem, 1) := by decide +kernel
theorem dX10_opens1_21 : decode cX10_opens1 21 = .ok (.if_icmp .ne 7, 3) := by decide +kernel
theorem dX10_opens1_24 : decode cX10_opens1 24 = .ok (.iconst 1, 1) := by decide +kernel
theorem dX10_opens1_25 : decode cX10_opens1 25 = .ok (.goto 4, 3) := by decide +kernel
theorem dX10_opens1_28 : decode cX10_opens1 28 = .ok (.iconst 0, 1) := by decide +kernel
theorem dX10_opens1_29 : decode cX10_opens1 29 = .ok (.ireturn, 1) := by decide +kernel
theorem dX10_fromOf_0 : decode cX10_fromOf 0 = .ok (.iload_n 1, 1) := by decide +kernel
theorem dX10_fromOf_1 : decode cX10_fromOf 1 = .ok (.istore_n 2, 1) := by decide +kernel
theorem dX10_fromOf_2 : decode cX10_fromOf 2 = .ok (.iconst 0, 1) := by decide +kernel
theorem dX10_fromOf_3 : decode cX10_fromOf 3 = .ok (.istore_n 3, 1) := by decide +kernel
theorem dX10_fromOf_4 : decode cX10_fromOf 4 = .ok (.iload_n 2, 1) := by decide +kernel
theorem dX10_fromOf_5 : decode cX10_fromOf 5 = .ok (.iload_n 3, 1) := by decide +kernel
theorem dX10_fromOf_6 : decode cX10_fromOf 6 = .ok (.if_icmp .eq 80, 3) := by decide +kernel
theorem dX10_fromOf_9 : decode cX10_fromOf 9 = .ok (.iload_n 2, 1) := by decide +kernel
theorem dX10_fromOf_10 : decode cX10_fromOf 10 = .ok (.istore_n 3, 1) := by decide +kernel
theorem dX10_fromOf_11 : decode cX10_fromOf 11 = .ok (.iconst 0, 1) := by decide +kernel
theorem dX10_fromOf_12 : decode cX10_fromOf 12 = .ok (.istore 4, 2) := by decide +kernel
theorem dX10_fromOf_14 : decode cX10_fromOf 14 = .ok (.iload 4, 2) := by decide +kernel
theorem dX10_fromOf_16 : decode cX10_fromOf 16 = .ok (.aload_n 0, 1) := by decide +kernel
theorem dX10_fromOf_17 : decode cX10_fromOf 17 = .ok (.getfield 76, 3) := by decide +kernel
theorem dX10_fromOf_20 : decode cX10_fromOf 20 = .ok (.if_icmp .ge 63, 3) := by decide +kernel
theorem dX10_fromOf_23 : decode cX10_fromOf 23 = .ok (.iconst 0, 1) := by decide +kernel
theorem dX10_fromOf_24 : decode cX10_fromOf 24 = .ok (.istore 5, 2) := by decide +kernel
theorem dX10_fromOf_26 : decode cX10_fromOf 26 = .ok (.iload 5, 2) := by decide +kernel
theorem dX10_fromOf_28 : decode cX10_fromOf 28 = .ok (.aload_n 0, 1) := by decide +kernel
theorem dX10_fromOf_29 : decode cX10_fromOf 29 = .ok (.getfield 76, 3) := by decide +kernel
theorem dX10_fromOf_32 : decode cX10_fromOf 32 = .ok (.if_icmp .ge 45, 3) := by decide +kernel
theorem dX10_fromOf_35 : decode cX10_fromOf 35 = .ok (.iload_n 2, 1) := by decide +kernel
theorem dX10_fromOf_36 : decode cX10_fromOf 36 = .ok (.iload_n 2, 1) := by decide +kernel
theorem dX10_fromOf_37 : decode cX10_fromOf 37 = .ok (.iload 4, 2) := by decide +kernel
theorem dX10_fromOf_39 : decode cX10_fromOf 39 = .ok (.ishr, 1) := by decide +kernel
theorem dX10_fromOf_40 : decode cX10_fromOf 40 = .ok (.iconst 1, 1) := by decide +kernel
theorem dX10_fromOf_41 : decode cX10_fromOf 41 = .ok (.iand, 1) := by decide +kernel
theorem dX10_fromOf_42 : decode cX10_fromOf 42 = .ok (.iconst 1, 1) := by decide +kernel
theorem dX10_fromOf_43 : decode cX10_fromOf 43 = .ok (.if_icmp .ne 25, 3) := by decide +kernel
theorem dX10_fromOf_46 : decode cX10_fromOf 46 = .ok (.aload_n 0, 1) := by decide +kernel
theorem dX10_fromOf_47 : decode cX10_fromOf 47 = .ok (.aload_n 0, 1) := by decide +kernel
theorem dX10_fromOf_48 : decode cX10_fromOf 48 = .ok (.iload 4, 2) := by decide +kernel
theorem dX10_fromOf_50 : decode cX10_fromOf 50 = .ok (.invokevirtual 119, 3) := by decide +kernel
theorem dX10_fromOf_53 : decode cX10_fromOf 53 = .ok (.iload 5, 2) := by decide +kernel
theorem dX10_fromOf_55 : decode cX10_fromOf 55 = .ok (.invokevirtual 304, 3) := by decide +kernel
theorem dX10_fromOf_58 : decode cX10_fromOf 58 = .ok (.ifCond .eq 10, 3) := by decide +kernel
theorem dX10_fromOf_61 : decode cX10_fromOf 61 = .ok (.iconst 1, 1) := by decide +kernel
theorem dX10_fromOf_62 : decode cX10_fromOf 62 = .ok (.iload 5, 2) := by decide +kernel
theorem dX10_fromOf_64 : decode cX10_fromOf 64 = .ok (.ishl, 1) := by decide +kernel
theorem dX10_fromOf_65 : decode cX10_fromOf 65 = .ok (.goto 4, 3) := by decide +kernel
theorem dX10_fromOf_68 : decode cX10_fromOf 68 = .ok (.iconst 0, 1) := by decide +kernel
theorem dX10_fromOf_69 : decode cX10_fromOf 69 = .ok (.ior, 1) := by decide +kernel
theorem dX10_fromOf_70 : decode cX10_fromOf 70 = .ok (.istore_n 2, 1) := by decide +kernel
theorem dX10_fromOf_71 : decode cX10_fromOf 71 = .ok (.iinc 5 1, 3) := by decide +kernel
theorem dX10_fromOf_74 : decode cX10_fromOf 74 = .ok (.goto (-48), 3) := by decide +kernel
theorem dX10_fromOf_77 : decode cX10_fromOf 77 = .ok (.iinc 4 1, 3) := by decide +kernel
theorem dX10_fromOf_80 : decode cX10_fromOf 80 = .ok (.goto (-66), 3) := by decide +kernel
theorem dX10_fromOf_83 : decode cX10_fromOf 83 = .ok (.goto (-79), 3) := by decide +kernel
theorem dX10_fromOf_86 : decode cX10_fromOf 86 = .ok (.iload_n 2, 1) := by decide +kernel
theorem dX10_fromOf_87 : decode cX10_fromOf 87 = .ok (.ireturn, 1) := by decide +kernel
theorem dX10_from_0 : decode cX10_from 0 = .ok (.aload_n 0, 1) := by decide +kernel
theorem dX10_from_1 : decode cX10_from 1 = .ok (.iload_n 1, 1) := by decide +kernel
theorem dX10_from_2 : decode cX10_from 2 = .ok (.invokevirtual 85, 3) := by decide +kernel
theorem dX10_from_5 : decode cX10_from 5 = .ok (.ifCond .eq 13, 3) := by decide +kernel
theorem dX10_from_8 : decode cX10_from 8 = .ok (.aload_n 0, 1) := by decide +kernel
theorem dX10_from_9 : decode cX10_from 9 = .ok (.iconst 1, 1) := by decide +kernel
theorem dX10_from_10 : decode cX10_from 10 = .ok (.iload_n 1, 1) := by decide +kernel
theorem dX10_from_11 : decode cX10_from 11 = .ok (.ishl, 1) := by decide +kernel
theorem dX10_from_12 : decode cX10_from 12 = .ok (.invokevirtual 307, 3) := by decide +kernel
theorem dX10_from_15 : decode cX10_from 15 = .ok (.goto 5, 3) := by decide +kernel
theorem dX10_from_18 : decode cX10_from 18 = .ok (.bipush (-2), 2) := by decide +kernel
theorem dX10_from_20 : decode cX10_from 20 = .ok (.ireturn, 1) := by decide +kernel
theorem dX10_keys_0 : decode cX10_keys 0 = .ok (.iload_n 1, 1) := by decide +kernel
theorem dX10_keys_1 : decode cX10_keys 1 = .ok (.i2l, 1) := by decide +kernel
theorem dX10_keys_2 : decode cX10_keys 2 = .ok (.lconst 0, 1) := by decide +kernel
theorem dX10_keys_3 : decode cX10_keys 3 = .ok (.ldc2_w 310, 3) := by decide +kernel
theorem dX10_keys_6 : decode cX10_keys 6 = .ok (.invokestatic 79, 3) := by decide +kernel
theorem dX10_keys_9 : decode cX10_keys 9 = .ok (.ifCond .ne 6, 3) := by decide +kernel
theorem dX10_keys_12 : decode cX10_keys 12 = .ok (.bipush (-2), 2) := by decide +kernel
theorem dX10_keys_14 : decode cX10_keys 14 = .ok (.ireturn, 1) := by decide +kernel
theorem dX10_keys_15 : decode cX10_keys 15 = .ok (.iconst 1, 1) := by decide +kernel
theorem dX10_keys_16 : decode cX10_keys 16 = .ok (.aload_n 0, 1) := by decide +kernel
theorem dX10_keys_17 : decode cX10_keys 17 = .ok (.getfield 76, 3) := by decide +kernel
theorem dX10_keys_20 : decode cX10_keys 20 = .ok (.ishl, 1) := by decide +kernel
theorem dX10_keys_21 : decode cX10_keys 21 = .ok (.iconst 1, 1) := by decide +kernel
theorem dX10_keys_22 : decode cX10_keys 22 = .ok (.isub, 1) := by decide +kernel
theorem dX10_keys_23 : decode cX10_keys 23 = .ok (.istore_n 2, 1) := by decide +kernel
theorem dX10_keys_24 : decode cX10_keys 24 = .ok (.iconst (-1), 1) := by decide +kernel
theorem dX10_keys_25 : decode cX10_keys 25 = .ok (.istore_n 3, 1) := by decide +kernel
theorem dX10_keys_26 : decode cX10_keys 26 = .ok (.iconst 0, 1) := by decide +kernel
theorem dX10_keys_27 : decode cX10_keys 27 = .ok (.istore 4, 2) := by decide +kernel
theorem dX10_keys_29 : decode cX10_keys 29 = .ok (.iconst 0, 1) := by decide +kernel
theorem dX10_keys_30 : decode cX10_keys 30 = .ok (.istore 5, 2) := by decide +kernel
theorem dX10_keys_32 : decode cX10_keys 32 = .ok (.iload 5, 2) := by decide +kernel
theorem dX10_keys_34 : decode cX10_keys 34 = .ok (.aload_n 0, 1) := by decide +kernel
theorem dX10_keys_35 : decode cX10_keys 35 = .ok (.getfield 76, 3) := by decide +kernel
theorem dX10_keys_38 : decode cX10_keys 38 = .ok (.if_icmp .ge 36, 3) := by decide +kernel
theorem dX10_keys_41 : decode cX10_keys 41 = .ok (.aload_n 0, 1) := by decide +kernel
theorem dX10_keys_42 : decode cX10_keys 42 = .ok (.iconst 1, 1) := by decide +kernel
theorem dX10_keys_43 : decode cX10_keys 43 = .ok (.iload 5, 2) := by decide +kernel
theorem dX10_keys_45 : decode cX10_keys 45 = .ok (.ishl, 1) := by decide +kernel
theorem dX10_keys_46 : decode cX10_keys 46 = .ok (.invokevirtual 307, 3) := by decide +kernel
theorem dX10_keys_49 : decode cX10_keys 49 = .ok (.invokestatic 281, 3) := by decide +kernel
theorem dX10_keys_52 : decode cX10_keys 52 = .ok (.istore 6, 2) := by decide +kernel
theorem dX10_keys_54 : decode cX10_keys 54 = .ok (.iload 6, 2) := by decide +kernel
theorem dX10_keys_56 : decode cX10_keys 56 = .ok (.iload 4, 2) := by decide +kernel
theorem dX10_keys_58 : decode cX10_keys 58 = .ok (.if_icmp .le 10, 3) := by decide +kernel
theorem dX10_keys_61 : decode cX10_keys 61 = .ok (.iload 5, 2) := by decide +kernel
theorem dX10_keys_63 : decode cX10_keys 63 = .ok (.istore_n 3, 1) := by decide +kernel
theorem dX10_keys_64 : decode cX10_keys 64 = .ok (.iload 6, 2) := by decide +kernel
theorem dX10_keys_66 : decode cX10_keys 66 = .ok (.istore 4, 2) := by decide +kernel
theorem dX10_keys_68 : decode cX10_keys 68 = .ok (.iinc 5 1, 3) := by decide +kernel
theorem dX10_keys_71 : decode cX10_keys 71 = .ok (.goto (-39), 3) := by decide +kernel
theorem dX10_keys_74 : decode cX10_keys 74 = .ok (.iload_n 1, 1) := by decide +kernel
theorem dX10_keys_75 : decode cX10_keys 75 = .ok (.iconst 2, 1) := by decide +kernel
theorem dX10_keys_76 : decode cX10_keys 76 = .ok (.if_icmp .ge 14, 3) := by decide +kernel
theorem dX10_keys_79 : decode cX10_keys 79 = .ok (.iload_n 1, 1) := by decide +kernel
theorem dX10_keys_80 : decode cX10_keys 80 = .ok (.ifCond .ne 7, 3) := by decide +kernel
theorem dX10_keys_83 : decode cX10_keys 83 = .ok (.iload_n 3, 1) := by decide +kernel
theorem dX10_keys_84 : decode cX10_keys 84 = .ok (.goto 5, 3) := by decide +kernel
theorem dX10_keys_87 : decode cX10_keys 87 = .ok (.iload 4, 2) := by decide +kernel
theorem dX10_keys_89 : decode cX10_keys 89 = .ok (.ireturn, 1) := by decide +kernel
theorem dX10_keys_90 : decode cX10_keys 90 = .ok (.iload_n 2, 1) := by decide +kernel
theorem dX10_keys_91 : decode cX10_keys 91 = .ok (.istore 5, 2) := by decide +kernel
theorem dX10_keys_93 : decode cX10_keys 93 = .ok (.iload_n 2, 1) := by decide +kernel
theorem dX10_keys_94 : decode cX10_keys 94 = .ok (.istore 6, 2) := by decide +kernel
theorem dX10_keys_96 : decode cX10_keys 96 = .ok (.iload 6, 2) := by decide +kernel
theorem dX10_keys_98 : decode cX10_keys 98 = .ok (.ifCond .lt 36, 3) := by decide +kernel
theorem dX10_keys_101 : decode cX10_keys 101 = .ok (.aload_n 0, 1) := by decide +kernel
theorem dX10_keys_102 : decode cX10_keys 102 = .ok (.iload 6, 2) := by decide +kernel
theorem dX10_keys_104 : decode cX10_keys 104 = .ok (.invokevirtual 307, 3) := by decide +kernel
theorem dX10_keys_107 : decode cX10_keys 107 = .ok (.iload_n 2, 1) := by decide +kernel
theorem dX10_keys_108 : decode cX10_keys 108 = .ok (.if_icmp .ne 20, 3) := by decide +kernel
theorem dX10_keys_111 : decode cX10_keys 111 = .ok (.iload 6, 2) := by decide +kernel
theorem dX10_keys_113 : decode cX10_keys 113 = .ok (.invokestatic 281, 3) := by decide +kernel
theorem dX10_keys_116 : decode cX10_keys 116 = .ok (.iload 5, 2) := by decide +kernel
theorem dX10_keys_118 : decode cX10_keys 118 = .ok (.invokestatic 281, 3) := by decide +kernel
theorem dX10_keys_121 : decode cX10_keys 121 = .ok (.if_icmp .gt 7, 3) := by decide +kernel
theorem dX10_keys_124 : decode cX10_keys 124 = .ok (.iload 6, 2) := by decide +kernel
theorem dX10_keys_126 : decode cX10_keys 126 = .ok (.istore 5, 2) := by decide +kernel
theorem dX10_keys_128 : decode cX10_keys 128 = .ok (.iinc 6 (-1), 3) := by decide +kernel
theorem dX10_keys_131 : decode cX10_keys 131 = .ok (.goto (-35), 3) := by decide +kernel
theorem dX10_keys_134 : decode cX10_keys 134 = .ok (.iload_n 1, 1) := by decide +kernel
theorem dX10_keys_135 : decode cX10_keys 135 = .ok (.iconst 2, 1) := by decide +kernel
theorem dX10_keys_136 : decode cX10_keys 136 = .ok (.if_icmp .ne 8, 3) := by decide +kernel
theorem dX10_keys_139 : decode cX10_keys 139 = .ok (.iload 5, 2) := by decide +kernel
theorem dX10_keys_141 : decode cX10_keys 141 = .ok (.goto 8, 3) := by decide +kernel
theorem dX10_keys_144 : decode cX10_keys 144 = .ok (.iload 5, 2) := by decide +kernel
theorem dX10_keys_146 : decode cX10_keys 146 = .ok (.invokestatic 281, 3) := by decide +kernel
theorem dX10_keys_149 : decode cX10_keys 149 = .ok (.ireturn, 1) := by decide +kernel
theorem dX10_unlike_0 : decode cX10_unlike 0 = .ok (.iconst 0, 1) := by decide +kernel
theorem dX10_unlike_1 : decode cX10_unlike 1 = .ok (.istore_n 2, 1) := by decide +kernel
theorem dX10_unlike_2 : decode cX10_unlike 2 = .ok (.iconst 0, 1) := by decide +kernel
theorem dX10_unlike_3 : decode cX10_unlike 3 = .ok (.istore_n 3, 1) := by decide +kernel
theorem dX10_unlike_4 : decode cX10_unlike 4 = .ok (.iload_n 3, 1) := by decide +kernel
theorem dX10_unlike_5 : decode cX10_unlike 5 = .ok (.aload_n 0, 1) := by decide +kernel
theorem dX10_unlike_6 : decode cX10_unlike 6 = .ok (.getfield 76, 3) := by decide +kernel
theorem dX10_unlike_9 : decode cX10_unlike 9 = .ok (.if_icmp .ge 44, 3) := by decide +kernel
theorem dX10_unlike_12 : decode cX10_unlike 12 = .ok (.iload_n 2, 1) := by decide +kernel
theorem dX10_unlike_13 : decode cX10_unlike 13 = .ok (.aload_n 0, 1) := by decide +kernel
theorem dX10_unlike_14 : decode cX10_unlike 14 = .ok (.iload_n 3, 1) := by decide +kernel
theorem dX10_unlike_15 : decode cX10_unlike 15 = .ok (.aload_n 0, 1) := by decide +kernel
theorem dX10_unlike_16 : decode cX10_unlike 16 = .ok (.getfield 32, 3) := by decide +kernel
theorem dX10_unlike_19 : decode cX10_unlike 19 = .ok (.iload_n 3, 1) := by decide +kernel
theorem dX10_unlike_20 : decode cX10_unlike 20 = .ok (.iaload, 1) := by decide +kernel
theorem dX10_unlike_21 : decode cX10_unlike 21 = .ok (.invokevirtual 129, 3) := by decide +kernel
theorem dX10_unlike_24 : decode cX10_unlike 24 = .ok (.aload_n 0, 1) := by decide +kernel
theorem dX10_unlike_25 : decode cX10_unlike 25 = .ok (.getfield 66, 3) := by decide +kernel
theorem dX10_unlike_28 : decode cX10_unlike 28 = .ok (.bipush 40, 2) := by decide +kernel
theorem dX10_unlike_30 : decode cX10_unlike 30 = .ok (.iload_n 1, 1) := by decide +kernel
theorem dX10_unlike_31 : decode cX10_unlike 31 = .ok (.imul, 1) := by decide +kernel
theorem dX10_unlike_32 : decode cX10_unlike 32 = .ok (.iload_n 3, 1) := by decide +kernel
theorem dX10_unlike_33 : decode cX10_unlike 33 = .ok (.iadd, 1) := by decide +kernel
theorem dX10_unlike_34 : decode cX10_unlike 34 = .ok (.iaload, 1) := by decide +kernel
theorem dX10_unlike_35 : decode cX10_unlike 35 = .ok (.if_icmp .ne 7, 3) := by decide +kernel
theorem dX10_unlike_38 : decode cX10_unlike 38 = .ok (.iconst 0, 1) := by decide +kernel
theorem dX10_unlike_39 : decode cX10_unlike 39 = .ok (.goto 4, 3) := by decide +kernel
theorem dX10_unlike_42 : decode cX10_unlike 42 = .ok (.iconst 1, 1) := by decide +kernel
theorem dX10_unlike_43 : decode cX10_unlike 43 = .ok (.iload_n 3, 1) := by decide +kernel
theorem dX10_unlike_44 : decode cX10_unlike 44 = .ok (.ishl, 1) := by decide +kernel
theorem dX10_unlike_45 : decode cX10_unlike 45 = .ok (.ior, 1) := by decide +kernel
theorem dX10_unlike_46 : decode cX10_unlike 46 = .ok (.istore_n 2, 1) := by decide +kernel
theorem dX10_unlike_47 : decode cX10_unlike 47 = .ok (.iinc 3 1, 3) := by decide +kernel
theorem dX10_unlike_50 : decode cX10_unlike 50 = .ok (.goto (-46), 3) := by decide +kernel
theorem dX10_unlike_53 : decode cX10_unlike 53 = .ok (.iload_n 2, 1) := by decide +kernel
theorem dX10_unlike_54 : decode cX10_unlike 54 = .ok (.ireturn, 1) := by decide +kernel
theorem dX10_looks_0 : decode cX10_looks 0 = .ok (.iload_n 1, 1) := by decide +kernel
theorem dX10_looks_1 : decode cX10_looks 1 = .ok (.aload_n 0, 1) := by decide +kernel
theorem dX10_looks_2 : decode cX10_looks 2 = .ok (.getfield 76, 3) := by decide +kernel
theorem dX10_looks_5 : decode cX10_looks 5 = .ok (.if_icmp .ne 71, 3) := by decide +kernel
theorem dX10_looks_8 : decode cX10_looks 8 = .ok (.aload_n 0, 1) := by decide +kernel
theorem dX10_looks_9 : decode cX10_looks 9 = .ok (.dup, 1) := by decide +kernel
theorem dX10_looks_10 : decode cX10_looks 10 = .ok (.getfield 312, 3) := by decide +kernel
theorem dX10_looks_13 : decode cX10_looks 13 = .ok (.iconst 1, 1) := by decide +kernel
theorem dX10_looks_14 : decode cX10_looks 14 = .ok (.iadd, 1) := by decide +kernel
theorem dX10_looks_15 : decode cX10_looks 15 = .ok (.putfield 312, 3) := by decide +kernel
theorem dX10_looks_18 : decode cX10_looks 18 = .ok (.aload_n 0, 1) := by decide +kernel
theorem dX10_looks_19 : decode cX10_looks 19 = .ok (.aload_n 0, 1) := by decide +kernel
theorem dX10_looks_20 : decode cX10_looks 20 = .ok (.getfield 312, 3) := by decide +kernel
theorem dX10_looks_23 : decode cX10_looks 23 = .ok (.iconst 1, 1) := by decide +kernel
theorem dX10_looks_24 : decode cX10_looks 24 = .ok (.if_icmp .ne 7, 3) := by decide +kernel
theorem dX10_looks_27 : decode cX10_looks 27 = .ok (.iload_n 3, 1) := by decide +kernel
theorem dX10_looks_28 : decode cX10_looks 28 = .ok (.goto 7, 3) := by decide +kernel
theorem dX10_looks_31 : decode cX10_looks 31 = .ok (.aload_n 0, 1) := by decide +kernel
theorem dX10_looks_32 : decode cX10_looks 32 = .ok (.getfield 315, 3) := by decide +kernel
theorem dX10_looks_35 : decode cX10_looks 35 = .ok (.putfield 315, 3) := by decide +kernel
theorem dX10_looks_38 : decode cX10_looks 38 = .ok (.iconst 0, 1) := by decide +kernel
theorem dX10_looks_39 : decode cX10_looks 39 = .ok (.istore 4, 2) := by decide +kernel
theorem dX10_looks_41 : decode cX10_looks 41 = .ok (.iload 4, 2) := by decide +kernel
theorem dX10_looks_43 : decode cX10_looks 43 = .ok (.aload_n 0, 1) := by decide +kernel
theorem dX10_looks_44 : decode cX10_looks 44 = .ok (.getfield 76, 3) := by decide +kernel
theorem dX10_looks_47 : decode cX10_looks 47 = .ok (.if_icmp .ge 28, 3) := by decide +kernel
theorem dX10_looks_50 : decode cX10_looks 50 = .ok (.aload_n 0, 1) := by decide +kernel
theorem dX10_looks_51 : decode cX10_looks 51 = .ok (.getfield 38, 3) := by decide +kernel
theorem dX10_looks_54 : decode cX10_looks 54 = .ok (.iload 4, 2) := by decide +kernel
theorem dX10_looks_56 : decode cX10_looks 56 = .ok (.dup2, 1) := by decide +kernel
theorem dX10_looks_57 : decode cX10_looks 57 = .ok (.iaload, 1) := by decide +kernel
theorem dX10_looks_58 : decode cX10_looks 58 = .ok (.iconst 1, 1) := by decide +kernel
theorem dX10_looks_59 : decode cX10_looks 59 = .ok (.aload_n 0, 1) := by decide +kernel
theorem dX10_looks_60 : decode cX10_looks 60 = .ok (.getfield 41, 3) := by decide +kernel
theorem dX10_looks_63 : decode cX10_looks 63 = .ok (.iload 4, 2) := by decide +kernel
theorem dX10_looks_65 : decode cX10_looks 65 = .ok (.iaload, 1) := by decide +kernel
theorem dX10_looks_66 : decode cX10_looks 66 = .ok (.ishl, 1) := by decide +kernel
theorem dX10_looks_67 : decode cX10_looks 67 = .ok (.ior, 1) := by decide +kernel
theorem dX10_looks_68 : decode cX10_looks 68 = .ok (.iastore, 1) := by decide +kernel
theorem dX10_looks_69 : decode cX10_looks 69 = .ok (.iinc 4 1, 3) := by decide +kernel
theorem dX10_looks_72 : decode cX10_looks 72 = .ok (.goto (-31), 3) := by decide +kernel
theorem dX10_looks_75 : decode cX10_looks 75 = .ok (.return_, 1) := by decide +kernel
theorem dX10_looks_76 : decode cX10_looks 76 = .ok (.iconst 0, 1) := by decide +kernel
theorem dX10_looks_77 : decode cX10_looks 77 = .ok (.istore 4, 2) := by decide +kernel
theorem dX10_looks_79 : decode cX10_looks 79 = .ok (.iload 4, 2) := by decide +kernel
theorem dX10_looks_81 : decode cX10_looks 81 = .ok (.aload_n 0, 1) := by decide +kernel
theorem dX10_looks_82 : decode cX10_looks 82 = .ok (.getfield 76, 3) := by decide +kernel
theorem dX10_looks_85 : decode cX10_looks 85 = .ok (.if_icmp .ge 64, 3) := by decide +kernel
theorem dX10_looks_88 : decode cX10_looks 88 = .ok (.iload_n 2, 1) := by decide +kernel
theorem dX10_looks_89 : decode cX10_looks 89 = .ok (.iload 4, 2) := by decide +kernel
theorem dX10_looks_91 : decode cX10_looks 91 = .ok (.ishr, 1) := by decide +kernel
theorem dX10_looks_92 : decode cX10_looks 92 = .ok (.iconst 1, 1) := by decide +kernel
theorem dX10_looks_93 : decode cX10_looks 93 = .ok (.iand, 1) := by decide +kernel
theorem dX10_looks_94 : decode cX10_looks 94 = .ok (.ifCond .ne 49, 3) := by decide +kernel
theorem dX10_looks_97 : decode cX10_looks 97 = .ok (.aload_n 0, 1) := by decide +kernel
theorem dX10_looks_98 : decode cX10_looks 98 = .ok (.getfield 35, 3) := by decide +kernel
theorem dX10_looks_101 : decode cX10_looks 101 = .ok (.bipush 6, 2) := by decide +kernel
theorem dX10_looks_103 : decode cX10_looks 103 = .ok (.iload_n 1, 1) := by decide +kernel
theorem dX10_looks_104 : decode cX10_looks 104 = .ok (.imul, 1) := by decide +kernel
theorem dX10_looks_105 : decode cX10_looks 105 = .ok (.iload 4, 2) := by decide +kernel
theorem dX10_looks_107 : decode cX10_looks 107 = .ok (.iadd, 1) := by decide +kernel
theorem dX10_looks_108 : decode cX10_looks 108 = .ok (.iaload, 1) := by decide +kernel
theorem dX10_looks_109 : decode cX10_looks 109 = .ok (.iconst 1, 1) := by decide +kernel
theorem dX10_looks_110 : decode cX10_looks 110 = .ok (.if_icmp .ne 33, 3) := by decide +kernel
theorem dX10_looks_113 : decode cX10_looks 113 = .ok (.aload_n 0, 1) := by decide +kernel
theorem dX10_looks_114 : decode cX10_looks 114 = .ok (.getfield 41, 3) := by decide +kernel
theorem dX10_looks_117 : decode cX10_looks 117 = .ok (.iload_n 1, 1) := by decide +kernel
theorem dX10_looks_118 : decode cX10_looks 118 = .ok (.iload 4, 2) := by decide +kernel
theorem dX10_looks_120 : decode cX10_looks 120 = .ok (.iastore, 1) := by decide +kernel
theorem dX10_looks_121 : decode cX10_looks 121 = .ok (.aload_n 0, 1) := by decide +kernel
theorem dX10_looks_122 : decode cX10_looks 122 = .ok (.iload_n 1, 1) := by decide +kernel
theorem dX10_looks_123 : decode cX10_looks 123 = .ok (.iconst 1, 1) := by decide +kernel
theorem dX10_looks_124 : decode cX10_looks 124 = .ok (.iadd, 1) := by decide +kernel
theorem dX10_looks_125 : decode cX10_looks 125 = .ok (.iload_n 2, 1) := by decide +kernel
theorem dX10_looks_126 : decode cX10_looks 126 = .ok (.iconst 1, 1) := by decide +kernel
theorem dX10_looks_127 : decode cX10_looks 127 = .ok (.iload 4, 2) := by decide +kernel
theorem dX10_looks_129 : decode cX10_looks 129 = .ok (.ishl, 1) := by decide +kernel
theorem dX10_looks_130 : decode cX10_looks 130 = .ok (.ior, 1) := by decide +kernel
theorem dX10_looks_131 : decode cX10_looks 131 = .ok (.bipush 10, 2) := by decide +kernel
theorem dX10_looks_133 : decode cX10_looks 133 = .ok (.iload_n 3, 1) := by decide +kernel
theorem dX10_looks_134 : decode cX10_looks 134 = .ok (.imul, 1) := by decide +kernel
theorem dX10_looks_135 : decode cX10_looks 135 = .ok (.iload 4, 2) := by decide +kernel
theorem dX10_looks_137 : decode cX10_looks 137 = .ok (.iadd, 1) := by decide +kernel
theorem dX10_looks_138 : decode cX10_looks 138 = .ok (.iconst 1, 1) := by decide +kernel
theorem dX10_looks_139 : decode cX10_looks 139 = .ok (.iadd, 1) := by decide +kernel
theorem dX10_looks_140 : decode cX10_looks 140 = .ok (.invokevirtual 318, 3) := by decide +kernel
theorem dX10_looks_143 : decode cX10_looks 143 = .ok (.iinc 4 1, 3) := by decide +kernel
theorem dX10_looks_146 : decode cX10_looks 146 = .ok (.goto (-67), 3) := by decide +kernel
theorem dX10_looks_149 : decode cX10_looks 149 = .ok (.return_, 1) := by decide +kernel
theorem dX10_looksAll_0 : decode cX10_looksAll 0 = .ok (.iconst 0, 1) := by decide +kernel
theorem dX10_looksAll_1 : decode cX10_looksAll 1 = .ok (.istore_n 2, 1) := by decide +kernel
theorem dX10_looksAll_2 : decode cX10_looksAll 2 = .ok (.iload_n 2, 1) := by decide +kernel
theorem dX10_looksAll_3 : decode cX10_looksAll 3 = .ok (.aload_n 0, 1) := by decide +kernel
theorem dX10_looksAll_4 : decode cX10_looksAll 4 = .ok (.getfield 76, 3) := by decide +kernel
theorem dX10_looksAll_7 : decode cX10_looksAll 7 = .ok (.if_icmp .ge 68, 3) := by decide +kernel
theorem dX10_looksAll_10 : decode cX10_looksAll 10 = .ok (.aload_n 0, 1) := by decide +kernel
theorem dX10_looksAll_11 : decode cX10_looksAll 11 = .ok (.getfield 38, 3) := by decide +kernel
theorem dX10_looksAll_14 : decode cX10_looksAll 14 = .ok (.iload_n 2, 1) := by decide +kernel
theorem dX10_looksAll_15 : decode cX10_looksAll 15 = .ok (.iconst 0, 1) := by decide +kernel
theorem dX10_looksAll_16 : decode cX10_looksAll 16 = .ok (.iastore, 1) := by decide +kernel
theorem dX10_looksAll_17 : decode cX10_looksAll 17 = .ok (.iconst 0, 1) := by decide +kernel
theorem dX10_looksAll_18 : decode cX10_looksAll 18 = .ok (.istore_n 3, 1) := by decide +kernel
theorem dX10_looksAll_19 : decode cX10_looksAll 19 = .ok (.iload_n 3, 1) := by decide +kernel
theorem dX10_looksAll_20 : decode cX10_looksAll 20 = .ok (.aload_n 0, 1) := by decide +kernel
theorem dX10_looksAll_21 : decode cX10_looksAll 21 = .ok (.getfield 76, 3) := by decide +kernel
theorem dX10_looksAll_24 : decode cX10_looksAll 24 = .ok (.if_icmp .ge 45, 3) := by decide +kernel
theorem dX10_looksAll_27 : decode cX10_looksAll 27 = .ok (.aload_n 0, 1) := by decide +kernel
theorem dX10_looksAll_28 : decode cX10_looksAll 28 = .ok (.getfield 35, 3) := by decide +kernel
theorem dX10_looksAll_31 : decode cX10_looksAll 31 = .ok (.bipush 6, 2) := by decide +kernel
theorem dX10_looksAll_33 : decode cX10_looksAll 33 = .ok (.iload_n 2, 1) := by decide +kernel
theorem dX10_looksAll_34 : decode cX10_looksAll 34 = .ok (.imul, 1) := by decide +kernel
theorem dX10_looksAll_35 : decode cX10_looksAll 35 = .ok (.iload_n 3, 1) := by decide +kernel
theorem dX10_looksAll_36 : decode cX10_looksAll 36 = .ok (.iadd, 1) := by decide +kernel
theorem dX10_looksAll_37 : decode cX10_looksAll 37 = .ok (.aload_n 0, 1) := by decide +kernel
theorem dX10_looksAll_38 : decode cX10_looksAll 38 = .ok (.iload_n 2, 1) := by decide +kernel
theorem dX10_looksAll_39 : decode cX10_looksAll 39 = .ok (.iload_n 3, 1) := by decide +kernel
theorem dX10_looksAll_40 : decode cX10_looksAll 40 = .ok (.invokevirtual 129, 3) := by decide +kernel
theorem dX10_looksAll_43 : decode cX10_looksAll 43 = .ok (.aload_n 0, 1) := by decide +kernel
theorem dX10_looksAll_44 : decode cX10_looksAll 44 = .ok (.getfield 66, 3) := by decide +kernel
theorem dX10_looksAll_47 : decode cX10_looksAll 47 = .ok (.bipush 40, 2) := by decide +kernel
theorem dX10_looksAll_49 : decode cX10_looksAll 49 = .ok (.iload_n 1, 1) := by decide +kernel
theorem dX10_looksAll_50 : decode cX10_looksAll 50 = .ok (.imul, 1) := by decide +kernel
theorem dX10_looksAll_51 : decode cX10_looksAll 51 = .ok (.iload_n 2, 1) := by decide +kernel
theorem dX10_looksAll_52 : decode cX10_looksAll 52 = .ok (.iadd, 1) := by decide +kernel
theorem dX10_looksAll_53 : decode cX10_looksAll 53 = .ok (.iaload, 1) := by decide +kernel
theorem dX10_looksAll_54 : decode cX10_looksAll 54 = .ok (.if_icmp .ne 7, 3) := by decide +kernel
theorem dX10_looksAll_57 : decode cX10_looksAll 57 = .ok (.iconst 1, 1) := by decide +kernel
theorem dX10_looksAll_58 : decode cX10_looksAll 58 = .ok (.goto 4, 3) := by decide +kernel
theorem dX10_looksAll_61 : decode cX10_looksAll 61 = .ok (.iconst 0, 1) := by decide +kernel
theorem dX10_looksAll_62 : decode cX10_looksAll 62 = .ok (.iastore, 1) := by decide +kernel
theorem dX10_looksAll_63 : decode cX10_looksAll 63 = .ok (.iinc 3 1, 3) := by decide +kernel
theorem dX10_looksAll_66 : decode cX10_looksAll 66 = .ok (.goto (-47), 3) := by decide +kernel
theorem dX10_looksAll_69 : decode cX10_looksAll 69 = .ok (.iinc 2 1, 3) := by decide +kernel
theorem dX10_looksAll_72 : decode cX10_looksAll 72 = .ok (.goto (-70), 3) := by decide +kernel
theorem dX10_looksAll_75 : decode cX10_looksAll 75 = .ok (.aload_n 0, 1) := by decide +kernel
theorem dX10_looksAll_76 : decode cX10_looksAll 76 = .ok (.iconst 0, 1) := by decide +kernel
theorem dX10_looksAll_77 : decode cX10_looksAll 77 = .ok (.putfield 312, 3) := by decide +kernel
theorem dX10_looksAll_80 : decode cX10_looksAll 80 = .ok (.aload_n 0, 1) := by decide +kernel
theorem dX10_looksAll_81 : decode cX10_looksAll 81 = .ok (.iconst 0, 1) := by decide +kernel
theorem dX10_looksAll_82 : decode cX10_looksAll 82 = .ok (.putfield 315, 3) := by decide +kernel
theorem dX10_looksAll_85 : decode cX10_looksAll 85 = .ok (.aload_n 0, 1) := by decide +kernel
theorem dX10_looksAll_86 : decode cX10_looksAll 86 = .ok (.iconst 0, 1) := by decide +kernel
theorem dX10_looksAll_87 : decode cX10_looksAll 87 = .ok (.iconst 0, 1) := by decide +kernel
theorem dX10_looksAll_88 : decode cX10_looksAll 88 = .ok (.iconst 0, 1) := by decide +kernel
theorem dX10_looksAll_89 : decode cX10_looksAll 89 = .ok (.invokevirtual 318, 3) := by decide +kernel
theorem dX10_looksAll_92 : decode cX10_looksAll 92 = .ok (.return_, 1) := by decide +kernel
theorem dX10_sure_0 : decode cX10_sure 0 = .ok (.iconst 0, 1) := by decide +kernel
theorem dX10_sure_1 : decode cX10_sure 1 = .ok (.istore_n 1, 1) := by decide +kernel
theorem dX10_sure_2 : decode cX10_sure 2 = .ok (.iconst 0, 1) := by decide +kernel
theorem dX10_sure_3 : decode cX10_sure 3 = .ok (.istore_n 2, 1) := by decide +kernel
theorem dX10_sure_4 : decode cX10_sure 4 = .ok (.iload_n 2, 1) := by decide +kernel
theorem dX10_sure_5 : decode cX10_sure 5 = .ok (.aload_n 0, 1) := by decide +kernel
theorem dX10_sure_6 : decode cX10_sure 6 = .ok (.getfield 76, 3) := by decide +kernel
theorem dX10_sure_9 : decode cX10_sure 9 = .ok (.if_icmp .ge 32, 3) := by decide +kernel
theorem dX10_sure_12 : decode cX10_sure 12 = .ok (.iload_n 1, 1) := by decide +kernel
theorem dX10_sure_13 : decode cX10_sure 13 = .ok (.aload_n 0, 1) := by decide +kernel
theorem dX10_sure_14 : decode cX10_sure 14 = .ok (.getfield 38, 3) := by decide +kernel
theorem dX10_sure_17 : decode cX10_sure 17 = .ok (.iload_n 2, 1) := by decide +kernel
theorem dX10_sure_18 : decode cX10_sure 18 = .ok (.iaload, 1) := by decide +kernel
theorem dX10_sure_19 : decode cX10_sure 19 = .ok (.invokestatic 281, 3) := by decide +kernel
theorem dX10_sure_22 : decode cX10_sure 22 = .ok (.iconst 1, 1) := by decide +kernel
theorem dX10_sure_23 : decode cX10_sure 23 = .ok (.if_icmp .ne 7, 3) := by decide +kernel
theorem dX10_sure_26 : decode cX10_sure 26 = .ok (.iconst 1, 1) := by decide +kernel
theorem dX10_sure_27 : decode cX10_sure 27 = .ok (.goto 4, 3) := by decide +kernel
theorem dX10_sure_30 : decode cX10_sure 30 = .ok (.iconst 0, 1) := by decide +kernel
theorem dX10_sure_31 : decode cX10_sure 31 = .ok (.iload_n 2, 1) := by decide +kernel
theorem dX10_sure_32 : decode cX10_sure 32 = .ok (.ishl, 1) := by decide +kernel
theorem dX10_sure_33 : decode cX10_sure 33 = .ok (.ior, 1) := by decide +kernel
theorem dX10_sure_34 : decode cX10_sure 34 = .ok (.istore_n 1, 1) := by decide +kernel
theorem dX10_sure_35 : decode cX10_sure 35 = .ok (.iinc 2 1, 3) := by decide +kernel
theorem dX10_sure_38 : decode cX10_sure 38 = .ok (.goto (-34), 3) := by decide +kernel
theorem dX10_sure_41 : decode cX10_sure 41 = .ok (.iload_n 1, 1) := by decide +kernel
theorem dX10_sure_42 : decode cX10_sure 42 = .ok (.ireturn, 1) := by decide +kernel
theorem dX10_tells_0 : decode cX10_tells 0 = .ok (.iload_n 2, 1) := by decide +kernel
theorem dX10_tells_1 : decode cX10_tells 1 = .ok (.i2l, 1) := by decide +kernel
theorem dX10_tells_2 : decode cX10_tells 2 = .ok (.ldc2_w 117, 3) := by decide +kernel
theorem dX10_tells_5 : decode cX10_tells 5 = .ok (.ldc2_w 321, 3) := by decide +kernel
theorem dX10_tells_8 : decode cX10_tells 8 = .ok (.invokestatic 79, 3) := by decide +kernel
theorem dX10_tells_11 : decode cX10_tells 11 = .ok (.ifCond .eq 18, 3) := by decide +kernel
theorem dX10_tells_14 : decode cX10_tells 14 = .ok (.aload_n 0, 1) := by decide +kernel
theorem dX10_tells_15 : decode cX10_tells 15 = .ok (.iload_n 2, 1) := by decide +kernel
theorem dX10_tells_16 : decode cX10_tells 16 = .ok (.bipush 10, 2) := by decide +kernel
theorem dX10_tells_18 : decode cX10_tells 18 = .ok (.irem, 1) := by decide +kernel
theorem dX10_tells_19 : decode cX10_tells 19 = .ok (.invokevirtual 85, 3) := by decide +kernel
theorem dX10_tells_22 : decode cX10_tells 22 = .ok (.ifCond .eq 7, 3) := by decide +kernel
theorem dX10_tells_25 : decode cX10_tells 25 = .ok (.iconst 1, 1) := by decide +kernel
theorem dX10_tells_26 : decode cX10_tells 26 = .ok (.goto 4, 3) := by decide +kernel
theorem dX10_tells_29 : decode cX10_tells 29 = .ok (.iconst 0, 1) := by decide +kernel
theorem dX10_tells_30 : decode cX10_tells 30 = .ok (.istore_n 3, 1) := by decide +kernel
theorem dX10_tells_31 : decode cX10_tells 31 = .ok (.iload_n 1, 1) := by decide +kernel
theorem dX10_tells_32 : decode cX10_tells 32 = .ok (.invokestatic 323, 3) := by decide +kernel
theorem dX10_tells_35 : decode cX10_tells 35 = .ok (.ifCond .eq 19, 3) := by decide +kernel
theorem dX10_tells_38 : decode cX10_tells 38 = .ok (.iload_n 2, 1) := by decide +kernel
theorem dX10_tells_39 : decode cX10_tells 39 = .ok (.i2l, 1) := by decide +kernel
theorem dX10_tells_40 : decode cX10_tells 40 = .ok (.lconst 0, 1) := by decide +kernel
theorem dX10_tells_41 : decode cX10_tells 41 = .ok (.ldc2_w 83, 3) := by decide +kernel
theorem dX10_tells_44 : decode cX10_tells 44 = .ok (.invokestatic 79, 3) := by decide +kernel
theorem dX10_tells_47 : decode cX10_tells 47 = .ok (.ifCond .ne 10, 3) := by decide +kernel
theorem dX10_tells_50 : decode cX10_tells 50 = .ok (.iload_n 3, 1) := by decide +kernel
theorem dX10_tells_51 : decode cX10_tells 51 = .ok (.ifCond .ne 6, 3) := by decide +kernel
theorem dX10_tells_54 : decode cX10_tells 54 = .ok (.bipush (-2), 2) := by decide +kernel
theorem dX10_tells_56 : decode cX10_tells 56 = .ok (.ireturn, 1) := by decide +kernel
theorem dX10_tells_57 : decode cX10_tells 57 = .ok (.aload_n 0, 1) := by decide +kernel
theorem dX10_tells_58 : decode cX10_tells 58 = .ok (.getfield 56, 3) := by decide +kernel
theorem dX10_tells_61 : decode cX10_tells 61 = .ok (.iload_n 1, 1) := by decide +kernel
theorem dX10_tells_62 : decode cX10_tells 62 = .ok (.baload, 1) := by decide +kernel
theorem dX10_tells_63 : decode cX10_tells 63 = .ok (.ifCond .ne 6, 3) := by decide +kernel
theorem dX10_tells_66 : decode cX10_tells 66 = .ok (.bipush (-11), 2) := by decide +kernel
theorem dX10_tells_68 : decode cX10_tells 68 = .ok (.ireturn, 1) := by decide +kernel
theorem dX10_tells_69 : decode cX10_tells 69 = .ok (.aload_n 0, 1) := by decide +kernel
theorem dX10_tells_70 : decode cX10_tells 70 = .ok (.getfield 63, 3) := by decide +kernel
theorem dX10_tells_73 : decode cX10_tells 73 = .ok (.iload_n 1, 1) := by decide +kernel
theorem dX10_tells_74 : decode cX10_tells 74 = .ok (.iaload, 1) := by decide +kernel
theorem dX10_tells_75 : decode cX10_tells 75 = .ok (.aload_n 0, 1) := by decide +kernel
theorem dX10_tells_76 : decode cX10_tells 76 = .ok (.getfield 76, 3) := by decide +kernel
theorem dX10_tells_79 : decode cX10_tells 79 = .ok (.if_icmp .eq 6, 3) := by decide +kernel
theorem dX10_tells_82 : decode cX10_tells 82 = .ok (.bipush (-2), 2) := by decide +kernel
theorem dX10_tells_84 : decode cX10_tells 84 = .ok (.ireturn, 1) := by decide +kernel
theorem dX10_tells_85 : decode cX10_tells 85 = .ok (.iload_n 2, 1) := by decide +kernel
theorem dX10_tells_86 : decode cX10_tells 86 = .ok (.ifCond .ne 9, 3) := by decide +kernel
theorem dX10_tells_89 : decode cX10_tells 89 = .ok (.aload_n 0, 1) := by decide +kernel
theorem dX10_tells_90 : decode cX10_tells 90 = .ok (.iload_n 1, 1) := by decide +kernel
theorem dX10_tells_91 : decode cX10_tells 91 = .ok (.invokevirtual 326, 3) := by decide +kernel
theorem dX10_tells_94 : decode cX10_tells 94 = .ok (.ireturn, 1) := by decide +kernel
theorem dX10_tells_95 : decode cX10_tells 95 = .ok (.iload_n 2, 1) := by decide +kernel
theorem dX10_tells_96 : decode cX10_tells 96 = .ok (.iconst 4, 1) := by decide +kernel
theorem dX10_tells_97 : decode cX10_tells 97 = .ok (.if_icmp .ge 37, 3) := by decide +kernel
theorem dX10_tells_100 : decode cX10_tells 100 = .ok (.aload_n 0, 1) := by decide +kernel
theorem dX10_tells_101 : decode cX10_tells 101 = .ok (.iload_n 1, 1) := by decide +kernel
theorem dX10_tells_102 : decode cX10_tells 102 = .ok (.invokevirtual 329, 3) := by decide +kernel
theorem dX10_tells_105 : decode cX10_tells 105 = .ok (.iload_n 2, 1) := by decide +kernel
theorem dX10_tells_106 : decode cX10_tells 106 = .ok (.iconst 1, 1) := by decide +kernel
theorem dX10_tells_107 : decode cX10_tells 107 = .ok (.if_icmp .ne 10, 3) := by decide +kernel
theorem dX10_tells_110 : decode cX10_tells 110 = .ok (.aload_n 0, 1) := by decide +kernel
theorem dX10_tells_111 : decode cX10_tells 111 = .ok (.getfield 312, 3) := by decide +kernel
theorem dX10_tells_114 : decode cX10_tells 114 = .ok (.goto 19, 3) := by decide +kernel
theorem dX10_tells_117 : decode cX10_tells 117 = .ok (.iload_n 2, 1) := by decide +kernel
theorem dX10_tells_118 : decode cX10_tells 118 = .ok (.iconst 2, 1) := by decide +kernel
theorem dX10_tells_119 : decode cX10_tells 119 = .ok (.if_icmp .ne 10, 3) := by decide +kernel
theorem dX10_tells_122 : decode cX10_tells 122 = .ok (.aload_n 0, 1) := by decide +kernel
theorem dX10_tells_123 : decode cX10_tells 123 = .ok (.getfield 315, 3) := by decide +kernel
theorem dX10_tells_126 : decode cX10_tells 126 = .ok (.goto 7, 3) := by decide +kernel
theorem dX10_tells_129 : decode cX10_tells 129 = .ok (.aload_n 0, 1) := by decide +kernel
theorem dX10_tells_130 : decode cX10_tells 130 = .ok (.invokevirtual 332, 3) := by decide +kernel
theorem dX10_tells_133 : decode cX10_tells 133 = .ok (.ireturn, 1) := by decide +kernel
theorem dX10_tells_134 : decode cX10_tells 134 = .ok (.iload_n 2, 1) := by decide +kernel
theorem dX10_tells_135 : decode cX10_tells 135 = .ok (.bipush 10, 2) := by decide +kernel
theorem dX10_tells_137 : decode cX10_tells 137 = .ok (.irem, 1) := by decide +kernel
theorem dX10_tells_138 : decode cX10_tells 138 = .ok (.istore 4, 2) := by decide +kernel
theorem dX10_tells_140 : decode cX10_tells 140 = .ok (.iload_n 2, 1) := by decide +kernel
theorem dX10_tells_141 : decode cX10_tells 141 = .ok (.iconst 4, 1) := by decide +kernel
theorem dX10_tells_142 : decode cX10_tells 142 = .ok (.if_icmp .ne 8, 3) := by decide +kernel
theorem dX10_tells_145 : decode cX10_tells 145 = .ok (.bipush 6, 2) := by decide +kernel
theorem dX10_tells_147 : decode cX10_tells 147 = .ok (.goto 24, 3) := by decide +kernel
theorem dX10_tells_150 : decode cX10_tells 150 = .ok (.iload_n 2, 1) := by decide +kernel
theorem dX10_tells_151 : decode cX10_tells 151 = .ok (.bipush 20, 2) := by decide +kernel
theorem dX10_tells_153 : decode cX10_tells 153 = .ok (.if_icmp .ge 7, 3) := by decide +kernel
theorem dX10_tells_156 : decode cX10_tells 156 = .ok (.iconst 5, 1) := by decide +kernel
theorem dX10_tells_157 : decode cX10_tells 157 = .ok (.goto 14, 3) := by decide +kernel
theorem dX10_tells_160 : decode cX10_tells 160 = .ok (.iload_n 2, 1) := by decide +kernel
theorem dX10_tells_161 : decode cX10_tells 161 = .ok (.bipush 30, 2) := by decide +kernel
theorem dX10_tells_163 : decode cX10_tells 163 = .ok (.if_icmp .ge 7, 3) := by decide +kernel
theorem dX10_tells_166 : decode cX10_tells 166 = .ok (.iconst 2, 1) := by decide +kernel
theorem dX10_tells_167 : decode cX10_tells 167 = .ok (.goto 4, 3) := by decide +kernel
theorem dX10_tells_170 : decode cX10_tells 170 = .ok (.iconst 3, 1) := by decide +kernel
theorem dX10_tells_171 : decode cX10_tells 171 = .ok (.istore 5, 2) := by decide +kernel
theorem dX10_tells_173 : decode cX10_tells 173 = .ok (.iload 5, 2) := by decide +kernel
theorem dX10_tells_175 : decode cX10_tells 175 = .ok (.bipush 6, 2) := by decide +kernel
theorem dX10_tells_177 : decode cX10_tells 177 = .ok (.if_icmp .ne 10, 3) := by decide +kernel
theorem dX10_tells_180 : decode cX10_tells 180 = .ok (.aload_n 0, 1) := by decide +kernel
theorem dX10_tells_181 : decode cX10_tells 181 = .ok (.getfield 104, 3) := by decide +kernel
theorem dX10_tells_184 : decode cX10_tells 184 = .ok (.goto 11, 3) := by decide +kernel
theorem dX10_tells_187 : decode cX10_tells 187 = .ok (.aload_n 0, 1) := by decide +kernel
theorem dX10_tells_188 : decode cX10_tells 188 = .ok (.iload 4, 2) := by decide +kernel
theorem dX10_tells_190 : decode cX10_tells 190 = .ok (.iload 5, 2) := by decide +kernel
theorem dX10_tells_192 : decode cX10_tells 192 = .ok (.invokevirtual 93, 3) := by decide +kernel
theorem dX10_tells_195 : decode cX10_tells 195 = .ok (.istore 6, 2) := by decide +kernel
theorem dX10_tells_197 : decode cX10_tells 197 = .ok (.iload 5, 2) := by decide +kernel
theorem dX10_tells_199 : decode cX10_tells 199 = .ok (.bipush 6, 2) := by decide +kernel
theorem dX10_tells_201 : decode cX10_tells 201 = .ok (.if_icmp .ne 12, 3) := by decide +kernel
theorem dX10_tells_204 : decode cX10_tells 204 = .ok (.aload_n 0, 1) := by decide +kernel
theorem dX10_tells_205 : decode cX10_tells 205 = .ok (.getfield 73, 3) := by decide +kernel
theorem dX10_tells_208 : decode cX10_tells 208 = .ok (.iconst 1, 1) := by decide +kernel
theorem dX10_tells_209 : decode cX10_tells 209 = .ok (.isub, 1) := by decide +kernel
theorem dX10_tells_210 : decode cX10_tells 210 = .ok (.goto 18, 3) := by decide +kernel
theorem dX10_tells_213 : decode cX10_tells 213 = .ok (.iload 5, 2) := by decide +kernel
theorem dX10_tells_215 : decode cX10_tells 215 = .ok (.iconst 5, 1) := by decide +kernel
theorem dX10_tells_216 : decode cX10_tells 216 = .ok (.if_icmp .ne 7, 3) := by decide +kernel
theorem dX10_tells_219 : decode cX10_tells 219 = .ok (.iconst 5, 1) := by decide +kernel
theorem dX10_tells_220 : decode cX10_tells 220 = .ok (.goto 8, 3) := by decide +kernel
theorem dX10_tells_223 : decode cX10_tells 223 = .ok (.iload 5, 2) := by decide +kernel
theorem dX10_tells_225 : decode cX10_tells 225 = .ok (.invokestatic 89, 3) := by decide +kernel
theorem dX10_tells_228 : decode cX10_tells 228 = .ok (.istore 7, 2) := by decide +kernel
theorem dX10_tells_230 : decode cX10_tells 230 = .ok (.iconst 0, 1) := by decide +kernel
theorem dX10_tells_231 : decode cX10_tells 231 = .ok (.istore 8, 2) := by decide +kernel
theorem dX10_tells_233 : decode cX10_tells 233 = .ok (.iconst 0, 1) := by decide +kernel
theorem dX10_tells_234 : decode cX10_tells 234 = .ok (.istore 9, 2) := by decide +kernel
theorem dX10_tells_236 : decode cX10_tells 236 = .ok (.iload 9, 2) := by decide +kernel
theorem dX10_tells_238 : decode cX10_tells 238 = .ok (.iload 7, 2) := by decide +kernel
theorem dX10_tells_240 : decode cX10_tells 240 = .ok (.if_icmp .gt 40, 3) := by decide +kernel
theorem dX10_tells_243 : decode cX10_tells 243 = .ok (.aload_n 0, 1) := by decide +kernel
theorem dX10_tells_244 : decode cX10_tells 244 = .ok (.iload 5, 2) := by decide +kernel
theorem dX10_tells_246 : decode cX10_tells 246 = .ok (.iload 4, 2) := by decide +kernel
theorem dX10_tells_248 : decode cX10_tells 248 = .ok (.iload 9, 2) := by decide +kernel
theorem dX10_tells_250 : decode cX10_tells 250 = .ok (.invokevirtual 97, 3) := by decide +kernel
theorem dX10_tells_253 : decode cX10_tells 253 = .ok (.iload 8, 2) := by decide +kernel
theorem dX10_tells_255 : decode cX10_tells 255 = .ok (.aload_n 0, 1) := by decide +kernel
theorem dX10_tells_256 : decode cX10_tells 256 = .ok (.iload_n 1, 1) := by decide +kernel
theorem dX10_tells_257 : decode cX10_tells 257 = .ok (.invokevirtual 326, 3) := by decide +kernel
theorem dX10_tells_260 : decode cX10_tells 260 = .ok (.ifCond .ne 7, 3) := by decide +kernel
theorem dX10_tells_263 : decode cX10_tells 263 = .ok (.iconst 1, 1) := by decide +kernel
theorem dX10_tells_264 : decode cX10_tells 264 = .ok (.goto 4, 3) := by decide +kernel
theorem dX10_tells_267 : decode cX10_tells 267 = .ok (.iconst 0, 1) := by decide +kernel
theorem dX10_tells_268 : decode cX10_tells 268 = .ok (.iload 9, 2) := by decide +kernel
theorem dX10_tells_270 : decode cX10_tells 270 = .ok (.ishl, 1) := by decide +kernel
theorem dX10_tells_271 : decode cX10_tells 271 = .ok (.ior, 1) := by decide +kernel
theorem dX10_tells_272 : decode cX10_tells 272 = .ok (.istore 8, 2) := by decide +kernel
theorem dX10_tells_274 : decode cX10_tells 274 = .ok (.iinc 9 1, 3) := by decide +kernel
theorem dX10_tells_277 : decode cX10_tells 277 = .ok (.goto (-41), 3) := by decide +kernel
theorem dX10_tells_280 : decode cX10_tells 280 = .ok (.aload_n 0, 1) := by decide +kernel
theorem dX10_tells_281 : decode cX10_tells 281 = .ok (.iload 5, 2) := by decide +kernel
theorem dX10_tells_283 : decode cX10_tells 283 = .ok (.iload 4, 2) := by decide +kernel
theorem dX10_tells_285 : decode cX10_tells 285 = .ok (.iload 6, 2) := by decide +kernel
theorem dX10_tells_287 : decode cX10_tells 287 = .ok (.invokevirtual 97, 3) := by decide +kernel
theorem dX10_tells_290 : decode cX10_tells 290 = .ok (.iload 8, 2) := by decide +kernel
theorem dX10_tells_292 : decode cX10_tells 292 = .ok (.ireturn, 1) := by decide +kernel
theorem dX10_film_0 : decode cX10_film 0 = .ok (.iload_n 1, 1) := by decide +kernel
theorem dX10_film_1 : decode cX10_film 1 = .ok (.invokestatic 323, 3) := by decide +kernel
theorem dX10_film_4 : decode cX10_film 4 = .ok (.ifCond .ne 6, 3) := by decide +kernel
theorem dX10_film_7 : decode cX10_film 7 = .ok (.bipush (-2), 2) := by decide +kernel
theorem dX10_film_9 : decode cX10_film 9 = .ok (.ireturn, 1) := by decide +kernel
theorem dX10_film_10 : decode cX10_film 10 = .ok (.aload_n 0, 1) := by decide +kernel
theorem dX10_film_11 : decode cX10_film 11 = .ok (.iload_n 1, 1) := by decide +kernel
theorem dX10_film_12 : decode cX10_film 12 = .ok (.iconst 0, 1) := by decide +kernel
theorem dX10_film_13 : decode cX10_film 13 = .ok (.aload_n 0, 1) := by decide +kernel
theorem dX10_film_14 : decode cX10_film 14 = .ok (.getfield 76, 3) := by decide +kernel
theorem dX10_film_17 : decode cX10_film 17 = .ok (.invokevirtual 335, 3) := by decide +kernel
theorem dX10_film_20 : decode cX10_film 20 = .ok (.pop, 1) := by decide +kernel
theorem dX10_film_21 : decode cX10_film 21 = .ok (.iconst 0, 1) := by decide +kernel
theorem dX10_film_22 : decode cX10_film 22 = .ok (.istore_n 2, 1) := by decide +kernel
theorem dX10_film_23 : decode cX10_film 23 = .ok (.iload_n 2, 1) := by decide +kernel
theorem dX10_film_24 : decode cX10_film 24 = .ok (.aload_n 0, 1) := by decide +kernel
theorem dX10_film_25 : decode cX10_film 25 = .ok (.getfield 76, 3) := by decide +kernel
theorem dX10_film_28 : decode cX10_film 28 = .ok (.if_icmp .ge 31, 3) := by decide +kernel
theorem dX10_film_31 : decode cX10_film 31 = .ok (.aload_n 0, 1) := by decide +kernel
theorem dX10_film_32 : decode cX10_film 32 = .ok (.getfield 66, 3) := by decide +kernel
theorem dX10_film_35 : decode cX10_film 35 = .ok (.bipush 40, 2) := by decide +kernel
theorem dX10_film_37 : decode cX10_film 37 = .ok (.iload_n 1, 1) := by decide +kernel
theorem dX10_film_38 : decode cX10_film 38 = .ok (.imul, 1) := by decide +kernel
theorem dX10_film_39 : decode cX10_film 39 = .ok (.iload_n 2, 1) := by decide +kernel
theorem dX10_film_40 : decode cX10_film 40 = .ok (.iadd, 1) := by decide +kernel
theorem dX10_film_41 : decode cX10_film 41 = .ok (.aload_n 0, 1) := by decide +kernel
theorem dX10_film_42 : decode cX10_film 42 = .ok (.iload_n 2, 1) := by decide +kernel
theorem dX10_film_43 : decode cX10_film 43 = .ok (.aload_n 0, 1) := by decide +kernel
theorem dX10_film_44 : decode cX10_film 44 = .ok (.getfield 32, 3) := by decide +kernel
theorem dX10_film_47 : decode cX10_film 47 = .ok (.iload_n 2, 1) := by decide +kernel
theorem dX10_film_48 : decode cX10_film 48 = .ok (.iaload, 1) := by decide +kernel
theorem dX10_film_49 : decode cX10_film 49 = .ok (.invokevirtual 129, 3) := by decide +kernel
theorem dX10_film_52 : decode cX10_film 52 = .ok (.iastore, 1) := by decide +kernel
theorem dX10_film_53 : decode cX10_film 53 = .ok (.iinc 2 1, 3) := by decide +kernel
theorem dX10_film_56 : decode cX10_film 56 = .ok (.goto (-33), 3) := by decide +kernel
theorem dX10_film_59 : decode cX10_film 59 = .ok (.aload_n 0, 1) := by decide +kernel
theorem dX10_film_60 : decode cX10_film 60 = .ok (.getfield 76, 3) := by decide +kernel
theorem dX10_film_63 : decode cX10_film 63 = .ok (.ireturn, 1) := by decide +kernel
theorem dX10_draws_0 : decode cX10_draws 0 = .ok (.iload_n 1, 1) := by decide +kernel
theorem dX10_draws_1 : decode cX10_draws 1 = .ok (.istore_n 2, 1) := by decide +kernel
theorem dX10_draws_2 : decode cX10_draws 2 = .ok (.iconst 0, 1) := by decide +kernel
theorem dX10_draws_3 : decode cX10_draws 3 = .ok (.istore_n 3, 1) := by decide +kernel
theorem dX10_draws_4 : decode cX10_draws 4 = .ok (.iload_n 3, 1) := by decide +kernel
theorem dX10_draws_5 : decode cX10_draws 5 = .ok (.aload_n 0, 1) := by decide +kernel
theorem dX10_draws_6 : decode cX10_draws 6 = .ok (.getfield 76, 3) := by decide +kernel
theorem dX10_draws_9 : decode cX10_draws 9 = .ok (.if_icmp .ge 47, 3) := by decide +kernel
theorem dX10_draws_12 : decode cX10_draws 12 = .ok (.aload_n 0, 1) := by decide +kernel
theorem dX10_draws_13 : decode cX10_draws 13 = .ok (.getfield 44, 3) := by decide +kernel
theorem dX10_draws_16 : decode cX10_draws 16 = .ok (.iload_n 3, 1) := by decide +kernel
theorem dX10_draws_17 : decode cX10_draws 17 = .ok (.aload_n 0, 1) := by decide +kernel
theorem dX10_draws_18 : decode cX10_draws 18 = .ok (.iload_n 3, 1) := by decide +kernel
theorem dX10_draws_19 : decode cX10_draws 19 = .ok (.invokevirtual 119, 3) := by decide +kernel
theorem dX10_draws_22 : decode cX10_draws 22 = .ok (.iastore, 1) := by decide +kernel
theorem dX10_draws_23 : decode cX10_draws 23 = .ok (.iload_n 2, 1) := by decide +kernel
theorem dX10_draws_24 : decode cX10_draws 24 = .ok (.ldc_w 338, 3) := by decide +kernel
theorem dX10_draws_27 : decode cX10_draws 27 = .ok (.imul, 1) := by decide +kernel
theorem dX10_draws_28 : decode cX10_draws 28 = .ok (.sipush 12345, 3) := by decide +kernel
theorem dX10_draws_31 : decode cX10_draws 31 = .ok (.iadd, 1) := by decide +kernel
theorem dX10_draws_32 : decode cX10_draws 32 = .ok (.istore_n 2, 1) := by decide +kernel
theorem dX10_draws_33 : decode cX10_draws 33 = .ok (.aload_n 0, 1) := by decide +kernel
theorem dX10_draws_34 : decode cX10_draws 34 = .ok (.getfield 29, 3) := by decide +kernel
theorem dX10_draws_37 : decode cX10_draws 37 = .ok (.iconst 3, 1) := by decide +kernel
theorem dX10_draws_38 : decode cX10_draws 38 = .ok (.iload_n 3, 1) := by decide +kernel
theorem dX10_draws_39 : decode cX10_draws 39 = .ok (.imul, 1) := by decide +kernel
theorem dX10_draws_40 : decode cX10_draws 40 = .ok (.iconst 1, 1) := by decide +kernel
theorem dX10_draws_41 : decode cX10_draws 41 = .ok (.iadd, 1) := by decide +kernel
theorem dX10_draws_42 : decode cX10_draws 42 = .ok (.iload_n 2, 1) := by decide +kernel
theorem dX10_draws_43 : decode cX10_draws 43 = .ok (.bipush 9, 2) := by decide +kernel
theorem dX10_draws_45 : decode cX10_draws 45 = .ok (.iushr, 1) := by decide +kernel
theorem dX10_draws_46 : decode cX10_draws 46 = .ok (.bipush 16, 2) := by decide +kernel
theorem dX10_draws_48 : decode cX10_draws 48 = .ok (.irem, 1) := by decide +kernel
theorem dX10_draws_49 : decode cX10_draws 49 = .ok (.iastore, 1) := by decide +kernel
theorem dX10_draws_50 : decode cX10_draws 50 = .ok (.iinc 3 1, 3) := by decide +kernel
theorem dX10_draws_53 : decode cX10_draws 53 = .ok (.goto (-49), 3) := by decide +kernel
theorem dX10_draws_56 : decode cX10_draws 56 = .ok (.return_, 1) := by decide +kernel
theorem dX10_laysBack_0 : decode cX10_laysBack 0 = .ok (.iconst 0, 1) := by decide +kernel
theorem dX10_laysBack_1 : decode cX10_laysBack 1 = .ok (.istore_n 1, 1) := by decide +kernel
theorem dX10_laysBack_2 : decode cX10_laysBack 2 = .ok (.iload_n 1, 1) := by decide +kernel
theorem dX10_laysBack_3 : decode cX10_laysBack 3 = .ok (.aload_n 0, 1) := by decide +kernel
theorem dX10_laysBack_4 : decode cX10_laysBack 4 = .ok (.getfield 76, 3) := by decide +kernel
theorem dX10_laysBack_7 : decode cX10_laysBack 7 = .ok (.if_icmp .ge 25, 3) := by decide +kernel
theorem dX10_laysBack_10 : decode cX10_laysBack 10 = .ok (.aload_n 0, 1) := by decide +kernel
theorem dX10_laysBack_11 : decode cX10_laysBack 11 = .ok (.getfield 29, 3) := by decide +kernel
theorem dX10_laysBack_14 : decode cX10_laysBack 14 = .ok (.iconst 3, 1) := by decide +kernel
theorem dX10_laysBack_15 : decode cX10_laysBack 15 = .ok (.iload_n 1, 1) := by decide +kernel
theorem dX10_laysBack_16 : decode cX10_laysBack 16 = .ok (.imul, 1) := by decide +kernel
theorem dX10_laysBack_17 : decode cX10_laysBack 17 = .ok (.iconst 1, 1) := by decide +kernel
theorem dX10_laysBack_18 : decode cX10_laysBack 18 = .ok (.iadd, 1) := by decide +kernel
theorem dX10_laysBack_19 : decode cX10_laysBack 19 = .ok (.aload_n 0, 1) := by decide +kernel
theorem dX10_laysBack_20 : decode cX10_laysBack 20 = .ok (.getfield 44, 3) := by decide +kernel
theorem dX10_laysBack_23 : decode cX10_laysBack 23 = .ok (.iload_n 1, 1) := by decide +kernel
theorem dX10_laysBack_24 : decode cX10_laysBack 24 = .ok (.iaload, 1) := by decide +kernel
theorem dX10_laysBack_25 : decode cX10_laysBack 25 = .ok (.iastore, 1) := by decide +kernel
theorem dX10_laysBack_26 : decode cX10_laysBack 26 = .ok (.iinc 1 1, 3) := by decide +kernel
theorem dX10_laysBack_29 : decode cX10_laysBack 29 = .ok (.goto (-27), 3) := by decide +kernel
theorem dX10_laysBack_32 : decode cX10_laysBack 32 = .ok (.return_, 1) := by decide +kernel
theorem dX10_drawn_0 : decode cX10_drawn 0 = .ok (.iload_n 2, 1) := by decide +kernel
theorem dX10_drawn_1 : decode cX10_drawn 1 = .ok (.i2l, 1) := by decide +kernel
theorem dX10_drawn_2 : decode cX10_drawn 2 = .ok (.lconst 0, 1) := by decide +kernel
theorem dX10_drawn_3 : decode cX10_drawn 3 = .ok (.ldc2_w 270, 3) := by decide +kernel
theorem dX10_drawn_6 : decode cX10_drawn 6 = .ok (.invokestatic 79, 3) := by decide +kernel
theorem dX10_drawn_9 : decode cX10_drawn 9 = .ok (.ifCond .ne 6, 3) := by decide +kernel
theorem dX10_drawn_12 : decode cX10_drawn 12 = .ok (.bipush (-2), 2) := by decide +kernel
theorem dX10_drawn_14 : decode cX10_drawn 14 = .ok (.ireturn, 1) := by decide +kernel
theorem dX10_drawn_15 : decode cX10_drawn 15 = .ok (.aload_n 0, 1) := by decide +kernel
theorem dX10_drawn_16 : decode cX10_drawn 16 = .ok (.iload_n 1, 1) := by decide +kernel
theorem dX10_drawn_17 : decode cX10_drawn 17 = .ok (.invokevirtual 339, 3) := by decide +kernel
theorem dX10_drawn_20 : decode cX10_drawn 20 = .ok (.aload_n 0, 1) := by decide +kernel
theorem dX10_drawn_21 : decode cX10_drawn 21 = .ok (.iload_n 2, 1) := by decide +kernel
theorem dX10_drawn_22 : decode cX10_drawn 22 = .ok (.iconst 0, 1) := by decide +kernel
theorem dX10_drawn_23 : decode cX10_drawn 23 = .ok (.invokevirtual 342, 3) := by decide +kernel
theorem dX10_drawn_26 : decode cX10_drawn 26 = .ok (.istore_n 3, 1) := by decide +kernel
theorem dX10_drawn_27 : decode cX10_drawn 27 = .ok (.aload_n 0, 1) := by decide +kernel
theorem dX10_drawn_28 : decode cX10_drawn 28 = .ok (.invokevirtual 345, 3) := by decide +kernel
theorem dX10_drawn_31 : decode cX10_drawn 31 = .ok (.iload_n 3, 1) := by decide +kernel
theorem dX10_drawn_32 : decode cX10_drawn 32 = .ok (.ireturn, 1) := by decide +kernel
theorem dX10_chance_0 : decode cX10_chance 0 = .ok (.iload_n 2, 1) := by decide +kernel
theorem dX10_chance_1 : decode cX10_chance 1 = .ok (.i2l, 1) := by decide +kernel
theorem dX10_chance_2 : decode cX10_chance 2 = .ok (.lconst 1, 1) := by decide +kernel
theorem dX10_chance_3 : decode cX10_chance 3 = .ok (.ldc2_w 348, 3) := by decide +kernel
theorem dX10_chance_6 : decode cX10_chance 6 = .ok (.invokestatic 79, 3) := by decide +kernel
theorem dX10_chance_9 : decode cX10_chance 9 = .ok (.ifCond .eq 13, 3) := by decide +kernel
theorem dX10_chance_12 : decode cX10_chance 12 = .ok (.iload_n 3, 1) := by decide +kernel
theorem dX10_chance_13 : decode cX10_chance 13 = .ok (.i2l, 1) := by decide +kernel
theorem dX10_chance_14 : decode cX10_chance 14 = .ok (.lconst 0, 1) := by decide +kernel
theorem dX10_chance_15 : decode cX10_chance 15 = .ok (.lconst 1, 1) := by decide +kernel
theorem dX10_chance_16 : decode cX10_chance 16 = .ok (.invokestatic 79, 3) := by decide +kernel
theorem dX10_chance_19 : decode cX10_chance 19 = .ok (.ifCond .ne 7, 3) := by decide +kernel
theorem dX10_chance_22 : decode cX10_chance 22 = .ok (.ldc2_w 350, 3) := by decide +kernel
theorem dX10_chance_25 : decode cX10_chance 25 = .ok (.lreturn, 1) := by decide +kernel
theorem dX10_chance_26 : decode cX10_chance 26 = .ok (.lconst 0, 1) := by decide +kernel
theorem dX10_chance_27 : decode cX10_chance 27 = .ok (.lstore 4, 2) := by decide +kernel
theorem dX10_chance_29 : decode cX10_chance 29 = .ok (.iconst 0, 1) := by decide +kernel
theorem dX10_chance_30 : decode cX10_chance 30 = .ok (.istore 6, 2) := by decide +kernel
theorem dX10_chance_32 : decode cX10_chance 32 = .ok (.iload 6, 2) := by decide +kernel
theorem dX10_chance_34 : decode cX10_chance 34 = .ok (.iload_n 2, 1) := by decide +kernel
theorem dX10_chance_35 : decode cX10_chance 35 = .ok (.if_icmp .ge 88, 3) := by decide +kernel
theorem dX10_chance_38 : decode cX10_chance 38 = .ok (.aload_n 0, 1) := by decide +kernel
theorem dX10_chance_39 : decode cX10_chance 39 = .ok (.iload_n 1, 1) := by decide +kernel
theorem dX10_chance_40 : decode cX10_chance 40 = .ok (.iload 6, 2) := by decide +kernel
theorem dX10_chance_42 : decode cX10_chance 42 = .ok (.iadd, 1) := by decide +kernel
theorem dX10_chance_43 : decode cX10_chance 43 = .ok (.invokevirtual 339, 3) := by decide +kernel
theorem dX10_chance_46 : decode cX10_chance 46 = .ok (.iconst 0, 1) := by decide +kernel
theorem dX10_chance_47 : decode cX10_chance 47 = .ok (.istore 7, 2) := by decide +kernel
theorem dX10_chance_49 : decode cX10_chance 49 = .ok (.iconst 0, 1) := by decide +kernel
theorem dX10_chance_50 : decode cX10_chance 50 = .ok (.istore 8, 2) := by decide +kernel
theorem dX10_chance_52 : decode cX10_chance 52 = .ok (.iload 8, 2) := by decide +kernel
theorem dX10_chance_54 : decode cX10_chance 54 = .ok (.aload_n 0, 1) := by decide +kernel
theorem dX10_chance_55 : decode cX10_chance 55 = .ok (.getfield 76, 3) := by decide +kernel
theorem dX10_chance_58 : decode cX10_chance 58 = .ok (.if_icmp .ge 40, 3) := by decide +kernel
theorem dX10_chance_61 : decode cX10_chance 61 = .ok (.iload 7, 2) := by decide +kernel
theorem dX10_chance_63 : decode cX10_chance 63 = .ok (.ifCond .ne 22, 3) := by decide +kernel
theorem dX10_chance_66 : decode cX10_chance 66 = .ok (.aload_n 0, 1) := by decide +kernel
theorem dX10_chance_67 : decode cX10_chance 67 = .ok (.iconst 1, 1) := by decide +kernel
theorem dX10_chance_68 : decode cX10_chance 68 = .ok (.iload 8, 2) := by decide +kernel
theorem dX10_chance_70 : decode cX10_chance 70 = .ok (.ishl, 1) := by decide +kernel
theorem dX10_chance_71 : decode cX10_chance 71 = .ok (.invokevirtual 307, 3) := by decide +kernel
theorem dX10_chance_74 : decode cX10_chance 74 = .ok (.iconst 1, 1) := by decide +kernel
theorem dX10_chance_75 : decode cX10_chance 75 = .ok (.aload_n 0, 1) := by decide +kernel
theorem dX10_chance_76 : decode cX10_chance 76 = .ok (.getfield 76, 3) := by decide +kernel
theorem dX10_chance_79 : decode cX10_chance 79 = .ok (.ishl, 1) := by decide +kernel
theorem dX10_chance_80 : decode cX10_chance 80 = .ok (.iconst 1, 1) := by decide +kernel
theorem dX10_chance_81 : decode cX10_chance 81 = .ok (.isub, 1) := by decide +kernel
theorem dX10_chance_82 : decode cX10_chance 82 = .ok (.if_icmp .ne 7, 3) := by decide +kernel
theorem dX10_chance_85 : decode cX10_chance 85 = .ok (.iconst 1, 1) := by decide +kernel
theorem dX10_chance_86 : decode cX10_chance 86 = .ok (.goto 4, 3) := by decide +kernel
theorem dX10_chance_89 : decode cX10_chance 89 = .ok (.iconst 0, 1) := by decide +kernel
theorem dX10_chance_90 : decode cX10_chance 90 = .ok (.istore 7, 2) := by decide +kernel
theorem dX10_chance_92 : decode cX10_chance 92 = .ok (.iinc 8 1, 3) := by decide +kernel
theorem dX10_chance_95 : decode cX10_chance 95 = .ok (.goto (-43), 3) := by decide +kernel
theorem dX10_chance_98 : decode cX10_chance 98 = .ok (.lload 4, 2) := by decide +kernel
theorem dX10_chance_100 : decode cX10_chance 100 = .ok (.iload 7, 2) := by decide +kernel
theorem dX10_chance_102 : decode cX10_chance 102 = .ok (.ifCond .eq 7, 3) := by decide +kernel
theorem dX10_chance_105 : decode cX10_chance 105 = .ok (.lconst 1, 1) := by decide +kernel
theorem dX10_chance_106 : decode cX10_chance 106 = .ok (.goto 4, 3) := by decide +kernel
theorem dX10_chance_109 : decode cX10_chance 109 = .ok (.lconst 0, 1) := by decide +kernel
theorem dX10_chance_110 : decode cX10_chance 110 = .ok (.ladd, 1) := by decide +kernel
theorem dX10_chance_111 : decode cX10_chance 111 = .ok (.lstore 4, 2) := by decide +kernel
theorem dX10_chance_113 : decode cX10_chance 113 = .ok (.aload_n 0, 1) := by decide +kernel
theorem dX10_chance_114 : decode cX10_chance 114 = .ok (.invokevirtual 345, 3) := by decide +kernel
theorem dX10_chance_117 : decode cX10_chance 117 = .ok (.iinc 6 1, 3) := by decide +kernel
theorem dX10_chance_120 : decode cX10_chance 120 = .ok (.goto (-88), 3) := by decide +kernel
theorem dX10_chance_123 : decode cX10_chance 123 = .ok (.lload 4, 2) := by decide +kernel
theorem dX10_chance_125 : decode cX10_chance 125 = .ok (.lstore 6, 2) := by decide +kernel
theorem dX10_chance_127 : decode cX10_chance 127 = .ok (.iload_n 2, 1) := by decide +kernel
theorem dX10_chance_128 : decode cX10_chance 128 = .ok (.i2l, 1) := by decide +kernel
theorem dX10_chance_129 : decode cX10_chance 129 = .ok (.lstore 8, 2) := by decide +kernel
theorem dX10_chance_131 : decode cX10_chance 131 = .ok (.lload 8, 2) := by decide +kernel
theorem dX10_chance_133 : decode cX10_chance 133 = .ok (.lconst 0, 1) := by decide +kernel
theorem dX10_chance_134 : decode cX10_chance 134 = .ok (.lcmp, 1) := by decide +kernel
theorem dX10_chance_135 : decode cX10_chance 135 = .ok (.ifCond .eq 21, 3) := by decide +kernel
theorem dX10_chance_138 : decode cX10_chance 138 = .ok (.lload 6, 2) := by decide +kernel
theorem dX10_chance_140 : decode cX10_chance 140 = .ok (.lload 8, 2) := by decide +kernel
theorem dX10_chance_142 : decode cX10_chance 142 = .ok (.lrem, 1) := by decide +kernel
theorem dX10_chance_143 : decode cX10_chance 143 = .ok (.lstore 10, 2) := by decide +kernel
theorem dX10_chance_145 : decode cX10_chance 145 = .ok (.lload 8, 2) := by decide +kernel
theorem dX10_chance_147 : decode cX10_chance 147 = .ok (.lstore 6, 2) := by decide +kernel
theorem dX10_chance_149 : decode cX10_chance 149 = .ok (.lload 10, 2) := by decide +kernel
theorem dX10_chance_151 : decode cX10_chance 151 = .ok (.lstore 8, 2) := by decide +kernel
theorem dX10_chance_153 : decode cX10_chance 153 = .ok (.goto (-22), 3) := by decide +kernel
theorem dX10_chance_156 : decode cX10_chance 156 = .ok (.iload_n 3, 1) := by decide +kernel
theorem dX10_chance_157 : decode cX10_chance 157 = .ok (.ifCond .ne 11, 3) := by decide +kernel
theorem dX10_chance_160 : decode cX10_chance 160 = .ok (.lload 4, 2) := by decide +kernel
theorem dX10_chance_162 : decode cX10_chance 162 = .ok (.lload 6, 2) := by decide +kernel
theorem dX10_chance_164 : decode cX10_chance 164 = .ok (.ldiv, 1) := by decide +kernel
theorem dX10_chance_165 : decode cX10_chance 165 = .ok (.goto 8, 3) := by decide +kernel
theorem dX10_chance_168 : decode cX10_chance 168 = .ok (.iload_n 2, 1) := by decide +kernel
theorem dX10_chance_169 : decode cX10_chance 169 = .ok (.i2l, 1) := by decide +kernel
theorem dX10_chance_170 : decode cX10_chance 170 = .ok (.lload 6, 2) := by decide +kernel
theorem dX10_chance_172 : decode cX10_chance 172 = .ok (.ldiv, 1) := by decide +kernel
theorem dX10_chance_173 : decode cX10_chance 173 = .ok (.lreturn, 1) := by decide +kernel
theorem dX10_image_0 : decode cX10_image 0 = .ok (.iconst 0, 1) := by decide +kernel
theorem dX10_image_1 : decode cX10_image 1 = .ok (.istore_n 1, 1) := by decide +kernel
theorem dX10_image_2 : decode cX10_image 2 = .ok (.iload_n 1, 1) := by decide +kernel
theorem dX10_image_3 : decode cX10_image 3 = .ok (.bipush 18, 2) := by decide +kernel
theorem dX10_image_5 : decode cX10_image 5 = .ok (.if_icmp .ge 21, 3) := by decide +kernel
theorem dX10_image_8 : decode cX10_image 8 = .ok (.aload_n 0, 1) := by decide +kernel
theorem dX10_image_9 : decode cX10_image 9 = .ok (.getfield 47, 3) := by decide +kernel
theorem dX10_image_12 : decode cX10_image 12 = .ok (.iload_n 1, 1) := by decide +kernel
theorem dX10_image_13 : decode cX10_image 13 = .ok (.aload_n 0, 1) := by decide +kernel
theorem dX10_image_14 : decode cX10_image 14 = .ok (.getfield 29, 3) := by decide +kernel
theorem dX10_image_17 : decode cX10_image 17 = .ok (.iload_n 1, 1) := by decide +kernel
theorem dX10_image_18 : decode cX10_image 18 = .ok (.iaload, 1) := by decide +kernel
theorem dX10_image_19 : decode cX10_image 19 = .ok (.iastore, 1) := by decide +kernel
theorem dX10_image_20 : decode cX10_image 20 = .ok (.iinc 1 1, 3) := by decide +kernel
theorem dX10_image_23 : decode cX10_image 23 = .ok (.goto (-21), 3) := by decide +kernel
theorem dX10_image_26 : decode cX10_image 26 = .ok (.iconst 0, 1) := by decide +kernel
theorem dX10_image_27 : decode cX10_image 27 = .ok (.istore_n 1, 1) := by decide +kernel
theorem dX10_image_28 : decode cX10_image 28 = .ok (.iload_n 1, 1) := by decide +kernel
theorem dX10_image_29 : decode cX10_image 29 = .ok (.bipush 6, 2) := by decide +kernel
theorem dX10_image_31 : decode cX10_image 31 = .ok (.if_icmp .ge 21, 3) := by decide +kernel
theorem dX10_image_34 : decode cX10_image 34 = .ok (.aload_n 0, 1) := by decide +kernel
theorem dX10_image_35 : decode cX10_image 35 = .ok (.getfield 50, 3) := by decide +kernel
theorem dX10_image_38 : decode cX10_image 38 = .ok (.iload_n 1, 1) := by decide +kernel
theorem dX10_image_39 : decode cX10_image 39 = .ok (.aload_n 0, 1) := by decide +kernel
theorem dX10_image_40 : decode cX10_image 40 = .ok (.getfield 32, 3) := by decide +kernel
theorem dX10_image_43 : decode cX10_image 43 = .ok (.iload_n 1, 1) := by decide +kernel
theorem dX10_image_44 : decode cX10_image 44 = .ok (.iaload, 1) := by decide +kernel
theorem dX10_image_45 : decode cX10_image 45 = .ok (.iastore, 1) := by decide +kernel
theorem dX10_image_46 : decode cX10_image 46 = .ok (.iinc 1 1, 3) := by decide +kernel
theorem dX10_image_49 : decode cX10_image 49 = .ok (.goto (-21), 3) := by decide +kernel
theorem dX10_image_52 : decode cX10_image 52 = .ok (.aload_n 0, 1) := by decide +kernel
theorem dX10_image_53 : decode cX10_image 53 = .ok (.aload_n 0, 1) := by decide +kernel
theorem dX10_image_54 : decode cX10_image 54 = .ok (.getfield 76, 3) := by decide +kernel
theorem dX10_image_57 : decode cX10_image 57 = .ok (.putfield 53, 3) := by decide +kernel
theorem dX10_image_60 : decode cX10_image 60 = .ok (.aload_n 0, 1) := by decide +kernel
theorem dX10_image_61 : decode cX10_image 61 = .ok (.aload_n 0, 1) := by decide +kernel
theorem dX10_image_62 : decode cX10_image 62 = .ok (.getfield 101, 3) := by decide +kernel
theorem dX10_image_65 : decode cX10_image 65 = .ok (.putfield 352, 3) := by decide +kernel
theorem dX10_image_68 : decode cX10_image 68 = .ok (.aload_n 0, 1) := by decide +kernel
theorem dX10_image_69 : decode cX10_image 69 = .ok (.aload_n 0, 1) := by decide +kernel
theorem dX10_image_70 : decode cX10_image 70 = .ok (.getfield 23, 3) := by decide +kernel
theorem dX10_image_73 : decode cX10_image 73 = .ok (.putfield 355, 3) := by decide +kernel
theorem dX10_image_76 : decode cX10_image 76 = .ok (.aload_n 0, 1) := by decide +kernel
theorem dX10_image_77 : decode cX10_image 77 = .ok (.aload_n 0, 1) := by decide +kernel
theorem dX10_image_78 : decode cX10_image 78 = .ok (.getfield 104, 3) := by decide +kernel
theorem dX10_image_81 : decode cX10_image 81 = .ok (.putfield 358, 3) := by decide +kernel
theorem dX10_image_84 : decode cX10_image 84 = .ok (.aload_n 0, 1) := by decide +kernel
theorem dX10_image_85 : decode cX10_image 85 = .ok (.getfield 76, 3) := by decide +kernel
theorem dX10_image_88 : decode cX10_image 88 = .ok (.ireturn, 1) := by decide +kernel
theorem dX10_back_0 : decode cX10_back 0 = .ok (.aload_n 0, 1) := by decide +kernel
theorem dX10_back_1 : decode cX10_back 1 = .ok (.getfield 53, 3) := by decide +kernel
theorem dX10_back_4 : decode cX10_back 4 = .ok (.iconst (-1), 1) := by decide +kernel
theorem dX10_back_5 : decode cX10_back 5 = .ok (.if_icmp .ne 6, 3) := by decide +kernel
theorem dX10_back_8 : decode cX10_back 8 = .ok (.bipush (-3), 2) := by decide +kernel
theorem dX10_back_10 : decode cX10_back 10 = .ok (.ireturn, 1) := by decide +kernel
theorem dX10_back_11 : decode cX10_back 11 = .ok (.iconst 0, 1) := by decide +kernel
theorem dX10_back_12 : decode cX10_back 12 = .ok (.istore_n 1, 1) := by decide +kernel
theorem dX10_back_13 : decode cX10_back 13 = .ok (.iload_n 1, 1) := by decide +kernel
theorem dX10_back_14 : decode cX10_back 14 = .ok (.bipush 18, 2) := by decide +kernel
theorem dX10_back_16 : decode cX10_back 16 = .ok (.if_icmp .ge 21, 3) := by decide +kernel
theorem dX10_back_19 : decode cX10_back 19 = .ok (.aload_n 0, 1) := by decide +kernel
theorem dX10_back_20 : decode cX10_back 20 = .ok (.getfield 29, 3) := by decide +kernel
theorem dX10_back_23 : decode cX10_back 23 = .ok (.iload_n 1, 1) := by decide +kernel
theorem dX10_back_24 : decode cX10_back 24 = .ok (.aload_n 0, 1) := by decide +kernel
theorem dX10_back_25 : decode cX10_back 25 = .ok (.getfield 47, 3) := by decide +kernel
theorem dX10_back_28 : decode cX10_back 28 = .ok (.iload_n 1, 1) := by decide +kernel
theorem dX10_back_29 : decode cX10_back 29 = .ok (.iaload, 1) := by decide +kernel
theorem dX10_back_30 : decode cX10_back 30 = .ok (.iastore, 1) := by decide +kernel
theorem dX10_back_31 : decode cX10_back 31 = .ok (.iinc 1 1, 3) := by decide +kernel
theorem dX10_back_34 : decode cX10_back 34 = .ok (.goto (-21), 3) := by decide +kernel
theorem dX10_back_37 : decode cX10_back 37 = .ok (.iconst 0, 1) := by decide +kernel
theorem dX10_back_38 : decode cX10_back 38 = .ok (.istore_n 1, 1) := by decide +kernel
theorem dX10_back_39 : decode cX10_back 39 = .ok (.iload_n 1, 1) := by decide +kernel
theorem dX10_back_40 : decode cX10_back 40 = .ok (.bipush 6, 2) := by decide +kernel
theorem dX10_back_42 : decode cX10_back 42 = .ok (.if_icmp .ge 21, 3) := by decide +kernel
theorem dX10_back_45 : decode cX10_back 45 = .ok (.aload_n 0, 1) := by decide +kernel
theorem dX10_back_46 : decode cX10_back 46 = .ok (.getfield 32, 3) := by decide +kernel
theorem dX10_back_49 : decode cX10_back 49 = .ok (.iload_n 1, 1) := by decide +kernel
theorem dX10_back_50 : decode cX10_back 50 = .ok (.aload_n 0, 1) := by decide +kernel
theorem dX10_back_51 : decode cX10_back 51 = .ok (.getfield 50, 3) := by decide +kernel
theorem dX10_back_54 : decode cX10_back 54 = .ok (.iload_n 1, 1) := by decide +kernel
theorem dX10_back_55 : decode cX10_back 55 = .ok (.iaload, 1) := by decide +kernel
theorem dX10_back_56 : decode cX10_back 56 = .ok (.iastore, 1) := by decide +kernel
theorem dX10_back_57 : decode cX10_back 57 = .ok (.iinc 1 1, 3) := by decide +kernel
theorem dX10_back_60 : decode cX10_back 60 = .ok (.goto (-21), 3) := by decide +kernel
theorem dX10_back_63 : decode cX10_back 63 = .ok (.aload_n 0, 1) := by decide +kernel
theorem dX10_back_64 : decode cX10_back 64 = .ok (.aload_n 0, 1) := by decide +kernel
theorem dX10_back_65 : decode cX10_back 65 = .ok (.getfield 53, 3) := by decide +kernel
theorem dX10_back_68 : decode cX10_back 68 = .ok (.putfield 76, 3) := by decide +kernel
theorem dX10_back_71 : decode cX10_back 71 = .ok (.aload_n 0, 1) := by decide +kernel
theorem dX10_back_72 : decode cX10_back 72 = .ok (.aload_n 0, 1) := by decide +kernel
theorem dX10_back_73 : decode cX10_back 73 = .ok (.getfield 352, 3) := by decide +kernel
theorem dX10_back_76 : decode cX10_back 76 = .ok (.putfield 101, 3) := by decide +kernel
theorem dX10_back_79 : decode cX10_back 79 = .ok (.aload_n 0, 1) := by decide +kernel
theorem dX10_back_80 : decode cX10_back 80 = .ok (.aload_n 0, 1) := by decide +kernel
theorem dX10_back_81 : decode cX10_back 81 = .ok (.getfield 355, 3) := by decide +kernel
theorem dX10_back_84 : decode cX10_back 84 = .ok (.putfield 23, 3) := by decide +kernel
theorem dX10_back_87 : decode cX10_back 87 = .ok (.aload_n 0, 1) := by decide +kernel
theorem dX10_back_88 : decode cX10_back 88 = .ok (.aload_n 0, 1) := by decide +kernel
theorem dX10_back_89 : decode cX10_back 89 = .ok (.getfield 358, 3) := by decide +kernel
theorem dX10_back_92 : decode cX10_back 92 = .ok (.putfield 104, 3) := by decide +kernel
theorem dX10_back_95 : decode cX10_back 95 = .ok (.aload_n 0, 1) := by decide +kernel
theorem dX10_back_96 : decode cX10_back 96 = .ok (.getfield 76, 3) := by decide +kernel
theorem dX10_back_99 : decode cX10_back 99 = .ok (.ireturn, 1) := by decide +kernel
theorem dX10_count_0 : decode cX10_count 0 = .ok (.iload_n 1, 1) := by decide +kernel
theorem dX10_count_1 : decode cX10_count 1 = .ok (.i2l, 1) := by decide +kernel
theorem dX10_count_2 : decode cX10_count 2 = .ok (.lconst 0, 1) := by decide +kernel
theorem dX10_count_3 : decode cX10_count 3 = .ok (.ldc2_w 107, 3) := by decide +kernel
theorem dX10_count_6 : decode cX10_count 6 = .ok (.invokestatic 79, 3) := by decide +kernel
theorem dX10_count_9 : decode cX10_count 9 = .ok (.ifCond .ne 6, 3) := by decide +kernel
theorem dX10_count_12 : decode cX10_count 12 = .ok (.bipush (-2), 2) := by decide +kernel
theorem dX10_count_14 : decode cX10_count 14 = .ok (.ireturn, 1) := by decide +kernel
theorem dX10_count_15 : decode cX10_count 15 = .ok (.iload_n 1, 1) := by decide +kernel
theorem dX10_count_16 : decode cX10_count 16 = .ok (.iconst 2, 1) := by decide +kernel
theorem dX10_count_17 : decode cX10_count 17 = .ok (.if_icmp .le 32, 3) := by decide +kernel
theorem dX10_count_20 : decode cX10_count 20 = .ok (.iload_n 1, 1) := by decide +kernel
theorem dX10_count_21 : decode cX10_count 21 = .ok (.iconst 3, 1) := by decide +kernel
theorem dX10_count_22 : decode cX10_count 22 = .ok (.if_icmp .ne 10, 3) := by decide +kernel
theorem dX10_count_25 : decode cX10_count 25 = .ok (.aload_n 0, 1) := by decide +kernel
theorem dX10_count_26 : decode cX10_count 26 = .ok (.getfield 73, 3) := by decide +kernel
theorem dX10_count_29 : decode cX10_count 29 = .ok (.goto 19, 3) := by decide +kernel
theorem dX10_count_32 : decode cX10_count 32 = .ok (.iload_n 1, 1) := by decide +kernel
theorem dX10_count_33 : decode cX10_count 33 = .ok (.iconst 4, 1) := by decide +kernel
theorem dX10_count_34 : decode cX10_count 34 = .ok (.if_icmp .ne 10, 3) := by decide +kernel
theorem dX10_count_37 : decode cX10_count 37 = .ok (.aload_n 0, 1) := by decide +kernel
theorem dX10_count_38 : decode cX10_count 38 = .ok (.getfield 134, 3) := by decide +kernel
theorem dX10_count_41 : decode cX10_count 41 = .ok (.goto 7, 3) := by decide +kernel
theorem dX10_count_44 : decode cX10_count 44 = .ok (.aload_n 0, 1) := by decide +kernel
theorem dX10_count_45 : decode cX10_count 45 = .ok (.getfield 104, 3) := by decide +kernel
theorem dX10_count_48 : decode cX10_count 48 = .ok (.ireturn, 1) := by decide +kernel
theorem dX10_count_49 : decode cX10_count 49 = .ok (.iconst 0, 1) := by decide +kernel
theorem dX10_count_50 : decode cX10_count 50 = .ok (.istore_n 2, 1) := by decide +kernel
theorem dX10_count_51 : decode cX10_count 51 = .ok (.iconst 0, 1) := by decide +kernel
theorem dX10_count_52 : decode cX10_count 52 = .ok (.istore_n 3, 1) := by decide +kernel
theorem dX10_count_53 : decode cX10_count 53 = .ok (.iconst 0, 1) := by decide +kernel
theorem dX10_count_54 : decode cX10_count 54 = .ok (.istore 4, 2) := by decide +kernel
theorem dX10_count_56 : decode cX10_count 56 = .ok (.iload 4, 2) := by decide +kernel
theorem dX10_count_58 : decode cX10_count 58 = .ok (.aload_n 0, 1) := by decide +kernel
theorem dX10_count_59 : decode cX10_count 59 = .ok (.getfield 76, 3) := by decide +kernel
theorem dX10_count_62 : decode cX10_count 62 = .ok (.if_icmp .ge 49, 3) := by decide +kernel
theorem dX10_count_65 : decode cX10_count 65 = .ok (.iload_n 2, 1) := by decide +kernel
theorem dX10_count_66 : decode cX10_count 66 = .ok (.aload_n 0, 1) := by decide +kernel
theorem dX10_count_67 : decode cX10_count 67 = .ok (.getfield 29, 3) := by decide +kernel
theorem dX10_count_70 : decode cX10_count 70 = .ok (.iconst 3, 1) := by decide +kernel
theorem dX10_count_71 : decode cX10_count 71 = .ok (.iload 4, 2) := by decide +kernel
theorem dX10_count_73 : decode cX10_count 73 = .ok (.imul, 1) := by decide +kernel
theorem dX10_count_74 : decode cX10_count 74 = .ok (.iconst 2, 1) := by decide +kernel
theorem dX10_count_75 : decode cX10_count 75 = .ok (.iadd, 1) := by decide +kernel
theorem dX10_count_76 : decode cX10_count 76 = .ok (.iaload, 1) := by decide +kernel
theorem dX10_count_77 : decode cX10_count 77 = .ok (.aload_n 0, 1) := by decide +kernel
theorem dX10_count_78 : decode cX10_count 78 = .ok (.getfield 23, 3) := by decide +kernel
theorem dX10_count_81 : decode cX10_count 81 = .ok (.if_icmp .lt 7, 3) := by decide +kernel
theorem dX10_count_84 : decode cX10_count 84 = .ok (.iconst 1, 1) := by decide +kernel
theorem dX10_count_85 : decode cX10_count 85 = .ok (.goto 4, 3) := by decide +kernel
theorem dX10_count_88 : decode cX10_count 88 = .ok (.iconst 0, 1) := by decide +kernel
theorem dX10_count_89 : decode cX10_count 89 = .ok (.iadd, 1) := by decide +kernel
theorem dX10_count_90 : decode cX10_count 90 = .ok (.istore_n 2, 1) := by decide +kernel
theorem dX10_count_91 : decode cX10_count 91 = .ok (.iload_n 3, 1) := by decide +kernel
theorem dX10_count_92 : decode cX10_count 92 = .ok (.aload_n 0, 1) := by decide +kernel
theorem dX10_count_93 : decode cX10_count 93 = .ok (.getfield 29, 3) := by decide +kernel
theorem dX10_count_96 : decode cX10_count 96 = .ok (.iconst 3, 1) := by decide +kernel
theorem dX10_count_97 : decode cX10_count 97 = .ok (.iload 4, 2) := by decide +kernel
theorem dX10_count_99 : decode cX10_count 99 = .ok (.imul, 1) := by decide +kernel
theorem dX10_count_100 : decode cX10_count 100 = .ok (.iconst 2, 1) := by decide +kernel
theorem dX10_count_101 : decode cX10_count 101 = .ok (.iadd, 1) := by decide +kernel
theorem dX10_count_102 : decode cX10_count 102 = .ok (.iaload, 1) := by decide +kernel
theorem dX10_count_103 : decode cX10_count 103 = .ok (.iadd, 1) := by decide +kernel
theorem dX10_count_104 : decode cX10_count 104 = .ok (.istore_n 3, 1) := by decide +kernel
theorem dX10_count_105 : decode cX10_count 105 = .ok (.iinc 4 1, 3) := by decide +kernel
theorem dX10_count_108 : decode cX10_count 108 = .ok (.goto (-52), 3) := by decide +kernel
theorem dX10_count_111 : decode cX10_count 111 = .ok (.iload_n 1, 1) := by decide +kernel
theorem dX10_count_112 : decode cX10_count 112 = .ok (.ifCond .ne 10, 3) := by decide +kernel
theorem dX10_count_115 : decode cX10_count 115 = .ok (.aload_n 0, 1) := by decide +kernel
theorem dX10_count_116 : decode cX10_count 116 = .ok (.getfield 76, 3) := by decide +kernel
theorem dX10_count_119 : decode cX10_count 119 = .ok (.goto 13, 3) := by decide +kernel
theorem dX10_count_122 : decode cX10_count 122 = .ok (.iload_n 1, 1) := by decide +kernel
theorem dX10_count_123 : decode cX10_count 123 = .ok (.iconst 1, 1) := by decide +kernel
theorem dX10_count_124 : decode cX10_count 124 = .ok (.if_icmp .ne 7, 3) := by decide +kernel
theorem dX10_count_127 : decode cX10_count 127 = .ok (.iload_n 3, 1) := by decide +kernel
theorem dX10_count_128 : decode cX10_count 128 = .ok (.goto 4, 3) := by decide +kernel
theorem dX10_count_131 : decode cX10_count 131 = .ok (.iload_n 2, 1) := by decide +kernel
theorem dX10_count_132 : decode cX10_count 132 = .ok (.ireturn, 1) := by decide +kernel
theorem dX10_isSheet_0 : decode cX10_isSheet 0 = .ok (.iload_n 0, 1) := by decide +kernel
theorem dX10_isSheet_1 : decode cX10_isSheet 1 = .ok (.i2l, 1) := by decide +kernel
theorem dX10_isSheet_2 : decode cX10_isSheet 2 = .ok (.lconst 0, 1) := by decide +kernel
theorem dX10_isSheet_3 : decode cX10_isSheet 3 = .ok (.ldc2_w 310, 3) := by decide +kernel
theorem dX10_isSheet_6 : decode cX10_isSheet 6 = .ok (.invokestatic 79, 3) := by decide +kernel
theorem dX10_isSheet_9 : decode cX10_isSheet 9 = .ok (.ireturn, 1) := by decide +kernel
theorem dX10_sheet_0 : decode cX10_sheet 0 = .ok (.iload_n 1, 1) := by decide +kernel
theorem dX10_sheet_1 : decode cX10_sheet 1 = .ok (.invokestatic 323, 3) := by decide +kernel
theorem dX10_sheet_4 : decode cX10_sheet 4 = .ok (.ifCond .eq 27, 3) := by decide +kernel
theorem dX10_sheet_7 : decode cX10_sheet 7 = .ok (.iload_n 2, 1) := by decide +kernel
theorem dX10_sheet_8 : decode cX10_sheet 8 = .ok (.i2l, 1) := by decide +kernel
theorem dX10_sheet_9 : decode cX10_sheet 9 = .ok (.ldc2_w 361, 3) := by decide +kernel
theorem dX10_sheet_12 : decode cX10_sheet 12 = .ok (.ldc2_w 363, 3) := by decide +kernel
theorem dX10_sheet_15 : decode cX10_sheet 15 = .ok (.invokestatic 79, 3) := by decide +kernel
theorem dX10_sheet_18 : decode cX10_sheet 18 = .ok (.ifCond .eq 13, 3) := by decide +kernel
theorem dX10_sheet_21 : decode cX10_sheet 21 = .ok (.iload_n 2, 1) := by decide +kernel
theorem dX10_sheet_22 : decode cX10_sheet 22 = .ok (.ifCond .lt 12, 3) := by decide +kernel
theorem dX10_sheet_25 : decode cX10_sheet 25 = .ok (.iload_n 3, 1) := by decide +kernel
theorem dX10_sheet_26 : decode cX10_sheet 26 = .ok (.bipush 40, 2) := by decide +kernel
theorem dX10_sheet_28 : decode cX10_sheet 28 = .ok (.if_icmp .le 6, 3) := by decide +kernel
theorem dX10_sheet_31 : decode cX10_sheet 31 = .ok (.bipush (-2), 2) := by decide +kernel
theorem dX10_sheet_33 : decode cX10_sheet 33 = .ok (.ireturn, 1) := by decide +kernel
theorem dX10_sheet_34 : decode cX10_sheet 34 = .ok (.iload_n 2, 1) := by decide +kernel
theorem dX10_sheet_35 : decode cX10_sheet 35 = .ok (.ifCond .lt 10, 3) := by decide +kernel
theorem dX10_sheet_38 : decode cX10_sheet 38 = .ok (.iload_n 3, 1) := by decide +kernel
theorem dX10_sheet_39 : decode cX10_sheet 39 = .ok (.ifCond .ge 6, 3) := by decide +kernel
theorem dX10_sheet_42 : decode cX10_sheet 42 = .ok (.bipush (-14), 2) := by decide +kernel
theorem dX10_sheet_44 : decode cX10_sheet 44 = .ok (.ireturn, 1) := by decide +kernel
theorem dX10_sheet_45 : decode cX10_sheet 45 = .ok (.aload_n 0, 1) := by decide +kernel
theorem dX10_sheet_46 : decode cX10_sheet 46 = .ok (.getfield 56, 3) := by decide +kernel
theorem dX10_sheet_49 : decode cX10_sheet 49 = .ok (.iload_n 1, 1) := by decide +kernel
theorem dX10_sheet_50 : decode cX10_sheet 50 = .ok (.iload_n 2, 1) := by decide +kernel
theorem dX10_sheet_51 : decode cX10_sheet 51 = .ok (.ifCond .lt 7, 3) := by decide +kernel
theorem dX10_sheet_54 : decode cX10_sheet 54 = .ok (.iconst 1, 1) := by decide +kernel
theorem dX10_sheet_55 : decode cX10_sheet 55 = .ok (.goto 4, 3) := by decide +kernel
theorem dX10_sheet_58 : decode cX10_sheet 58 = .ok (.iconst 0, 1) := by decide +kernel
theorem dX10_sheet_59 : decode cX10_sheet 59 = .ok (.bastore, 1) := by decide +kernel
theorem dX10_sheet_60 : decode cX10_sheet 60 = .ok (.aload_n 0, 1) := by decide +kernel
theorem dX10_sheet_61 : decode cX10_sheet 61 = .ok (.getfield 60, 3) := by decide +kernel
theorem dX10_sheet_64 : decode cX10_sheet 64 = .ok (.iload_n 1, 1) := by decide +kernel
theorem dX10_sheet_65 : decode cX10_sheet 65 = .ok (.iload_n 2, 1) := by decide +kernel
theorem dX10_sheet_66 : decode cX10_sheet 66 = .ok (.iastore, 1) := by decide +kernel
theorem dX10_sheet_67 : decode cX10_sheet 67 = .ok (.aload_n 0, 1) := by decide +kernel
theorem dX10_sheet_68 : decode cX10_sheet 68 = .ok (.getfield 63, 3) := by decide +kernel
theorem dX10_sheet_71 : decode cX10_sheet 71 = .ok (.iload_n 1, 1) := by decide +kernel
theorem dX10_sheet_72 : decode cX10_sheet 72 = .ok (.iload_n 3, 1) := by decide +kernel
theorem dX10_sheet_73 : decode cX10_sheet 73 = .ok (.iastore, 1) := by decide +kernel
theorem dX10_sheet_74 : decode cX10_sheet 74 = .ok (.iconst 0, 1) := by decide +kernel
theorem dX10_sheet_75 : decode cX10_sheet 75 = .ok (.istore 4, 2) := by decide +kernel
theorem dX10_sheet_77 : decode cX10_sheet 77 = .ok (.iload 4, 2) := by decide +kernel
theorem dX10_sheet_79 : decode cX10_sheet 79 = .ok (.iload_n 3, 1) := by decide +kernel
theorem dX10_sheet_80 : decode cX10_sheet 80 = .ok (.if_icmp .ge 26, 3) := by decide +kernel
theorem dX10_sheet_83 : decode cX10_sheet 83 = .ok (.iload_n 2, 1) := by decide +kernel
theorem dX10_sheet_84 : decode cX10_sheet 84 = .ok (.ifCond .lt 22, 3) := by decide +kernel
theorem dX10_sheet_87 : decode cX10_sheet 87 = .ok (.aload_n 0, 1) := by decide +kernel
theorem dX10_sheet_88 : decode cX10_sheet 88 = .ok (.getfield 66, 3) := by decide +kernel
theorem dX10_sheet_91 : decode cX10_sheet 91 = .ok (.bipush 40, 2) := by decide +kernel
theorem dX10_sheet_93 : decode cX10_sheet 93 = .ok (.iload_n 1, 1) := by decide +kernel
theorem dX10_sheet_94 : decode cX10_sheet 94 = .ok (.imul, 1) := by decide +kernel
theorem dX10_sheet_95 : decode cX10_sheet 95 = .ok (.iload 4, 2) := by decide +kernel
theorem dX10_sheet_97 : decode cX10_sheet 97 = .ok (.iadd, 1) := by decide +kernel
theorem dX10_sheet_98 : decode cX10_sheet 98 = .ok (.iconst 0, 1) := by decide +kernel
theorem dX10_sheet_99 : decode cX10_sheet 99 = .ok (.iastore, 1) := by decide +kernel
theorem dX10_sheet_100 : decode cX10_sheet 100 = .ok (.iinc 4 1, 3) := by decide +kernel
theorem dX10_sheet_103 : decode cX10_sheet 103 = .ok (.goto (-26), 3) := by decide +kernel
theorem dX10_sheet_106 : decode cX10_sheet 106 = .ok (.iconst 1, 1) := by decide +kernel
theorem dX10_sheet_107 : decode cX10_sheet 107 = .ok (.ireturn, 1) := by decide +kernel
theorem dX10_cell_0 : decode cX10_cell 0 = .ok (.iload_n 1, 1) := by decide +kernel
theorem dX10_cell_1 : decode cX10_cell 1 = .ok (.invokestatic 323, 3) := by decide +kernel
theorem dX10_cell_4 : decode cX10_cell 4 = .ok (.ifCond .ne 6, 3) := by decide +kernel
theorem dX10_cell_7 : decode cX10_cell 7 = .ok (.bipush (-2), 2) := by decide +kernel
theorem dX10_cell_9 : decode cX10_cell 9 = .ok (.ireturn, 1) := by decide +kernel
theorem dX10_cell_10 : decode cX10_cell 10 = .ok (.aload_n 0, 1) := by decide +kernel
theorem dX10_cell_11 : decode cX10_cell 11 = .ok (.getfield 56, 3) := by decide +kernel
theorem dX10_cell_14 : decode cX10_cell 14 = .ok (.iload_n 1, 1) := by decide +kernel
theorem dX10_cell_15 : decode cX10_cell 15 = .ok (.baload, 1) := by decide +kernel
theorem dX10_cell_16 : decode cX10_cell 16 = .ok (.ifCond .ne 6, 3) := by decide +kernel
theorem dX10_cell_19 : decode cX10_cell 19 = .ok (.bipush (-11), 2) := by decide +kernel
theorem dX10_cell_21 : decode cX10_cell 21 = .ok (.ireturn, 1) := by decide +kernel
theorem dX10_cell_22 : decode cX10_cell 22 = .ok (.iload_n 2, 1) := by decide +kernel
theorem dX10_cell_23 : decode cX10_cell 23 = .ok (.i2l, 1) := by decide +kernel
theorem dX10_cell_24 : decode cX10_cell 24 = .ok (.lconst 0, 1) := by decide +kernel
theorem dX10_cell_25 : decode cX10_cell 25 = .ok (.aload_n 0, 1) := by decide +kernel
theorem dX10_cell_26 : decode cX10_cell 26 = .ok (.getfield 63, 3) := by decide +kernel
theorem dX10_cell_29 : decode cX10_cell 29 = .ok (.iload_n 1, 1) := by decide +kernel
theorem dX10_cell_30 : decode cX10_cell 30 = .ok (.iaload, 1) := by decide +kernel
theorem dX10_cell_31 : decode cX10_cell 31 = .ok (.iconst 1, 1) := by decide +kernel
theorem dX10_cell_32 : decode cX10_cell 32 = .ok (.isub, 1) := by decide +kernel
theorem dX10_cell_33 : decode cX10_cell 33 = .ok (.i2l, 1) := by decide +kernel
theorem dX10_cell_34 : decode cX10_cell 34 = .ok (.invokestatic 79, 3) := by decide +kernel
theorem dX10_cell_37 : decode cX10_cell 37 = .ok (.ifCond .ne 6, 3) := by decide +kernel
theorem dX10_cell_40 : decode cX10_cell 40 = .ok (.bipush (-12), 2) := by decide +kernel
theorem dX10_cell_42 : decode cX10_cell 42 = .ok (.ireturn, 1) := by decide +kernel
theorem dX10_cell_43 : decode cX10_cell 43 = .ok (.aload_n 0, 1) := by decide +kernel
theorem dX10_cell_44 : decode cX10_cell 44 = .ok (.getfield 66, 3) := by decide +kernel
theorem dX10_cell_47 : decode cX10_cell 47 = .ok (.bipush 40, 2) := by decide +kernel
theorem dX10_cell_49 : decode cX10_cell 49 = .ok (.iload_n 1, 1) := by decide +kernel
theorem dX10_cell_50 : decode cX10_cell 50 = .ok (.imul, 1) := by decide +kernel
theorem dX10_cell_51 : decode cX10_cell 51 = .ok (.iload_n 2, 1) := by decide +kernel
theorem dX10_cell_52 : decode cX10_cell 52 = .ok (.iadd, 1) := by decide +kernel
theorem dX10_cell_53 : decode cX10_cell 53 = .ok (.aload_n 0, 1) := by decide +kernel
theorem dX10_cell_54 : decode cX10_cell 54 = .ok (.getfield 60, 3) := by decide +kernel
theorem dX10_cell_57 : decode cX10_cell 57 = .ok (.iload_n 1, 1) := by decide +kernel
theorem dX10_cell_58 : decode cX10_cell 58 = .ok (.iaload, 1) := by decide +kernel
theorem dX10_cell_59 : decode cX10_cell 59 = .ok (.ifCond .ne 8, 3) := by decide +kernel
theorem dX10_cell_62 : decode cX10_cell 62 = .ok (.iload_n 3, 1) := by decide +kernel
theorem dX10_cell_63 : decode cX10_cell 63 = .ok (.i2b, 1) := by decide +kernel
theorem dX10_cell_64 : decode cX10_cell 64 = .ok (.goto 19, 3) := by decide +kernel
theorem dX10_cell_67 : decode cX10_cell 67 = .ok (.aload_n 0, 1) := by decide +kernel
theorem dX10_cell_68 : decode cX10_cell 68 = .ok (.getfield 60, 3) := by decide +kernel
theorem dX10_cell_71 : decode cX10_cell 71 = .ok (.iload_n 1, 1) := by decide +kernel
theorem dX10_cell_72 : decode cX10_cell 72 = .ok (.iaload, 1) := by decide +kernel
theorem dX10_cell_73 : decode cX10_cell 73 = .ok (.iconst 1, 1) := by decide +kernel
theorem dX10_cell_74 : decode cX10_cell 74 = .ok (.if_icmp .ne 8, 3) := by decide +kernel
theorem dX10_cell_77 : decode cX10_cell 77 = .ok (.iload_n 3, 1) := by decide +kernel
theorem dX10_cell_78 : decode cX10_cell 78 = .ok (.i2s, 1) := by decide +kernel
theorem dX10_cell_79 : decode cX10_cell 79 = .ok (.goto 4, 3) := by decide +kernel
theorem dX10_cell_82 : decode cX10_cell 82 = .ok (.iload_n 3, 1) := by decide +kernel
theorem dX10_cell_83 : decode cX10_cell 83 = .ok (.iastore, 1) := by decide +kernel
theorem dX10_cell_84 : decode cX10_cell 84 = .ok (.iconst 1, 1) := by decide +kernel
theorem dX10_cell_85 : decode cX10_cell 85 = .ok (.ireturn, 1) := by decide +kernel
theorem dX10_copy_0 : decode cX10_copy 0 = .ok (.iload_n 1, 1) := by decide +kernel
theorem dX10_copy_1 : decode cX10_copy 1 = .ok (.invokestatic 323, 3) := by decide +kernel
theorem dX10_copy_4 : decode cX10_copy 4 = .ok (.ifCond .eq 10, 3) := by decide +kernel
theorem dX10_copy_7 : decode cX10_copy 7 = .ok (.iload_n 3, 1) := by decide +kernel
theorem dX10_copy_8 : decode cX10_copy 8 = .ok (.invokestatic 323, 3) := by decide +kernel
theorem dX10_copy_11 : decode cX10_copy 11 = .ok (.ifCond .ne 6, 3) := by decide +kernel
theorem dX10_copy_14 : decode cX10_copy 14 = .ok (.bipush (-2), 2) := by decide +kernel
theorem dX10_copy_16 : decode cX10_copy 16 = .ok (.ireturn, 1) := by decide +kernel
theorem dX10_copy_17 : decode cX10_copy 17 = .ok (.aload_n 0, 1) := by decide +kernel
theorem dX10_copy_18 : decode cX10_copy 18 = .ok (.getfield 56, 3) := by decide +kernel
theorem dX10_copy_21 : decode cX10_copy 21 = .ok (.iload_n 1, 1) := by decide +kernel
theorem dX10_copy_22 : decode cX10_copy 22 = .ok (.baload, 1) := by decide +kernel
theorem dX10_copy_23 : decode cX10_copy 23 = .ok (.ifCond .eq 12, 3) := by decide +kernel
theorem dX10_copy_26 : decode cX10_copy 26 = .ok (.aload_n 0, 1) := by decide +kernel
theorem dX10_copy_27 : decode cX10_copy 27 = .ok (.getfield 56, 3) := by decide +kernel
theorem dX10_copy_30 : decode cX10_copy 30 = .ok (.iload_n 3, 1) := by decide +kernel
theorem dX10_copy_31 : decode cX10_copy 31 = .ok (.baload, 1) := by decide +kernel
theorem dX10_copy_32 : decode cX10_copy 32 = .ok (.ifCond .ne 6, 3) := by decide +kernel
theorem dX10_copy_35 : decode cX10_copy 35 = .ok (.bipush (-11), 2) := by decide +kernel
theorem dX10_copy_37 : decode cX10_copy 37 = .ok (.ireturn, 1) := by decide +kernel
theorem dX10_copy_38 : decode cX10_copy 38 = .ok (.aload_n 0, 1) := by decide +kernel
theorem dX10_copy_39 : decode cX10_copy 39 = .ok (.getfield 60, 3) := by decide +kernel
theorem dX10_copy_42 : decode cX10_copy 42 = .ok (.iload_n 1, 1) := by decide +kernel
theorem dX10_copy_43 : decode cX10_copy 43 = .ok (.iaload, 1) := by decide +kernel
theorem dX10_copy_44 : decode cX10_copy 44 = .ok (.aload_n 0, 1) := by decide +kernel
theorem dX10_copy_45 : decode cX10_copy 45 = .ok (.getfield 60, 3) := by decide +kernel
theorem dX10_copy_48 : decode cX10_copy 48 = .ok (.iload_n 3, 1) := by decide +kernel
theorem dX10_copy_49 : decode cX10_copy 49 = .ok (.iaload, 1) := by decide +kernel
theorem dX10_copy_50 : decode cX10_copy 50 = .ok (.if_icmp .eq 6, 3) := by decide +kernel
theorem dX10_copy_53 : decode cX10_copy 53 = .ok (.bipush (-13), 2) := by decide +kernel
theorem dX10_copy_55 : decode cX10_copy 55 = .ok (.ireturn, 1) := by decide +kernel
theorem dX10_copy_56 : decode cX10_copy 56 = .ok (.iload 5, 2) := by decide +kernel
theorem dX10_copy_58 : decode cX10_copy 58 = .ok (.ifCond .lt 39, 3) := by decide +kernel
theorem dX10_copy_61 : decode cX10_copy 61 = .ok (.iload_n 2, 1) := by decide +kernel
theorem dX10_copy_62 : decode cX10_copy 62 = .ok (.ifCond .lt 35, 3) := by decide +kernel
theorem dX10_copy_65 : decode cX10_copy 65 = .ok (.iload 4, 2) := by decide +kernel
theorem dX10_copy_67 : decode cX10_copy 67 = .ok (.ifCond .lt 30, 3) := by decide +kernel
theorem dX10_copy_70 : decode cX10_copy 70 = .ok (.iload_n 2, 1) := by decide +kernel
theorem dX10_copy_71 : decode cX10_copy 71 = .ok (.aload_n 0, 1) := by decide +kernel
theorem dX10_copy_72 : decode cX10_copy 72 = .ok (.getfield 63, 3) := by decide +kernel
theorem dX10_copy_75 : decode cX10_copy 75 = .ok (.iload_n 1, 1) := by decide +kernel
theorem dX10_copy_76 : decode cX10_copy 76 = .ok (.iaload, 1) := by decide +kernel
theorem dX10_copy_77 : decode cX10_copy 77 = .ok (.iload 5, 2) := by decide +kernel
theorem dX10_copy_79 : decode cX10_copy 79 = .ok (.isub, 1) := by decide +kernel
theorem dX10_copy_80 : decode cX10_copy 80 = .ok (.if_icmp .gt 17, 3) := by decide +kernel
theorem dX10_copy_83 : decode cX10_copy 83 = .ok (.iload 4, 2) := by decide +kernel
theorem dX10_copy_85 : decode cX10_copy 85 = .ok (.aload_n 0, 1) := by decide +kernel
theorem dX10_copy_86 : decode cX10_copy 86 = .ok (.getfield 63, 3) := by decide +kernel
theorem dX10_copy_89 : decode cX10_copy 89 = .ok (.iload_n 3, 1) := by decide +kernel
theorem dX10_copy_90 : decode cX10_copy 90 = .ok (.iaload, 1) := by decide +kernel
theorem dX10_copy_91 : decode cX10_copy 91 = .ok (.iload 5, 2) := by decide +kernel
theorem dX10_copy_93 : decode cX10_copy 93 = .ok (.isub, 1) := by decide +kernel
theorem dX10_copy_94 : decode cX10_copy 94 = .ok (.if_icmp .le 6, 3) := by decide +kernel
theorem dX10_copy_97 : decode cX10_copy 97 = .ok (.bipush (-12), 2) := by decide +kernel
theorem dX10_copy_99 : decode cX10_copy 99 = .ok (.ireturn, 1) := by decide +kernel
theorem dX10_copy_100 : decode cX10_copy 100 = .ok (.iload_n 1, 1) := by decide +kernel
theorem dX10_copy_101 : decode cX10_copy 101 = .ok (.iload_n 3, 1) := by decide +kernel
theorem dX10_copy_102 : decode cX10_copy 102 = .ok (.if_icmp .ne 13, 3) := by decide +kernel
theorem dX10_copy_105 : decode cX10_copy 105 = .ok (.iload_n 2, 1) := by decide +kernel
theorem dX10_copy_106 : decode cX10_copy 106 = .ok (.iload 4, 2) := by decide +kernel
theorem dX10_copy_108 : decode cX10_copy 108 = .ok (.if_icmp .ge 7, 3) := by decide +kernel
theorem dX10_copy_111 : decode cX10_copy 111 = .ok (.iconst 1, 1) := by decide +kernel
theorem dX10_copy_112 : decode cX10_copy 112 = .ok (.goto 4, 3) := by decide +kernel
theorem dX10_copy_115 : decode cX10_copy 115 = .ok (.iconst 0, 1) := by decide +kernel
theorem dX10_copy_116 : decode cX10_copy 116 = .ok (.istore 6, 2) := by decide +kernel
theorem dX10_copy_118 : decode cX10_copy 118 = .ok (.iconst 0, 1) := by decide +kernel
theorem dX10_copy_119 : decode cX10_copy 119 = .ok (.istore 7, 2) := by decide +kernel
theorem dX10_copy_121 : decode cX10_copy 121 = .ok (.iload 7, 2) := by decide +kernel
theorem dX10_copy_123 : decode cX10_copy 123 = .ok (.iload 5, 2) := by decide +kernel
theorem dX10_copy_125 : decode cX10_copy 125 = .ok (.if_icmp .ge 57, 3) := by decide +kernel
theorem dX10_copy_128 : decode cX10_copy 128 = .ok (.iload 6, 2) := by decide +kernel
theorem dX10_copy_130 : decode cX10_copy 130 = .ok (.ifCond .eq 13, 3) := by decide +kernel
theorem dX10_copy_133 : decode cX10_copy 133 = .ok (.iload 5, 2) := by decide +kernel
theorem dX10_copy_135 : decode cX10_copy 135 = .ok (.iconst 1, 1) := by decide +kernel
theorem dX10_copy_136 : decode cX10_copy 136 = .ok (.isub, 1) := by decide +kernel
theorem dX10_copy_137 : decode cX10_copy 137 = .ok (.iload 7, 2) := by decide +kernel
theorem dX10_copy_139 : decode cX10_copy 139 = .ok (.isub, 1) := by decide +kernel
theorem dX10_copy_140 : decode cX10_copy 140 = .ok (.goto 5, 3) := by decide +kernel
theorem dX10_copy_143 : decode cX10_copy 143 = .ok (.iload 7, 2) := by decide +kernel
theorem dX10_copy_145 : decode cX10_copy 145 = .ok (.istore 8, 2) := by decide +kernel
theorem dX10_copy_147 : decode cX10_copy 147 = .ok (.aload_n 0, 1) := by decide +kernel
theorem dX10_copy_148 : decode cX10_copy 148 = .ok (.getfield 66, 3) := by decide +kernel
theorem dX10_copy_151 : decode cX10_copy 151 = .ok (.bipush 40, 2) := by decide +kernel
theorem dX10_copy_153 : decode cX10_copy 153 = .ok (.iload_n 3, 1) := by decide +kernel
theorem dX10_copy_154 : decode cX10_copy 154 = .ok (.imul, 1) := by decide +kernel
theorem dX10_copy_155 : decode cX10_copy 155 = .ok (.iload 4, 2) := by decide +kernel
theorem dX10_copy_157 : decode cX10_copy 157 = .ok (.iadd, 1) := by decide +kernel
theorem dX10_copy_158 : decode cX10_copy 158 = .ok (.iload 8, 2) := by decide +kernel
theorem dX10_copy_160 : decode cX10_copy 160 = .ok (.iadd, 1) := by decide +kernel
theorem dX10_copy_161 : decode cX10_copy 161 = .ok (.aload_n 0, 1) := by decide +kernel
theorem dX10_copy_162 : decode cX10_copy 162 = .ok (.getfield 66, 3) := by decide +kernel
theorem dX10_copy_165 : decode cX10_copy 165 = .ok (.bipush 40, 2) := by decide +kernel
theorem dX10_copy_167 : decode cX10_copy 167 = .ok (.iload_n 1, 1) := by decide +kernel
theorem dX10_copy_168 : decode cX10_copy 168 = .ok (.imul, 1) := by decide +kernel
theorem dX10_copy_169 : decode cX10_copy 169 = .ok (.iload_n 2, 1) := by decide +kernel
theorem dX10_copy_170 : decode cX10_copy 170 = .ok (.iadd, 1) := by decide +kernel
theorem dX10_copy_171 : decode cX10_copy 171 = .ok (.iload 8, 2) := by decide +kernel
theorem dX10_copy_173 : decode cX10_copy 173 = .ok (.iadd, 1) := by decide +kernel
theorem dX10_copy_174 : decode cX10_copy 174 = .ok (.iaload, 1) := by decide +kernel
theorem dX10_copy_175 : decode cX10_copy 175 = .ok (.iastore, 1) := by decide +kernel
theorem dX10_copy_176 : decode cX10_copy 176 = .ok (.iinc 7 1, 3) := by decide +kernel
theorem dX10_copy_179 : decode cX10_copy 179 = .ok (.goto (-58), 3) := by decide +kernel
theorem dX10_copy_182 : decode cX10_copy 182 = .ok (.iload 5, 2) := by decide +kernel
theorem dX10_copy_184 : decode cX10_copy 184 = .ok (.ireturn, 1) := by decide +kernel
theorem dX10_grooms_0 : decode cX10_grooms 0 = .ok (.iload_n 1, 1) := by decide +kernel
theorem dX10_grooms_1 : decode cX10_grooms 1 = .ok (.invokestatic 323, 3) := by decide +kernel
theorem dX10_grooms_4 : decode cX10_grooms 4 = .ok (.ifCond .eq 28, 3) := by decide +kernel
theorem dX10_grooms_7 : decode cX10_grooms 7 = .ok (.iload_n 2, 1) := by decide +kernel
theorem dX10_grooms_8 : decode cX10_grooms 8 = .ok (.i2l, 1) := by decide +kernel
theorem dX10_grooms_9 : decode cX10_grooms 9 = .ok (.lconst 0, 1) := by decide +kernel
theorem dX10_grooms_10 : decode cX10_grooms 10 = .ok (.ldc2_w 363, 3) := by decide +kernel
theorem dX10_grooms_13 : decode cX10_grooms 13 = .ok (.invokestatic 79, 3) := by decide +kernel
theorem dX10_grooms_16 : decode cX10_grooms 16 = .ok (.ifCond .eq 16, 3) := by decide +kernel
theorem dX10_grooms_19 : decode cX10_grooms 19 = .ok (.iload 4, 2) := by decide +kernel
theorem dX10_grooms_21 : decode cX10_grooms 21 = .ok (.i2l, 1) := by decide +kernel
theorem dX10_grooms_22 : decode cX10_grooms 22 = .ok (.lconst 0, 1) := by decide +kernel
theorem dX10_grooms_23 : decode cX10_grooms 23 = .ok (.ldc2_w 365, 3) := by decide +kernel
theorem dX10_grooms_26 : decode cX10_grooms 26 = .ok (.invokestatic 79, 3) := by decide +kernel
theorem dX10_grooms_29 : decode cX10_grooms 29 = .ok (.ifCond .ne 6, 3) := by decide +kernel
theorem dX10_grooms_32 : decode cX10_grooms 32 = .ok (.bipush (-2), 2) := by decide +kernel
theorem dX10_grooms_34 : decode cX10_grooms 34 = .ok (.ireturn, 1) := by decide +kernel
theorem dX10_grooms_35 : decode cX10_grooms 35 = .ok (.aload_n 0, 1) := by decide +kernel
theorem dX10_grooms_36 : decode cX10_grooms 36 = .ok (.getfield 56, 3) := by decide +kernel
theorem dX10_grooms_39 : decode cX10_grooms 39 = .ok (.iload_n 1, 1) := by decide +kernel
theorem dX10_grooms_40 : decode cX10_grooms 40 = .ok (.baload, 1) := by decide +kernel
theorem dX10_grooms_41 : decode cX10_grooms 41 = .ok (.ifCond .eq 16, 3) := by decide +kernel
theorem dX10_grooms_44 : decode cX10_grooms 44 = .ok (.aload_n 0, 1) := by decide +kernel
theorem dX10_grooms_45 : decode cX10_grooms 45 = .ok (.getfield 60, 3) := by decide +kernel
theorem dX10_grooms_48 : decode cX10_grooms 48 = .ok (.iload_n 1, 1) := by decide +kernel
theorem dX10_grooms_49 : decode cX10_grooms 49 = .ok (.iaload, 1) := by decide +kernel
theorem dX10_grooms_50 : decode cX10_grooms 50 = .ok (.iload_n 2, 1) := by decide +kernel
theorem dX10_grooms_51 : decode cX10_grooms 51 = .ok (.if_icmp .eq 6, 3) := by decide +kernel
theorem dX10_grooms_54 : decode cX10_grooms 54 = .ok (.bipush (-13), 2) := by decide +kernel
theorem dX10_grooms_56 : decode cX10_grooms 56 = .ok (.ireturn, 1) := by decide +kernel
theorem dX10_grooms_57 : decode cX10_grooms 57 = .ok (.aload_n 0, 1) := by decide +kernel
theorem dX10_grooms_58 : decode cX10_grooms 58 = .ok (.getfield 56, 3) := by decide +kernel
theorem dX10_grooms_61 : decode cX10_grooms 61 = .ok (.iload_n 1, 1) := by decide +kernel
theorem dX10_grooms_62 : decode cX10_grooms 62 = .ok (.baload, 1) := by decide +kernel
theorem dX10_grooms_63 : decode cX10_grooms 63 = .ok (.ifCond .ne 6, 3) := by decide +kernel
theorem dX10_grooms_66 : decode cX10_grooms 66 = .ok (.bipush (-11), 2) := by decide +kernel
theorem dX10_grooms_68 : decode cX10_grooms 68 = .ok (.ireturn, 1) := by decide +kernel
theorem dX10_grooms_69 : decode cX10_grooms 69 = .ok (.iconst 0, 1) := by decide +kernel
theorem dX10_grooms_70 : decode cX10_grooms 70 = .ok (.istore 5, 2) := by decide +kernel
theorem dX10_grooms_72 : decode cX10_grooms 72 = .ok (.iconst 0, 1) := by decide +kernel
theorem dX10_grooms_73 : decode cX10_grooms 73 = .ok (.istore 6, 2) := by decide +kernel
theorem dX10_grooms_75 : decode cX10_grooms 75 = .ok (.iload 6, 2) := by decide +kernel
theorem dX10_grooms_77 : decode cX10_grooms 77 = .ok (.iload 4, 2) := by decide +kernel
theorem dX10_grooms_79 : decode cX10_grooms 79 = .ok (.if_icmp .ge 88, 3) := by decide +kernel
theorem dX10_grooms_82 : decode cX10_grooms 82 = .ok (.iload_n 3, 1) := by decide +kernel
theorem dX10_grooms_83 : decode cX10_grooms 83 = .ok (.ifCond .lt 20, 3) := by decide +kernel
theorem dX10_grooms_86 : decode cX10_grooms 86 = .ok (.iload_n 3, 1) := by decide +kernel
theorem dX10_grooms_87 : decode cX10_grooms 87 = .ok (.aload_n 0, 1) := by decide +kernel
theorem dX10_grooms_88 : decode cX10_grooms 88 = .ok (.getfield 63, 3) := by decide +kernel
theorem dX10_grooms_91 : decode cX10_grooms 91 = .ok (.iload_n 1, 1) := by decide +kernel
theorem dX10_grooms_92 : decode cX10_grooms 92 = .ok (.iaload, 1) := by decide +kernel
theorem dX10_grooms_93 : decode cX10_grooms 93 = .ok (.iconst 3, 1) := by decide +kernel
theorem dX10_grooms_94 : decode cX10_grooms 94 = .ok (.iload 6, 2) := by decide +kernel
theorem dX10_grooms_96 : decode cX10_grooms 96 = .ok (.imul, 1) := by decide +kernel
theorem dX10_grooms_97 : decode cX10_grooms 97 = .ok (.isub, 1) := by decide +kernel
theorem dX10_grooms_98 : decode cX10_grooms 98 = .ok (.iconst 3, 1) := by decide +kernel
theorem dX10_grooms_99 : decode cX10_grooms 99 = .ok (.isub, 1) := by decide +kernel
theorem dX10_grooms_100 : decode cX10_grooms 100 = .ok (.if_icmp .le 6, 3) := by decide +kernel
theorem dX10_grooms_103 : decode cX10_grooms 103 = .ok (.bipush (-12), 2) := by decide +kernel
theorem dX10_grooms_105 : decode cX10_grooms 105 = .ok (.ireturn, 1) := by decide +kernel
theorem dX10_grooms_106 : decode cX10_grooms 106 = .ok (.bipush 40, 2) := by decide +kernel
theorem dX10_grooms_108 : decode cX10_grooms 108 = .ok (.iload_n 1, 1) := by decide +kernel
theorem dX10_grooms_109 : decode cX10_grooms 109 = .ok (.imul, 1) := by decide +kernel
theorem dX10_grooms_110 : decode cX10_grooms 110 = .ok (.iload_n 3, 1) := by decide +kernel
theorem dX10_grooms_111 : decode cX10_grooms 111 = .ok (.iadd, 1) := by decide +kernel
theorem dX10_grooms_112 : decode cX10_grooms 112 = .ok (.iconst 3, 1) := by decide +kernel
theorem dX10_grooms_113 : decode cX10_grooms 113 = .ok (.iload 6, 2) := by decide +kernel
theorem dX10_grooms_115 : decode cX10_grooms 115 = .ok (.imul, 1) := by decide +kernel
theorem dX10_grooms_116 : decode cX10_grooms 116 = .ok (.iadd, 1) := by decide +kernel
theorem dX10_grooms_117 : decode cX10_grooms 117 = .ok (.istore 7, 2) := by decide +kernel
theorem dX10_grooms_119 : decode cX10_grooms 119 = .ok (.iload 5, 2) := by decide +kernel
theorem dX10_grooms_121 : decode cX10_grooms 121 = .ok (.aload_n 0, 1) := by decide +kernel
theorem dX10_grooms_122 : decode cX10_grooms 122 = .ok (.aload_n 0, 1) := by decide +kernel
theorem dX10_grooms_123 : decode cX10_grooms 123 = .ok (.getfield 66, 3) := by decide +kernel
theorem dX10_grooms_126 : decode cX10_grooms 126 = .ok (.iload 7, 2) := by decide +kernel
theorem dX10_grooms_128 : decode cX10_grooms 128 = .ok (.iaload, 1) := by decide +kernel
theorem dX10_grooms_129 : decode cX10_grooms 129 = .ok (.aload_n 0, 1) := by decide +kernel
theorem dX10_grooms_130 : decode cX10_grooms 130 = .ok (.getfield 66, 3) := by decide +kernel
theorem dX10_grooms_133 : decode cX10_grooms 133 = .ok (.iload 7, 2) := by decide +kernel
theorem dX10_grooms_135 : decode cX10_grooms 135 = .ok (.iconst 1, 1) := by decide +kernel
theorem dX10_grooms_136 : decode cX10_grooms 136 = .ok (.iadd, 1) := by decide +kernel
theorem dX10_grooms_137 : decode cX10_grooms 137 = .ok (.iaload, 1) := by decide +kernel
theorem dX10_grooms_138 : decode cX10_grooms 138 = .ok (.aload_n 0, 1) := by decide +kernel
theorem dX10_grooms_139 : decode cX10_grooms 139 = .ok (.getfield 66, 3) := by decide +kernel
theorem dX10_grooms_142 : decode cX10_grooms 142 = .ok (.iload 7, 2) := by decide +kernel
theorem dX10_grooms_144 : decode cX10_grooms 144 = .ok (.iconst 2, 1) := by decide +kernel
theorem dX10_grooms_145 : decode cX10_grooms 145 = .ok (.iadd, 1) := by decide +kernel
theorem dX10_grooms_146 : decode cX10_grooms 146 = .ok (.iaload, 1) := by decide +kernel
theorem dX10_grooms_147 : decode cX10_grooms 147 = .ok (.invokevirtual 367, 3) := by decide +kernel
theorem dX10_grooms_150 : decode cX10_grooms 150 = .ok (.ifCond .lt 7, 3) := by decide +kernel
theorem dX10_grooms_153 : decode cX10_grooms 153 = .ok (.iconst 1, 1) := by decide +kernel
theorem dX10_grooms_154 : decode cX10_grooms 154 = .ok (.goto 4, 3) := by decide +kernel
theorem dX10_grooms_157 : decode cX10_grooms 157 = .ok (.iconst 0, 1) := by decide +kernel
theorem dX10_grooms_158 : decode cX10_grooms 158 = .ok (.iadd, 1) := by decide +kernel
theorem dX10_grooms_159 : decode cX10_grooms 159 = .ok (.istore 5, 2) := by decide +kernel
theorem dX10_grooms_161 : decode cX10_grooms 161 = .ok (.iinc 6 1, 3) := by decide +kernel
theorem dX10_grooms_164 : decode cX10_grooms 164 = .ok (.goto (-89), 3) := by decide +kernel
theorem dX10_grooms_167 : decode cX10_grooms 167 = .ok (.iload 5, 2) := by decide +kernel
theorem dX10_grooms_169 : decode cX10_grooms 169 = .ok (.ireturn, 1) := by decide +kernel
theorem dX10_over_0 : decode cX10_over 0 = .ok (.iload_n 0, 1) := by decide +kernel
theorem dX10_over_1 : decode cX10_over 1 = .ok (.ifCond .ne 7, 3) := by decide +kernel
theorem dX10_over_4 : decode cX10_over 4 = .ok (.iconst (-1), 1) := by decide +kernel
theorem dX10_over_5 : decode cX10_over 5 = .ok (.goto 22, 3) := by decide +kernel
theorem dX10_over_8 : decode cX10_over 8 = .ok (.iload_n 0, 1) := by decide +kernel
theorem dX10_over_9 : decode cX10_over 9 = .ok (.iconst 3, 1) := by decide +kernel
theorem dX10_over_10 : decode cX10_over 10 = .ok (.if_icmp .ne 7, 3) := by decide +kernel
theorem dX10_over_13 : decode cX10_over 13 = .ok (.iconst 1, 1) := by decide +kernel
theorem dX10_over_14 : decode cX10_over 14 = .ok (.goto 13, 3) := by decide +kernel
theorem dX10_over_17 : decode cX10_over 17 = .ok (.iload_n 0, 1) := by decide +kernel
theorem dX10_over_18 : decode cX10_over 18 = .ok (.iconst 4, 1) := by decide +kernel
theorem dX10_over_19 : decode cX10_over 19 = .ok (.if_icmp .ne 7, 3) := by decide +kernel
theorem dX10_over_22 : decode cX10_over 22 = .ok (.iconst 2, 1) := by decide +kernel
theorem dX10_over_23 : decode cX10_over 23 = .ok (.goto 4, 3) := by decide +kernel
theorem dX10_over_26 : decode cX10_over 26 = .ok (.iconst 0, 1) := by decide +kernel
theorem dX10_over_27 : decode cX10_over 27 = .ok (.ireturn, 1) := by decide +kernel
theorem dX10_taken_0 : decode cX10_taken 0 = .ok (.iload_n 2, 1) := by decide +kernel
theorem dX10_taken_1 : decode cX10_taken 1 = .ok (.i2l, 1) := by decide +kernel
theorem dX10_taken_2 : decode cX10_taken 2 = .ok (.lconst 0, 1) := by decide +kernel
theorem dX10_taken_3 : decode cX10_taken 3 = .ok (.ldc2_w 107, 3) := by decide +kernel
theorem dX10_taken_6 : decode cX10_taken 6 = .ok (.invokestatic 79, 3) := by decide +kernel
theorem dX10_taken_9 : decode cX10_taken 9 = .ok (.ifCond .ne 6, 3) := by decide +kernel
theorem dX10_taken_12 : decode cX10_taken 12 = .ok (.bipush (-2), 2) := by decide +kernel
theorem dX10_taken_14 : decode cX10_taken 14 = .ok (.ireturn, 1) := by decide +kernel
theorem dX10_taken_15 : decode cX10_taken 15 = .ok (.aload_n 0, 1) := by decide +kernel
theorem dX10_taken_16 : decode cX10_taken 16 = .ok (.iload_n 1, 1) := by decide +kernel
theorem dX10_taken_17 : decode cX10_taken 17 = .ok (.invokevirtual 85, 3) := by decide +kernel
theorem dX10_taken_20 : decode cX10_taken 20 = .ok (.ifCond .ne 6, 3) := by decide +kernel
theorem dX10_taken_23 : decode cX10_taken 23 = .ok (.bipush (-11), 2) := by decide +kernel
theorem dX10_taken_25 : decode cX10_taken 25 = .ok (.ireturn, 1) := by decide +kernel
theorem dX10_taken_26 : decode cX10_taken 26 = .ok (.aload_n 0, 1) := by decide +kernel
theorem dX10_taken_27 : decode cX10_taken 27 = .ok (.getfield 26, 3) := by decide +kernel
theorem dX10_taken_30 : decode cX10_taken 30 = .ok (.iload_n 1, 1) := by decide +kernel
theorem dX10_taken_31 : decode cX10_taken 31 = .ok (.iaload, 1) := by decide +kernel
theorem dX10_taken_32 : decode cX10_taken 32 = .ok (.istore_n 3, 1) := by decide +kernel
theorem dX10_taken_33 : decode cX10_taken 33 = .ok (.iload_n 3, 1) := by decide +kernel
theorem dX10_taken_34 : decode cX10_taken 34 = .ok (.iconst (-1), 1) := by decide +kernel
theorem dX10_taken_35 : decode cX10_taken 35 = .ok (.if_icmp .eq 16, 3) := by decide +kernel
theorem dX10_taken_38 : decode cX10_taken 38 = .ok (.iload_n 3, 1) := by decide +kernel
theorem dX10_taken_39 : decode cX10_taken 39 = .ok (.iload_n 2, 1) := by decide +kernel
theorem dX10_taken_40 : decode cX10_taken 40 = .ok (.if_icmp .eq 11, 3) := by decide +kernel
theorem dX10_taken_43 : decode cX10_taken 43 = .ok (.iload_n 3, 1) := by decide +kernel
theorem dX10_taken_44 : decode cX10_taken 44 = .ok (.invokestatic 370, 3) := by decide +kernel
theorem dX10_taken_47 : decode cX10_taken 47 = .ok (.istore_n 3, 1) := by decide +kernel
theorem dX10_taken_48 : decode cX10_taken 48 = .ok (.goto (-15), 3) := by decide +kernel
theorem dX10_taken_51 : decode cX10_taken 51 = .ok (.iload_n 3, 1) := by decide +kernel
theorem dX10_taken_52 : decode cX10_taken 52 = .ok (.iload_n 2, 1) := by decide +kernel
theorem dX10_taken_53 : decode cX10_taken 53 = .ok (.if_icmp .ne 14, 3) := by decide +kernel
theorem dX10_taken_56 : decode cX10_taken 56 = .ok (.aload_n 0, 1) := by decide +kernel
theorem dX10_taken_57 : decode cX10_taken 57 = .ok (.getfield 29, 3) := by decide +kernel
theorem dX10_taken_60 : decode cX10_taken 60 = .ok (.iconst 3, 1) := by decide +kernel
theorem dX10_taken_61 : decode cX10_taken 61 = .ok (.iload_n 1, 1) := by decide +kernel
theorem dX10_taken_62 : decode cX10_taken 62 = .ok (.imul, 1) := by decide +kernel
theorem dX10_taken_63 : decode cX10_taken 63 = .ok (.iaload, 1) := by decide +kernel
theorem dX10_taken_64 : decode cX10_taken 64 = .ok (.goto 5, 3) := by decide +kernel
theorem dX10_taken_67 : decode cX10_taken 67 = .ok (.bipush (-13), 2) := by decide +kernel
theorem dX10_taken_69 : decode cX10_taken 69 = .ok (.ireturn, 1) := by decide +kernel
