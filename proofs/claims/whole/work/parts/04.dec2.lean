theorem dX9_init_0 : decode cX9_init 0 = .ok (.aload_n 0, 1) := by decide +kernel
theorem dX9_init_1 : decode cX9_init 1 = .ok (.invokespecial 1, 3) := by decide +kernel
theorem dX9_init_4 : decode cX9_init 4 = .ok (.aload_n 0, 1) := by decide +kernel
theorem dX9_init_5 : decode cX9_init 5 = .ok (.new 7, 3) := by decide +kernel
theorem dX9_init_8 : decode cX9_init 8 = .ok (.dup, 1) := by decide +kernel
theorem dX9_init_9 : decode cX9_init 9 = .ok (.invokespecial 9, 3) := by decide +kernel
theorem dX9_init_12 : decode cX9_init 12 = .ok (.putfield 10, 3) := by decide +kernel
theorem dX9_init_15 : decode cX9_init 15 = .ok (.aload_n 0, 1) := by decide +kernel
theorem dX9_init_16 : decode cX9_init 16 = .ok (.new 7, 3) := by decide +kernel
theorem dX9_init_19 : decode cX9_init 19 = .ok (.dup, 1) := by decide +kernel
theorem dX9_init_20 : decode cX9_init 20 = .ok (.invokespecial 9, 3) := by decide +kernel
theorem dX9_init_23 : decode cX9_init 23 = .ok (.putfield 16, 3) := by decide +kernel
theorem dX9_init_26 : decode cX9_init 26 = .ok (.aload_n 0, 1) := by decide +kernel
theorem dX9_init_27 : decode cX9_init 27 = .ok (.iconst 0, 1) := by decide +kernel
theorem dX9_init_28 : decode cX9_init 28 = .ok (.putfield 19, 3) := by decide +kernel
theorem dX9_init_31 : decode cX9_init 31 = .ok (.aload_n 0, 1) := by decide +kernel
theorem dX9_init_32 : decode cX9_init 32 = .ok (.bipush 6, 2) := by decide +kernel
theorem dX9_init_34 : decode cX9_init 34 = .ok (.anewarray 23, 3) := by decide +kernel
theorem dX9_init_37 : decode cX9_init 37 = .ok (.putfield 25, 3) := by decide +kernel
theorem dX9_init_40 : decode cX9_init 40 = .ok (.aload_n 0, 1) := by decide +kernel
theorem dX9_init_41 : decode cX9_init 41 = .ok (.iconst 0, 1) := by decide +kernel
theorem dX9_init_42 : decode cX9_init 42 = .ok (.putfield 29, 3) := by decide +kernel
theorem dX9_init_45 : decode cX9_init 45 = .ok (.aload_n 0, 1) := by decide +kernel
theorem dX9_init_46 : decode cX9_init 46 = .ok (.new 33, 3) := by decide +kernel
theorem dX9_init_49 : decode cX9_init 49 = .ok (.dup, 1) := by decide +kernel
theorem dX9_init_50 : decode cX9_init 50 = .ok (.invokespecial 35, 3) := by decide +kernel
theorem dX9_init_53 : decode cX9_init 53 = .ok (.putfield 36, 3) := by decide +kernel
theorem dX9_init_56 : decode cX9_init 56 = .ok (.aload_n 0, 1) := by decide +kernel
theorem dX9_init_57 : decode cX9_init 57 = .ok (.iconst 4, 1) := by decide +kernel
theorem dX9_init_58 : decode cX9_init 58 = .ok (.anewarray 40, 3) := by decide +kernel
theorem dX9_init_61 : decode cX9_init 61 = .ok (.putfield 42, 3) := by decide +kernel
theorem dX9_init_64 : decode cX9_init 64 = .ok (.aload_n 0, 1) := by decide +kernel
theorem dX9_init_65 : decode cX9_init 65 = .ok (.new 46, 3) := by decide +kernel
theorem dX9_init_68 : decode cX9_init 68 = .ok (.dup, 1) := by decide +kernel
theorem dX9_init_69 : decode cX9_init 69 = .ok (.invokespecial 48, 3) := by decide +kernel
theorem dX9_init_72 : decode cX9_init 72 = .ok (.putfield 49, 3) := by decide +kernel
theorem dX9_init_75 : decode cX9_init 75 = .ok (.aload_n 0, 1) := by decide +kernel
theorem dX9_init_76 : decode cX9_init 76 = .ok (.new 53, 3) := by decide +kernel
theorem dX9_init_79 : decode cX9_init 79 = .ok (.dup, 1) := by decide +kernel
theorem dX9_init_80 : decode cX9_init 80 = .ok (.invokespecial 55, 3) := by decide +kernel
theorem dX9_init_83 : decode cX9_init 83 = .ok (.putfield 56, 3) := by decide +kernel
theorem dX9_init_86 : decode cX9_init 86 = .ok (.aload_n 0, 1) := by decide +kernel
theorem dX9_init_87 : decode cX9_init 87 = .ok (.new 60, 3) := by decide +kernel
theorem dX9_init_90 : decode cX9_init 90 = .ok (.dup, 1) := by decide +kernel
theorem dX9_init_91 : decode cX9_init 91 = .ok (.invokespecial 62, 3) := by decide +kernel
theorem dX9_init_94 : decode cX9_init 94 = .ok (.putfield 63, 3) := by decide +kernel
theorem dX9_init_97 : decode cX9_init 97 = .ok (.aload_n 0, 1) := by decide +kernel
theorem dX9_init_98 : decode cX9_init 98 = .ok (.bipush 6, 2) := by decide +kernel
theorem dX9_init_100 : decode cX9_init 100 = .ok (.bipush 6, 2) := by decide +kernel
theorem dX9_init_102 : decode cX9_init 102 = .ok (.multianewarray 67 2, 4) := by decide +kernel
theorem dX9_init_106 : decode cX9_init 106 = .ok (.putfield 69, 3) := by decide +kernel
theorem dX9_init_109 : decode cX9_init 109 = .ok (.aload_n 0, 1) := by decide +kernel
theorem dX9_init_110 : decode cX9_init 110 = .ok (.bipush 6, 2) := by decide +kernel
theorem dX9_init_112 : decode cX9_init 112 = .ok (.newarray .int, 2) := by decide +kernel
theorem dX9_init_114 : decode cX9_init 114 = .ok (.putfield 72, 3) := by decide +kernel
theorem dX9_init_117 : decode cX9_init 117 = .ok (.iconst 0, 1) := by decide +kernel
theorem dX9_init_118 : decode cX9_init 118 = .ok (.istore_n 1, 1) := by decide +kernel
theorem dX9_init_119 : decode cX9_init 119 = .ok (.iload_n 1, 1) := by decide +kernel
theorem dX9_init_120 : decode cX9_init 120 = .ok (.bipush 6, 2) := by decide +kernel
theorem dX9_init_122 : decode cX9_init 122 = .ok (.if_icmp .ge 22, 3) := by decide +kernel
theorem dX9_init_125 : decode cX9_init 125 = .ok (.aload_n 0, 1) := by decide +kernel
theorem dX9_init_126 : decode cX9_init 126 = .ok (.getfield 25, 3) := by decide +kernel
theorem dX9_init_129 : decode cX9_init 129 = .ok (.iload_n 1, 1) := by decide +kernel
theorem dX9_init_130 : decode cX9_init 130 = .ok (.new 23, 3) := by decide +kernel
theorem dX9_init_133 : decode cX9_init 133 = .ok (.dup, 1) := by decide +kernel
theorem dX9_init_134 : decode cX9_init 134 = .ok (.invokespecial 76, 3) := by decide +kernel
theorem dX9_init_137 : decode cX9_init 137 = .ok (.aastore, 1) := by decide +kernel
theorem dX9_init_138 : decode cX9_init 138 = .ok (.iinc 1 1, 3) := by decide +kernel
theorem dX9_init_141 : decode cX9_init 141 = .ok (.goto (-22), 3) := by decide +kernel
theorem dX9_init_144 : decode cX9_init 144 = .ok (.iconst 0, 1) := by decide +kernel
theorem dX9_init_145 : decode cX9_init 145 = .ok (.istore_n 1, 1) := by decide +kernel
theorem dX9_init_146 : decode cX9_init 146 = .ok (.iload_n 1, 1) := by decide +kernel
theorem dX9_init_147 : decode cX9_init 147 = .ok (.iconst 4, 1) := by decide +kernel
theorem dX9_init_148 : decode cX9_init 148 = .ok (.if_icmp .ge 22, 3) := by decide +kernel
theorem dX9_init_151 : decode cX9_init 151 = .ok (.aload_n 0, 1) := by decide +kernel
theorem dX9_init_152 : decode cX9_init 152 = .ok (.getfield 42, 3) := by decide +kernel
theorem dX9_init_155 : decode cX9_init 155 = .ok (.iload_n 1, 1) := by decide +kernel
theorem dX9_init_156 : decode cX9_init 156 = .ok (.new 40, 3) := by decide +kernel
theorem dX9_init_159 : decode cX9_init 159 = .ok (.dup, 1) := by decide +kernel
theorem dX9_init_160 : decode cX9_init 160 = .ok (.invokespecial 77, 3) := by decide +kernel
theorem dX9_init_163 : decode cX9_init 163 = .ok (.aastore, 1) := by decide +kernel
theorem dX9_init_164 : decode cX9_init 164 = .ok (.iinc 1 1, 3) := by decide +kernel
theorem dX9_init_167 : decode cX9_init 167 = .ok (.goto (-21), 3) := by decide +kernel
theorem dX9_init_170 : decode cX9_init 170 = .ok (.aload_n 0, 1) := by decide +kernel
theorem dX9_init_171 : decode cX9_init 171 = .ok (.getfield 36, 3) := by decide +kernel
theorem dX9_init_174 : decode cX9_init 174 = .ok (.getfield 78, 3) := by decide +kernel
theorem dX9_init_177 : decode cX9_init 177 = .ok (.ldc 82, 2) := by decide +kernel
theorem dX9_init_179 : decode cX9_init 179 = .ok (.invokevirtual 84, 3) := by decide +kernel
theorem dX9_init_182 : decode cX9_init 182 = .ok (.aload_n 0, 1) := by decide +kernel
theorem dX9_init_183 : decode cX9_init 183 = .ok (.getfield 36, 3) := by decide +kernel
theorem dX9_init_186 : decode cX9_init 186 = .ok (.aload_n 0, 1) := by decide +kernel
theorem dX9_init_187 : decode cX9_init 187 = .ok (.getfield 25, 3) := by decide +kernel
theorem dX9_init_190 : decode cX9_init 190 = .ok (.iconst 0, 1) := by decide +kernel
theorem dX9_init_191 : decode cX9_init 191 = .ok (.aaload, 1) := by decide +kernel
theorem dX9_init_192 : decode cX9_init 192 = .ok (.invokevirtual 90, 3) := by decide +kernel
theorem dX9_init_195 : decode cX9_init 195 = .ok (.pop, 1) := by decide +kernel
theorem dX9_init_196 : decode cX9_init 196 = .ok (.aload_n 0, 1) := by decide +kernel
theorem dX9_init_197 : decode cX9_init 197 = .ok (.iconst 1, 1) := by decide +kernel
theorem dX9_init_198 : decode cX9_init 198 = .ok (.putfield 29, 3) := by decide +kernel
theorem dX9_init_201 : decode cX9_init 201 = .ok (.return_, 1) := by decide +kernel
theorem dX9_set_0 : decode cX9_set 0 = .ok (.aload_n 0, 1) := by decide +kernel
theorem dX9_set_1 : decode cX9_set 1 = .ok (.iload_n 1, 1) := by decide +kernel
theorem dX9_set_2 : decode cX9_set 2 = .ok (.iload_n 2, 1) := by decide +kernel
theorem dX9_set_3 : decode cX9_set 3 = .ok (.invokevirtual 94, 3) := by decide +kernel
theorem dX9_set_6 : decode cX9_set 6 = .ok (.ifCond .eq 15, 3) := by decide +kernel
theorem dX9_set_9 : decode cX9_set 9 = .ok (.iload_n 3, 1) := by decide +kernel
theorem dX9_set_10 : decode cX9_set 10 = .ok (.ifCond .lt 11, 3) := by decide +kernel
theorem dX9_set_13 : decode cX9_set 13 = .ok (.iload_n 3, 1) := by decide +kernel
theorem dX9_set_14 : decode cX9_set 14 = .ok (.iload_n 1, 1) := by decide +kernel
theorem dX9_set_15 : decode cX9_set 15 = .ok (.invokestatic 98, 3) := by decide +kernel
theorem dX9_set_18 : decode cX9_set 18 = .ok (.if_icmp .le 6, 3) := by decide +kernel
theorem dX9_set_21 : decode cX9_set 21 = .ok (.bipush (-2), 2) := by decide +kernel
theorem dX9_set_23 : decode cX9_set 23 = .ok (.ireturn, 1) := by decide +kernel
theorem dX9_set_24 : decode cX9_set 24 = .ok (.aload_n 0, 1) := by decide +kernel
theorem dX9_set_25 : decode cX9_set 25 = .ok (.iload_n 1, 1) := by decide +kernel
theorem dX9_set_26 : decode cX9_set 26 = .ok (.iload_n 2, 1) := by decide +kernel
theorem dX9_set_27 : decode cX9_set 27 = .ok (.invokevirtual 102, 3) := by decide +kernel
theorem dX9_set_30 : decode cX9_set 30 = .ok (.istore 4, 2) := by decide +kernel
theorem dX9_set_32 : decode cX9_set 32 = .ok (.iload_n 1, 1) := by decide +kernel
theorem dX9_set_33 : decode cX9_set 33 = .ok (.tableswitch 85 0 3 #[31, 42, 53, 69], 31) := by decide +kernel
theorem dX9_set_64 : decode cX9_set 64 = .ok (.aload_n 0, 1) := by decide +kernel
theorem dX9_set_65 : decode cX9_set 65 = .ok (.getfield 10, 3) := by decide +kernel
theorem dX9_set_68 : decode cX9_set 68 = .ok (.iload_n 3, 1) := by decide +kernel
theorem dX9_set_69 : decode cX9_set 69 = .ok (.putfield 106, 3) := by decide +kernel
theorem dX9_set_72 : decode cX9_set 72 = .ok (.goto 59, 3) := by decide +kernel
theorem dX9_set_75 : decode cX9_set 75 = .ok (.aload_n 0, 1) := by decide +kernel
theorem dX9_set_76 : decode cX9_set 76 = .ok (.getfield 10, 3) := by decide +kernel
theorem dX9_set_79 : decode cX9_set 79 = .ok (.iload_n 3, 1) := by decide +kernel
theorem dX9_set_80 : decode cX9_set 80 = .ok (.putfield 109, 3) := by decide +kernel
theorem dX9_set_83 : decode cX9_set 83 = .ok (.goto 48, 3) := by decide +kernel
theorem dX9_set_86 : decode cX9_set 86 = .ok (.aload_n 0, 1) := by decide +kernel
theorem dX9_set_87 : decode cX9_set 87 = .ok (.getfield 10, 3) := by decide +kernel
theorem dX9_set_90 : decode cX9_set 90 = .ok (.getfield 112, 3) := by decide +kernel
theorem dX9_set_93 : decode cX9_set 93 = .ok (.iload_n 2, 1) := by decide +kernel
theorem dX9_set_94 : decode cX9_set 94 = .ok (.aaload, 1) := by decide +kernel
theorem dX9_set_95 : decode cX9_set 95 = .ok (.iload_n 3, 1) := by decide +kernel
theorem dX9_set_96 : decode cX9_set 96 = .ok (.putfield 116, 3) := by decide +kernel
theorem dX9_set_99 : decode cX9_set 99 = .ok (.goto 32, 3) := by decide +kernel
theorem dX9_set_102 : decode cX9_set 102 = .ok (.aload_n 0, 1) := by decide +kernel
theorem dX9_set_103 : decode cX9_set 103 = .ok (.getfield 10, 3) := by decide +kernel
theorem dX9_set_106 : decode cX9_set 106 = .ok (.getfield 112, 3) := by decide +kernel
theorem dX9_set_109 : decode cX9_set 109 = .ok (.iload_n 2, 1) := by decide +kernel
theorem dX9_set_110 : decode cX9_set 110 = .ok (.aaload, 1) := by decide +kernel
theorem dX9_set_111 : decode cX9_set 111 = .ok (.iload_n 3, 1) := by decide +kernel
theorem dX9_set_112 : decode cX9_set 112 = .ok (.putfield 121, 3) := by decide +kernel
theorem dX9_set_115 : decode cX9_set 115 = .ok (.goto 16, 3) := by decide +kernel
theorem dX9_set_118 : decode cX9_set 118 = .ok (.aload_n 0, 1) := by decide +kernel
theorem dX9_set_119 : decode cX9_set 119 = .ok (.getfield 10, 3) := by decide +kernel
theorem dX9_set_122 : decode cX9_set 122 = .ok (.getfield 112, 3) := by decide +kernel
theorem dX9_set_125 : decode cX9_set 125 = .ok (.iload_n 2, 1) := by decide +kernel
theorem dX9_set_126 : decode cX9_set 126 = .ok (.aaload, 1) := by decide +kernel
theorem dX9_set_127 : decode cX9_set 127 = .ok (.iload_n 3, 1) := by decide +kernel
theorem dX9_set_128 : decode cX9_set 128 = .ok (.putfield 124, 3) := by decide +kernel
theorem dX9_set_131 : decode cX9_set 131 = .ok (.iload 4, 2) := by decide +kernel
theorem dX9_set_133 : decode cX9_set 133 = .ok (.ireturn, 1) := by decide +kernel
theorem dX9_groom_0 : decode cX9_groom 0 = .ok (.iload_n 1, 1) := by decide +kernel
theorem dX9_groom_1 : decode cX9_groom 1 = .ok (.invokestatic 127, 3) := by decide +kernel
theorem dX9_groom_4 : decode cX9_groom 4 = .ok (.ifCond .eq 23, 3) := by decide +kernel
theorem dX9_groom_7 : decode cX9_groom 7 = .ok (.iload_n 2, 1) := by decide +kernel
theorem dX9_groom_8 : decode cX9_groom 8 = .ok (.ifCond .lt 19, 3) := by decide +kernel
theorem dX9_groom_11 : decode cX9_groom 11 = .ok (.iload_n 2, 1) := by decide +kernel
theorem dX9_groom_12 : decode cX9_groom 12 = .ok (.bipush 9, 2) := by decide +kernel
theorem dX9_groom_14 : decode cX9_groom 14 = .ok (.if_icmp .gt 13, 3) := by decide +kernel
theorem dX9_groom_17 : decode cX9_groom 17 = .ok (.iload_n 3, 1) := by decide +kernel
theorem dX9_groom_18 : decode cX9_groom 18 = .ok (.ifCond .lt 9, 3) := by decide +kernel
theorem dX9_groom_21 : decode cX9_groom 21 = .ok (.iload_n 3, 1) := by decide +kernel
theorem dX9_groom_22 : decode cX9_groom 22 = .ok (.bipush 15, 2) := by decide +kernel
theorem dX9_groom_24 : decode cX9_groom 24 = .ok (.if_icmp .le 6, 3) := by decide +kernel
theorem dX9_groom_27 : decode cX9_groom 27 = .ok (.bipush (-2), 2) := by decide +kernel
theorem dX9_groom_29 : decode cX9_groom 29 = .ok (.ireturn, 1) := by decide +kernel
theorem dX9_groom_30 : decode cX9_groom 30 = .ok (.aload_n 0, 1) := by decide +kernel
theorem dX9_groom_31 : decode cX9_groom 31 = .ok (.getfield 10, 3) := by decide +kernel
theorem dX9_groom_34 : decode cX9_groom 34 = .ok (.getfield 131, 3) := by decide +kernel
theorem dX9_groom_37 : decode cX9_groom 37 = .ok (.bipush 6, 2) := by decide +kernel
theorem dX9_groom_39 : decode cX9_groom 39 = .ok (.if_icmp .lt 6, 3) := by decide +kernel
theorem dX9_groom_42 : decode cX9_groom 42 = .ok (.bipush (-4), 2) := by decide +kernel
theorem dX9_groom_44 : decode cX9_groom 44 = .ok (.ireturn, 1) := by decide +kernel
theorem dX9_groom_45 : decode cX9_groom 45 = .ok (.aload_n 0, 1) := by decide +kernel
theorem dX9_groom_46 : decode cX9_groom 46 = .ok (.getfield 10, 3) := by decide +kernel
theorem dX9_groom_49 : decode cX9_groom 49 = .ok (.getfield 112, 3) := by decide +kernel
theorem dX9_groom_52 : decode cX9_groom 52 = .ok (.aload_n 0, 1) := by decide +kernel
theorem dX9_groom_53 : decode cX9_groom 53 = .ok (.getfield 10, 3) := by decide +kernel
theorem dX9_groom_56 : decode cX9_groom 56 = .ok (.getfield 131, 3) := by decide +kernel
theorem dX9_groom_59 : decode cX9_groom 59 = .ok (.aaload, 1) := by decide +kernel
theorem dX9_groom_60 : decode cX9_groom 60 = .ok (.astore 4, 2) := by decide +kernel
theorem dX9_groom_62 : decode cX9_groom 62 = .ok (.aload 4, 2) := by decide +kernel
theorem dX9_groom_64 : decode cX9_groom 64 = .ok (.iload_n 1, 1) := by decide +kernel
theorem dX9_groom_65 : decode cX9_groom 65 = .ok (.putfield 134, 3) := by decide +kernel
theorem dX9_groom_68 : decode cX9_groom 68 = .ok (.aload 4, 2) := by decide +kernel
theorem dX9_groom_70 : decode cX9_groom 70 = .ok (.iload_n 2, 1) := by decide +kernel
theorem dX9_groom_71 : decode cX9_groom 71 = .ok (.putfield 116, 3) := by decide +kernel
theorem dX9_groom_74 : decode cX9_groom 74 = .ok (.aload 4, 2) := by decide +kernel
theorem dX9_groom_76 : decode cX9_groom 76 = .ok (.iload_n 3, 1) := by decide +kernel
theorem dX9_groom_77 : decode cX9_groom 77 = .ok (.putfield 121, 3) := by decide +kernel
theorem dX9_groom_80 : decode cX9_groom 80 = .ok (.aload 4, 2) := by decide +kernel
theorem dX9_groom_82 : decode cX9_groom 82 = .ok (.bipush 20, 2) := by decide +kernel
theorem dX9_groom_84 : decode cX9_groom 84 = .ok (.putfield 124, 3) := by decide +kernel
theorem dX9_groom_87 : decode cX9_groom 87 = .ok (.aload 4, 2) := by decide +kernel
theorem dX9_groom_89 : decode cX9_groom 89 = .ok (.aload_n 0, 1) := by decide +kernel
theorem dX9_groom_90 : decode cX9_groom 90 = .ok (.getfield 10, 3) := by decide +kernel
theorem dX9_groom_93 : decode cX9_groom 93 = .ok (.getfield 131, 3) := by decide +kernel
theorem dX9_groom_96 : decode cX9_groom 96 = .ok (.putfield 137, 3) := by decide +kernel
theorem dX9_groom_99 : decode cX9_groom 99 = .ok (.aload_n 0, 1) := by decide +kernel
theorem dX9_groom_100 : decode cX9_groom 100 = .ok (.getfield 10, 3) := by decide +kernel
theorem dX9_groom_103 : decode cX9_groom 103 = .ok (.dup, 1) := by decide +kernel
theorem dX9_groom_104 : decode cX9_groom 104 = .ok (.getfield 131, 3) := by decide +kernel
theorem dX9_groom_107 : decode cX9_groom 107 = .ok (.iconst 1, 1) := by decide +kernel
theorem dX9_groom_108 : decode cX9_groom 108 = .ok (.iadd, 1) := by decide +kernel
theorem dX9_groom_109 : decode cX9_groom 109 = .ok (.putfield 131, 3) := by decide +kernel
theorem dX9_groom_112 : decode cX9_groom 112 = .ok (.aload_n 0, 1) := by decide +kernel
theorem dX9_groom_113 : decode cX9_groom 113 = .ok (.getfield 10, 3) := by decide +kernel
theorem dX9_groom_116 : decode cX9_groom 116 = .ok (.getfield 131, 3) := by decide +kernel
theorem dX9_groom_119 : decode cX9_groom 119 = .ok (.iconst 1, 1) := by decide +kernel
theorem dX9_groom_120 : decode cX9_groom 120 = .ok (.isub, 1) := by decide +kernel
theorem dX9_groom_121 : decode cX9_groom 121 = .ok (.ireturn, 1) := by decide +kernel
theorem dX9_change_0 : decode cX9_change 0 = .ok (.aload_n 0, 1) := by decide +kernel
theorem dX9_change_1 : decode cX9_change 1 = .ok (.iload_n 1, 1) := by decide +kernel
theorem dX9_change_2 : decode cX9_change 2 = .ok (.invokevirtual 140, 3) := by decide +kernel
theorem dX9_change_5 : decode cX9_change 5 = .ok (.ifCond .eq 16, 3) := by decide +kernel
theorem dX9_change_8 : decode cX9_change 8 = .ok (.aload_n 0, 1) := by decide +kernel
theorem dX9_change_9 : decode cX9_change 9 = .ok (.iload_n 2, 1) := by decide +kernel
theorem dX9_change_10 : decode cX9_change 10 = .ok (.invokevirtual 140, 3) := by decide +kernel
theorem dX9_change_13 : decode cX9_change 13 = .ok (.ifCond .eq 8, 3) := by decide +kernel
theorem dX9_change_16 : decode cX9_change 16 = .ok (.iload_n 1, 1) := by decide +kernel
theorem dX9_change_17 : decode cX9_change 17 = .ok (.iload_n 2, 1) := by decide +kernel
theorem dX9_change_18 : decode cX9_change 18 = .ok (.if_icmp .ne 6, 3) := by decide +kernel
theorem dX9_change_21 : decode cX9_change 21 = .ok (.bipush (-2), 2) := by decide +kernel
theorem dX9_change_23 : decode cX9_change 23 = .ok (.ireturn, 1) := by decide +kernel
theorem dX9_change_24 : decode cX9_change 24 = .ok (.aload_n 0, 1) := by decide +kernel
theorem dX9_change_25 : decode cX9_change 25 = .ok (.getfield 10, 3) := by decide +kernel
theorem dX9_change_28 : decode cX9_change 28 = .ok (.getfield 112, 3) := by decide +kernel
theorem dX9_change_31 : decode cX9_change 31 = .ok (.iload_n 1, 1) := by decide +kernel
theorem dX9_change_32 : decode cX9_change 32 = .ok (.aaload, 1) := by decide +kernel
theorem dX9_change_33 : decode cX9_change 33 = .ok (.getfield 137, 3) := by decide +kernel
theorem dX9_change_36 : decode cX9_change 36 = .ok (.istore_n 3, 1) := by decide +kernel
theorem dX9_change_37 : decode cX9_change 37 = .ok (.aload_n 0, 1) := by decide +kernel
theorem dX9_change_38 : decode cX9_change 38 = .ok (.getfield 10, 3) := by decide +kernel
theorem dX9_change_41 : decode cX9_change 41 = .ok (.getfield 112, 3) := by decide +kernel
theorem dX9_change_44 : decode cX9_change 44 = .ok (.iload_n 1, 1) := by decide +kernel
theorem dX9_change_45 : decode cX9_change 45 = .ok (.aaload, 1) := by decide +kernel
theorem dX9_change_46 : decode cX9_change 46 = .ok (.aload_n 0, 1) := by decide +kernel
theorem dX9_change_47 : decode cX9_change 47 = .ok (.getfield 10, 3) := by decide +kernel
theorem dX9_change_50 : decode cX9_change 50 = .ok (.getfield 112, 3) := by decide +kernel
theorem dX9_change_53 : decode cX9_change 53 = .ok (.iload_n 2, 1) := by decide +kernel
theorem dX9_change_54 : decode cX9_change 54 = .ok (.aaload, 1) := by decide +kernel
theorem dX9_change_55 : decode cX9_change 55 = .ok (.getfield 137, 3) := by decide +kernel
theorem dX9_change_58 : decode cX9_change 58 = .ok (.putfield 137, 3) := by decide +kernel
theorem dX9_change_61 : decode cX9_change 61 = .ok (.aload_n 0, 1) := by decide +kernel
theorem dX9_change_62 : decode cX9_change 62 = .ok (.getfield 10, 3) := by decide +kernel
theorem dX9_change_65 : decode cX9_change 65 = .ok (.getfield 112, 3) := by decide +kernel
theorem dX9_change_68 : decode cX9_change 68 = .ok (.iload_n 2, 1) := by decide +kernel
theorem dX9_change_69 : decode cX9_change 69 = .ok (.aaload, 1) := by decide +kernel
theorem dX9_change_70 : decode cX9_change 70 = .ok (.iload_n 3, 1) := by decide +kernel
theorem dX9_change_71 : decode cX9_change 71 = .ok (.putfield 137, 3) := by decide +kernel
theorem dX9_change_74 : decode cX9_change 74 = .ok (.aload_n 0, 1) := by decide +kernel
theorem dX9_change_75 : decode cX9_change 75 = .ok (.getfield 10, 3) := by decide +kernel
theorem dX9_change_78 : decode cX9_change 78 = .ok (.getfield 112, 3) := by decide +kernel
theorem dX9_change_81 : decode cX9_change 81 = .ok (.iload_n 1, 1) := by decide +kernel
theorem dX9_change_82 : decode cX9_change 82 = .ok (.aaload, 1) := by decide +kernel
theorem dX9_change_83 : decode cX9_change 83 = .ok (.getfield 137, 3) := by decide +kernel
theorem dX9_change_86 : decode cX9_change 86 = .ok (.ireturn, 1) := by decide +kernel
theorem dX9_told_0 : decode cX9_told 0 = .ok (.aload_n 0, 1) := by decide +kernel
theorem dX9_told_1 : decode cX9_told 1 = .ok (.iload_n 2, 1) := by decide +kernel
theorem dX9_told_2 : decode cX9_told 2 = .ok (.iload_n 1, 1) := by decide +kernel
theorem dX9_told_3 : decode cX9_told 3 = .ok (.invokevirtual 94, 3) := by decide +kernel
theorem dX9_told_6 : decode cX9_told 6 = .ok (.ifCond .eq 10, 3) := by decide +kernel
theorem dX9_told_9 : decode cX9_told 9 = .ok (.aload_n 0, 1) := by decide +kernel
theorem dX9_told_10 : decode cX9_told 10 = .ok (.iload_n 2, 1) := by decide +kernel
theorem dX9_told_11 : decode cX9_told 11 = .ok (.iload_n 1, 1) := by decide +kernel
theorem dX9_told_12 : decode cX9_told 12 = .ok (.invokevirtual 102, 3) := by decide +kernel
theorem dX9_told_15 : decode cX9_told 15 = .ok (.ireturn, 1) := by decide +kernel
theorem dX9_told_16 : decode cX9_told 16 = .ok (.aload_n 0, 1) := by decide +kernel
theorem dX9_told_17 : decode cX9_told 17 = .ok (.iload_n 1, 1) := by decide +kernel
theorem dX9_told_18 : decode cX9_told 18 = .ok (.invokevirtual 140, 3) := by decide +kernel
theorem dX9_told_21 : decode cX9_told 21 = .ok (.ifCond .eq 14, 3) := by decide +kernel
theorem dX9_told_24 : decode cX9_told 24 = .ok (.iload_n 2, 1) := by decide +kernel
theorem dX9_told_25 : decode cX9_told 25 = .ok (.iconst 5, 1) := by decide +kernel
theorem dX9_told_26 : decode cX9_told 26 = .ok (.if_icmp .lt 9, 3) := by decide +kernel
theorem dX9_told_29 : decode cX9_told 29 = .ok (.iload_n 2, 1) := by decide +kernel
theorem dX9_told_30 : decode cX9_told 30 = .ok (.bipush 10, 2) := by decide +kernel
theorem dX9_told_32 : decode cX9_told 32 = .ok (.if_icmp .le 6, 3) := by decide +kernel
theorem dX9_told_35 : decode cX9_told 35 = .ok (.bipush (-2), 2) := by decide +kernel
theorem dX9_told_37 : decode cX9_told 37 = .ok (.ireturn, 1) := by decide +kernel
theorem dX9_told_38 : decode cX9_told 38 = .ok (.aload_n 0, 1) := by decide +kernel
theorem dX9_told_39 : decode cX9_told 39 = .ok (.iload_n 1, 1) := by decide +kernel
theorem dX9_told_40 : decode cX9_told 40 = .ok (.invokevirtual 143, 3) := by decide +kernel
theorem dX9_told_43 : decode cX9_told 43 = .ok (.iload_n 2, 1) := by decide +kernel
theorem dX9_told_44 : decode cX9_told 44 = .ok (.tableswitch 84 5 9 #[36, 44, 52, 60, 72], 36) := by decide +kernel
theorem dX9_told_80 : decode cX9_told 80 = .ok (.aload_n 0, 1) := by decide +kernel
theorem dX9_told_81 : decode cX9_told 81 = .ok (.getfield 49, 3) := by decide +kernel
theorem dX9_told_84 : decode cX9_told 84 = .ok (.getfield 147, 3) := by decide +kernel
theorem dX9_told_87 : decode cX9_told 87 = .ok (.ireturn, 1) := by decide +kernel
theorem dX9_told_88 : decode cX9_told 88 = .ok (.aload_n 0, 1) := by decide +kernel
theorem dX9_told_89 : decode cX9_told 89 = .ok (.getfield 49, 3) := by decide +kernel
theorem dX9_told_92 : decode cX9_told 92 = .ok (.getfield 148, 3) := by decide +kernel
theorem dX9_told_95 : decode cX9_told 95 = .ok (.ireturn, 1) := by decide +kernel
theorem dX9_told_96 : decode cX9_told 96 = .ok (.aload_n 0, 1) := by decide +kernel
theorem dX9_told_97 : decode cX9_told 97 = .ok (.getfield 49, 3) := by decide +kernel
theorem dX9_told_100 : decode cX9_told 100 = .ok (.getfield 151, 3) := by decide +kernel
theorem dX9_told_103 : decode cX9_told 103 = .ok (.ireturn, 1) := by decide +kernel
theorem dX9_told_104 : decode cX9_told 104 = .ok (.aload_n 0, 1) := by decide +kernel
theorem dX9_told_105 : decode cX9_told 105 = .ok (.getfield 49, 3) := by decide +kernel
theorem dX9_told_108 : decode cX9_told 108 = .ok (.aload_n 0, 1) := by decide +kernel
theorem dX9_told_109 : decode cX9_told 109 = .ok (.invokevirtual 154, 3) := by decide +kernel
theorem dX9_told_112 : decode cX9_told 112 = .ok (.invokevirtual 158, 3) := by decide +kernel
theorem dX9_told_115 : decode cX9_told 115 = .ok (.ireturn, 1) := by decide +kernel
theorem dX9_told_116 : decode cX9_told 116 = .ok (.aload_n 0, 1) := by decide +kernel
theorem dX9_told_117 : decode cX9_told 117 = .ok (.getfield 49, 3) := by decide +kernel
theorem dX9_told_120 : decode cX9_told 120 = .ok (.aload_n 0, 1) := by decide +kernel
theorem dX9_told_121 : decode cX9_told 121 = .ok (.invokevirtual 154, 3) := by decide +kernel
theorem dX9_told_124 : decode cX9_told 124 = .ok (.invokevirtual 161, 3) := by decide +kernel
theorem dX9_told_127 : decode cX9_told 127 = .ok (.ireturn, 1) := by decide +kernel
theorem dX9_told_128 : decode cX9_told 128 = .ok (.aload_n 0, 1) := by decide +kernel
theorem dX9_told_129 : decode cX9_told 129 = .ok (.getfield 49, 3) := by decide +kernel
theorem dX9_told_132 : decode cX9_told 132 = .ok (.aload_n 0, 1) := by decide +kernel
theorem dX9_told_133 : decode cX9_told 133 = .ok (.invokevirtual 154, 3) := by decide +kernel
theorem dX9_told_136 : decode cX9_told 136 = .ok (.invokevirtual 164, 3) := by decide +kernel
theorem dX9_told_139 : decode cX9_told 139 = .ok (.ireturn, 1) := by decide +kernel
theorem dX9_isSettable_0 : decode cX9_isSettable 0 = .ok (.iload_n 1, 1) := by decide +kernel
theorem dX9_isSettable_1 : decode cX9_isSettable 1 = .ok (.ifCond .eq 26, 3) := by decide +kernel
theorem dX9_isSettable_4 : decode cX9_isSettable 4 = .ok (.iload_n 1, 1) := by decide +kernel
theorem dX9_isSettable_5 : decode cX9_isSettable 5 = .ok (.iconst 1, 1) := by decide +kernel
theorem dX9_isSettable_6 : decode cX9_isSettable 6 = .ok (.if_icmp .eq 21, 3) := by decide +kernel
theorem dX9_isSettable_9 : decode cX9_isSettable 9 = .ok (.iload_n 1, 1) := by decide +kernel
theorem dX9_isSettable_10 : decode cX9_isSettable 10 = .ok (.iconst 2, 1) := by decide +kernel
theorem dX9_isSettable_11 : decode cX9_isSettable 11 = .ok (.if_icmp .lt 20, 3) := by decide +kernel
theorem dX9_isSettable_14 : decode cX9_isSettable 14 = .ok (.iload_n 1, 1) := by decide +kernel
theorem dX9_isSettable_15 : decode cX9_isSettable 15 = .ok (.iconst 4, 1) := by decide +kernel
theorem dX9_isSettable_16 : decode cX9_isSettable 16 = .ok (.if_icmp .gt 15, 3) := by decide +kernel
theorem dX9_isSettable_19 : decode cX9_isSettable 19 = .ok (.aload_n 0, 1) := by decide +kernel
theorem dX9_isSettable_20 : decode cX9_isSettable 20 = .ok (.iload_n 2, 1) := by decide +kernel
theorem dX9_isSettable_21 : decode cX9_isSettable 21 = .ok (.invokevirtual 140, 3) := by decide +kernel
theorem dX9_isSettable_24 : decode cX9_isSettable 24 = .ok (.ifCond .eq 7, 3) := by decide +kernel
theorem dX9_isSettable_27 : decode cX9_isSettable 27 = .ok (.iconst 1, 1) := by decide +kernel
theorem dX9_isSettable_28 : decode cX9_isSettable 28 = .ok (.goto 4, 3) := by decide +kernel
theorem dX9_isSettable_31 : decode cX9_isSettable 31 = .ok (.iconst 0, 1) := by decide +kernel
theorem dX9_isSettable_32 : decode cX9_isSettable 32 = .ok (.ireturn, 1) := by decide +kernel
theorem dX9_settable_0 : decode cX9_settable 0 = .ok (.iload_n 1, 1) := by decide +kernel
theorem dX9_settable_1 : decode cX9_settable 1 = .ok (.tableswitch 73 0 3 #[31, 39, 47, 60], 31) := by decide +kernel
theorem dX9_settable_32 : decode cX9_settable 32 = .ok (.aload_n 0, 1) := by decide +kernel
theorem dX9_settable_33 : decode cX9_settable 33 = .ok (.getfield 10, 3) := by decide +kernel
theorem dX9_settable_36 : decode cX9_settable 36 = .ok (.getfield 106, 3) := by decide +kernel
theorem dX9_settable_39 : decode cX9_settable 39 = .ok (.ireturn, 1) := by decide +kernel
theorem dX9_settable_40 : decode cX9_settable 40 = .ok (.aload_n 0, 1) := by decide +kernel
theorem dX9_settable_41 : decode cX9_settable 41 = .ok (.getfield 10, 3) := by decide +kernel
theorem dX9_settable_44 : decode cX9_settable 44 = .ok (.getfield 109, 3) := by decide +kernel
theorem dX9_settable_47 : decode cX9_settable 47 = .ok (.ireturn, 1) := by decide +kernel
theorem dX9_settable_48 : decode cX9_settable 48 = .ok (.aload_n 0, 1) := by decide +kernel
theorem dX9_settable_49 : decode cX9_settable 49 = .ok (.getfield 10, 3) := by decide +kernel
theorem dX9_settable_52 : decode cX9_settable 52 = .ok (.getfield 112, 3) := by decide +kernel
theorem dX9_settable_55 : decode cX9_settable 55 = .ok (.iload_n 2, 1) := by decide +kernel
theorem dX9_settable_56 : decode cX9_settable 56 = .ok (.aaload, 1) := by decide +kernel
theorem dX9_settable_57 : decode cX9_settable 57 = .ok (.getfield 116, 3) := by decide +kernel
theorem dX9_settable_60 : decode cX9_settable 60 = .ok (.ireturn, 1) := by decide +kernel
theorem dX9_settable_61 : decode cX9_settable 61 = .ok (.aload_n 0, 1) := by decide +kernel
theorem dX9_settable_62 : decode cX9_settable 62 = .ok (.getfield 10, 3) := by decide +kernel
theorem dX9_settable_65 : decode cX9_settable 65 = .ok (.getfield 112, 3) := by decide +kernel
theorem dX9_settable_68 : decode cX9_settable 68 = .ok (.iload_n 2, 1) := by decide +kernel
theorem dX9_settable_69 : decode cX9_settable 69 = .ok (.aaload, 1) := by decide +kernel
theorem dX9_settable_70 : decode cX9_settable 70 = .ok (.getfield 121, 3) := by decide +kernel
theorem dX9_settable_73 : decode cX9_settable 73 = .ok (.ireturn, 1) := by decide +kernel
theorem dX9_settable_74 : decode cX9_settable 74 = .ok (.aload_n 0, 1) := by decide +kernel
theorem dX9_settable_75 : decode cX9_settable 75 = .ok (.getfield 10, 3) := by decide +kernel
theorem dX9_settable_78 : decode cX9_settable 78 = .ok (.getfield 112, 3) := by decide +kernel
theorem dX9_settable_81 : decode cX9_settable 81 = .ok (.iload_n 2, 1) := by decide +kernel
theorem dX9_settable_82 : decode cX9_settable 82 = .ok (.aaload, 1) := by decide +kernel
theorem dX9_settable_83 : decode cX9_settable 83 = .ok (.getfield 124, 3) := by decide +kernel
theorem dX9_settable_86 : decode cX9_settable 86 = .ok (.ireturn, 1) := by decide +kernel
theorem dX9_lastOf_0 : decode cX9_lastOf 0 = .ok (.iload_n 0, 1) := by decide +kernel
theorem dX9_lastOf_1 : decode cX9_lastOf 1 = .ok (.tableswitch 41 0 3 #[31, 41, 35, 38], 31) := by decide +kernel
theorem dX9_lastOf_32 : decode cX9_lastOf 32 = .ok (.sipush 999, 3) := by decide +kernel
theorem dX9_lastOf_35 : decode cX9_lastOf 35 = .ok (.ireturn, 1) := by decide +kernel
theorem dX9_lastOf_36 : decode cX9_lastOf 36 = .ok (.bipush 9, 2) := by decide +kernel
theorem dX9_lastOf_38 : decode cX9_lastOf 38 = .ok (.ireturn, 1) := by decide +kernel
theorem dX9_lastOf_39 : decode cX9_lastOf 39 = .ok (.bipush 15, 2) := by decide +kernel
theorem dX9_lastOf_41 : decode cX9_lastOf 41 = .ok (.ireturn, 1) := by decide +kernel
theorem dX9_lastOf_42 : decode cX9_lastOf 42 = .ok (.bipush 99, 2) := by decide +kernel
theorem dX9_lastOf_44 : decode cX9_lastOf 44 = .ok (.ireturn, 1) := by decide +kernel
theorem dX9_isGroom_0 : decode cX9_isGroom 0 = .ok (.iload_n 1, 1) := by decide +kernel
theorem dX9_isGroom_1 : decode cX9_isGroom 1 = .ok (.ifCond .lt 18, 3) := by decide +kernel
theorem dX9_isGroom_4 : decode cX9_isGroom 4 = .ok (.iload_n 1, 1) := by decide +kernel
theorem dX9_isGroom_5 : decode cX9_isGroom 5 = .ok (.aload_n 0, 1) := by decide +kernel
theorem dX9_isGroom_6 : decode cX9_isGroom 6 = .ok (.getfield 10, 3) := by decide +kernel
theorem dX9_isGroom_9 : decode cX9_isGroom 9 = .ok (.getfield 131, 3) := by decide +kernel
theorem dX9_isGroom_12 : decode cX9_isGroom 12 = .ok (.if_icmp .ge 7, 3) := by decide +kernel
theorem dX9_isGroom_15 : decode cX9_isGroom 15 = .ok (.iconst 1, 1) := by decide +kernel
theorem dX9_isGroom_16 : decode cX9_isGroom 16 = .ok (.goto 4, 3) := by decide +kernel
theorem dX9_isGroom_19 : decode cX9_isGroom 19 = .ok (.iconst 0, 1) := by decide +kernel
theorem dX9_isGroom_20 : decode cX9_isGroom 20 = .ok (.ireturn, 1) := by decide +kernel
theorem dX9_isKind_0 : decode cX9_isKind 0 = .ok (.iload_n 0, 1) := by decide +kernel
theorem dX9_isKind_1 : decode cX9_isKind 1 = .ok (.ifCond .lt 13, 3) := by decide +kernel
theorem dX9_isKind_4 : decode cX9_isKind 4 = .ok (.iload_n 0, 1) := by decide +kernel
theorem dX9_isKind_5 : decode cX9_isKind 5 = .ok (.bipush 6, 2) := by decide +kernel
theorem dX9_isKind_7 : decode cX9_isKind 7 = .ok (.if_icmp .ge 7, 3) := by decide +kernel
theorem dX9_isKind_10 : decode cX9_isKind 10 = .ok (.iconst 1, 1) := by decide +kernel
theorem dX9_isKind_11 : decode cX9_isKind 11 = .ok (.goto 4, 3) := by decide +kernel
theorem dX9_isKind_14 : decode cX9_isKind 14 = .ok (.iconst 0, 1) := by decide +kernel
theorem dX9_isKind_15 : decode cX9_isKind 15 = .ok (.ireturn, 1) := by decide +kernel
theorem dX9_rule_0 : decode cX9_rule 0 = .ok (.aload_n 0, 1) := by decide +kernel
theorem dX9_rule_1 : decode cX9_rule 1 = .ok (.getfield 25, 3) := by decide +kernel
theorem dX9_rule_4 : decode cX9_rule 4 = .ok (.aload_n 0, 1) := by decide +kernel
theorem dX9_rule_5 : decode cX9_rule 5 = .ok (.getfield 10, 3) := by decide +kernel
theorem dX9_rule_8 : decode cX9_rule 8 = .ok (.getfield 167, 3) := by decide +kernel
theorem dX9_rule_11 : decode cX9_rule 11 = .ok (.aaload, 1) := by decide +kernel
theorem dX9_rule_12 : decode cX9_rule 12 = .ok (.areturn, 1) := by decide +kernel
theorem dX9_see_0 : decode cX9_see 0 = .ok (.aload_n 0, 1) := by decide +kernel
theorem dX9_see_1 : decode cX9_see 1 = .ok (.getfield 10, 3) := by decide +kernel
theorem dX9_see_4 : decode cX9_see 4 = .ok (.getfield 112, 3) := by decide +kernel
theorem dX9_see_7 : decode cX9_see 7 = .ok (.iload_n 1, 1) := by decide +kernel
theorem dX9_see_8 : decode cX9_see 8 = .ok (.aaload, 1) := by decide +kernel
theorem dX9_see_9 : decode cX9_see 9 = .ok (.astore 4, 2) := by decide +kernel
theorem dX9_see_11 : decode cX9_see 11 = .ok (.aload_n 0, 1) := by decide +kernel
theorem dX9_see_12 : decode cX9_see 12 = .ok (.getfield 49, 3) := by decide +kernel
theorem dX9_see_15 : decode cX9_see 15 = .ok (.aload 4, 2) := by decide +kernel
theorem dX9_see_17 : decode cX9_see 17 = .ok (.getfield 134, 3) := by decide +kernel
theorem dX9_see_20 : decode cX9_see 20 = .ok (.putfield 147, 3) := by decide +kernel
theorem dX9_see_23 : decode cX9_see 23 = .ok (.aload_n 0, 1) := by decide +kernel
theorem dX9_see_24 : decode cX9_see 24 = .ok (.getfield 49, 3) := by decide +kernel
theorem dX9_see_27 : decode cX9_see 27 = .ok (.aload 4, 2) := by decide +kernel
theorem dX9_see_29 : decode cX9_see 29 = .ok (.getfield 116, 3) := by decide +kernel
theorem dX9_see_32 : decode cX9_see 32 = .ok (.putfield 169, 3) := by decide +kernel
theorem dX9_see_35 : decode cX9_see 35 = .ok (.aload_n 0, 1) := by decide +kernel
theorem dX9_see_36 : decode cX9_see 36 = .ok (.getfield 49, 3) := by decide +kernel
theorem dX9_see_39 : decode cX9_see 39 = .ok (.aload 4, 2) := by decide +kernel
theorem dX9_see_41 : decode cX9_see 41 = .ok (.getfield 124, 3) := by decide +kernel
theorem dX9_see_44 : decode cX9_see 44 = .ok (.putfield 170, 3) := by decide +kernel
theorem dX9_see_47 : decode cX9_see 47 = .ok (.aload_n 0, 1) := by decide +kernel
theorem dX9_see_48 : decode cX9_see 48 = .ok (.getfield 49, 3) := by decide +kernel
theorem dX9_see_51 : decode cX9_see 51 = .ok (.aload_n 0, 1) := by decide +kernel
theorem dX9_see_52 : decode cX9_see 52 = .ok (.getfield 10, 3) := by decide +kernel
theorem dX9_see_55 : decode cX9_see 55 = .ok (.getfield 106, 3) := by decide +kernel
theorem dX9_see_58 : decode cX9_see 58 = .ok (.putfield 171, 3) := by decide +kernel
theorem dX9_see_61 : decode cX9_see 61 = .ok (.aload_n 0, 1) := by decide +kernel
theorem dX9_see_62 : decode cX9_see 62 = .ok (.getfield 49, 3) := by decide +kernel
theorem dX9_see_65 : decode cX9_see 65 = .ok (.iload_n 2, 1) := by decide +kernel
theorem dX9_see_66 : decode cX9_see 66 = .ok (.putfield 148, 3) := by decide +kernel
theorem dX9_see_69 : decode cX9_see 69 = .ok (.aload_n 0, 1) := by decide +kernel
theorem dX9_see_70 : decode cX9_see 70 = .ok (.getfield 49, 3) := by decide +kernel
theorem dX9_see_73 : decode cX9_see 73 = .ok (.iload_n 2, 1) := by decide +kernel
theorem dX9_see_74 : decode cX9_see 74 = .ok (.iload_n 1, 1) := by decide +kernel
theorem dX9_see_75 : decode cX9_see 75 = .ok (.if_icmp .ne 7, 3) := by decide +kernel
theorem dX9_see_78 : decode cX9_see 78 = .ok (.iconst 1, 1) := by decide +kernel
theorem dX9_see_79 : decode cX9_see 79 = .ok (.goto 4, 3) := by decide +kernel
theorem dX9_see_82 : decode cX9_see 82 = .ok (.iconst 0, 1) := by decide +kernel
theorem dX9_see_83 : decode cX9_see 83 = .ok (.putfield 172, 3) := by decide +kernel
theorem dX9_see_86 : decode cX9_see 86 = .ok (.aload_n 0, 1) := by decide +kernel
theorem dX9_see_87 : decode cX9_see 87 = .ok (.getfield 49, 3) := by decide +kernel
theorem dX9_see_90 : decode cX9_see 90 = .ok (.iload_n 3, 1) := by decide +kernel
theorem dX9_see_91 : decode cX9_see 91 = .ok (.putfield 151, 3) := by decide +kernel
theorem dX9_see_94 : decode cX9_see 94 = .ok (.return_, 1) := by decide +kernel
theorem dX9_seeIn_0 : decode cX9_seeIn 0 = .ok (.aload_n 0, 1) := by decide +kernel
theorem dX9_seeIn_1 : decode cX9_seeIn 1 = .ok (.iload_n 1, 1) := by decide +kernel
theorem dX9_seeIn_2 : decode cX9_seeIn 2 = .ok (.iload_n 2, 1) := by decide +kernel
theorem dX9_seeIn_3 : decode cX9_seeIn 3 = .ok (.aload_n 0, 1) := by decide +kernel
theorem dX9_seeIn_4 : decode cX9_seeIn 4 = .ok (.getfield 10, 3) := by decide +kernel
theorem dX9_seeIn_7 : decode cX9_seeIn 7 = .ok (.getfield 112, 3) := by decide +kernel
theorem dX9_seeIn_10 : decode cX9_seeIn 10 = .ok (.iload_n 2, 1) := by decide +kernel
theorem dX9_seeIn_11 : decode cX9_seeIn 11 = .ok (.aaload, 1) := by decide +kernel
theorem dX9_seeIn_12 : decode cX9_seeIn 12 = .ok (.getfield 121, 3) := by decide +kernel
theorem dX9_seeIn_15 : decode cX9_seeIn 15 = .ok (.invokevirtual 175, 3) := by decide +kernel
theorem dX9_seeIn_18 : decode cX9_seeIn 18 = .ok (.return_, 1) := by decide +kernel
theorem dX9_seeAsIs_0 : decode cX9_seeAsIs 0 = .ok (.aload_n 0, 1) := by decide +kernel
theorem dX9_seeAsIs_1 : decode cX9_seeAsIs 1 = .ok (.iload_n 1, 1) := by decide +kernel
theorem dX9_seeAsIs_2 : decode cX9_seeAsIs 2 = .ok (.aload_n 0, 1) := by decide +kernel
theorem dX9_seeAsIs_3 : decode cX9_seeAsIs 3 = .ok (.getfield 10, 3) := by decide +kernel
theorem dX9_seeAsIs_6 : decode cX9_seeAsIs 6 = .ok (.getfield 112, 3) := by decide +kernel
theorem dX9_seeAsIs_9 : decode cX9_seeAsIs 9 = .ok (.iload_n 1, 1) := by decide +kernel
theorem dX9_seeAsIs_10 : decode cX9_seeAsIs 10 = .ok (.aaload, 1) := by decide +kernel
theorem dX9_seeAsIs_11 : decode cX9_seeAsIs 11 = .ok (.getfield 137, 3) := by decide +kernel
theorem dX9_seeAsIs_14 : decode cX9_seeAsIs 14 = .ok (.invokevirtual 179, 3) := by decide +kernel
theorem dX9_seeAsIs_17 : decode cX9_seeAsIs 17 = .ok (.return_, 1) := by decide +kernel
theorem dX9_feed_0 : decode cX9_feed 0 = .ok (.iload_n 1, 1) := by decide +kernel
theorem dX9_feed_1 : decode cX9_feed 1 = .ok (.ifCond .lt 10, 3) := by decide +kernel
theorem dX9_feed_4 : decode cX9_feed 4 = .ok (.iload_n 1, 1) := by decide +kernel
theorem dX9_feed_5 : decode cX9_feed 5 = .ok (.sipush 255, 3) := by decide +kernel
theorem dX9_feed_8 : decode cX9_feed 8 = .ok (.if_icmp .le 6, 3) := by decide +kernel
theorem dX9_feed_11 : decode cX9_feed 11 = .ok (.bipush (-2), 2) := by decide +kernel
theorem dX9_feed_13 : decode cX9_feed 13 = .ok (.ireturn, 1) := by decide +kernel
theorem dX9_feed_14 : decode cX9_feed 14 = .ok (.aload_n 0, 1) := by decide +kernel
theorem dX9_feed_15 : decode cX9_feed 15 = .ok (.getfield 36, 3) := by decide +kernel
theorem dX9_feed_18 : decode cX9_feed 18 = .ok (.getfield 78, 3) := by decide +kernel
theorem dX9_feed_21 : decode cX9_feed 21 = .ok (.astore_n 2, 1) := by decide +kernel
theorem dX9_feed_22 : decode cX9_feed 22 = .ok (.aload_n 2, 1) := by decide +kernel
theorem dX9_feed_23 : decode cX9_feed 23 = .ok (.getfield 183, 3) := by decide +kernel
theorem dX9_feed_26 : decode cX9_feed 26 = .ok (.sipush 160, 3) := by decide +kernel
theorem dX9_feed_29 : decode cX9_feed 29 = .ok (.if_icmp .lt 6, 3) := by decide +kernel
theorem dX9_feed_32 : decode cX9_feed 32 = .ok (.bipush (-4), 2) := by decide +kernel
theorem dX9_feed_34 : decode cX9_feed 34 = .ok (.ireturn, 1) := by decide +kernel
theorem dX9_feed_35 : decode cX9_feed 35 = .ok (.aload_n 2, 1) := by decide +kernel
theorem dX9_feed_36 : decode cX9_feed 36 = .ok (.getfield 184, 3) := by decide +kernel
theorem dX9_feed_39 : decode cX9_feed 39 = .ok (.aload_n 2, 1) := by decide +kernel
theorem dX9_feed_40 : decode cX9_feed 40 = .ok (.getfield 183, 3) := by decide +kernel
theorem dX9_feed_43 : decode cX9_feed 43 = .ok (.iload_n 1, 1) := by decide +kernel
theorem dX9_feed_44 : decode cX9_feed 44 = .ok (.iastore, 1) := by decide +kernel
theorem dX9_feed_45 : decode cX9_feed 45 = .ok (.aload_n 2, 1) := by decide +kernel
theorem dX9_feed_46 : decode cX9_feed 46 = .ok (.dup, 1) := by decide +kernel
theorem dX9_feed_47 : decode cX9_feed 47 = .ok (.getfield 183, 3) := by decide +kernel
theorem dX9_feed_50 : decode cX9_feed 50 = .ok (.iconst 1, 1) := by decide +kernel
theorem dX9_feed_51 : decode cX9_feed 51 = .ok (.iadd, 1) := by decide +kernel
theorem dX9_feed_52 : decode cX9_feed 52 = .ok (.putfield 183, 3) := by decide +kernel
theorem dX9_feed_55 : decode cX9_feed 55 = .ok (.aload_n 2, 1) := by decide +kernel
theorem dX9_feed_56 : decode cX9_feed 56 = .ok (.getfield 183, 3) := by decide +kernel
theorem dX9_feed_59 : decode cX9_feed 59 = .ok (.ireturn, 1) := by decide +kernel
theorem dX9_text_0 : decode cX9_text 0 = .ok (.aload_n 0, 1) := by decide +kernel
theorem dX9_text_1 : decode cX9_text 1 = .ok (.getfield 29, 3) := by decide +kernel
theorem dX9_text_4 : decode cX9_text 4 = .ok (.bipush 6, 2) := by decide +kernel
theorem dX9_text_6 : decode cX9_text 6 = .ok (.if_icmp .lt 6, 3) := by decide +kernel
theorem dX9_text_9 : decode cX9_text 9 = .ok (.bipush (-4), 2) := by decide +kernel
theorem dX9_text_11 : decode cX9_text 11 = .ok (.ireturn, 1) := by decide +kernel
theorem dX9_text_12 : decode cX9_text 12 = .ok (.aload_n 0, 1) := by decide +kernel
theorem dX9_text_13 : decode cX9_text 13 = .ok (.getfield 36, 3) := by decide +kernel
theorem dX9_text_16 : decode cX9_text 16 = .ok (.aload_n 0, 1) := by decide +kernel
theorem dX9_text_17 : decode cX9_text 17 = .ok (.getfield 25, 3) := by decide +kernel
theorem dX9_text_20 : decode cX9_text 20 = .ok (.aload_n 0, 1) := by decide +kernel
theorem dX9_text_21 : decode cX9_text 21 = .ok (.getfield 29, 3) := by decide +kernel
theorem dX9_text_24 : decode cX9_text 24 = .ok (.aaload, 1) := by decide +kernel
theorem dX9_text_25 : decode cX9_text 25 = .ok (.invokevirtual 90, 3) := by decide +kernel
theorem dX9_text_28 : decode cX9_text 28 = .ok (.istore_n 1, 1) := by decide +kernel
theorem dX9_text_29 : decode cX9_text 29 = .ok (.iload_n 1, 1) := by decide +kernel
theorem dX9_text_30 : decode cX9_text 30 = .ok (.iconst (-1), 1) := by decide +kernel
theorem dX9_text_31 : decode cX9_text 31 = .ok (.if_icmp .eq 8, 3) := by decide +kernel
theorem dX9_text_34 : decode cX9_text 34 = .ok (.bipush (-100), 2) := by decide +kernel
theorem dX9_text_36 : decode cX9_text 36 = .ok (.iload_n 1, 1) := by decide +kernel
theorem dX9_text_37 : decode cX9_text 37 = .ok (.isub, 1) := by decide +kernel
theorem dX9_text_38 : decode cX9_text 38 = .ok (.ireturn, 1) := by decide +kernel
theorem dX9_text_39 : decode cX9_text 39 = .ok (.aload_n 0, 1) := by decide +kernel
theorem dX9_text_40 : decode cX9_text 40 = .ok (.dup, 1) := by decide +kernel
theorem dX9_text_41 : decode cX9_text 41 = .ok (.getfield 29, 3) := by decide +kernel
theorem dX9_text_44 : decode cX9_text 44 = .ok (.iconst 1, 1) := by decide +kernel
theorem dX9_text_45 : decode cX9_text 45 = .ok (.iadd, 1) := by decide +kernel
theorem dX9_text_46 : decode cX9_text 46 = .ok (.putfield 29, 3) := by decide +kernel
theorem dX9_text_49 : decode cX9_text 49 = .ok (.aload_n 0, 1) := by decide +kernel
theorem dX9_text_50 : decode cX9_text 50 = .ok (.getfield 29, 3) := by decide +kernel
theorem dX9_text_53 : decode cX9_text 53 = .ok (.iconst 1, 1) := by decide +kernel
theorem dX9_text_54 : decode cX9_text 54 = .ok (.isub, 1) := by decide +kernel
theorem dX9_text_55 : decode cX9_text 55 = .ok (.ireturn, 1) := by decide +kernel
theorem dX9_force_0 : decode cX9_force 0 = .ok (.iload_n 1, 1) := by decide +kernel
theorem dX9_force_1 : decode cX9_force 1 = .ok (.ifCond .lt 11, 3) := by decide +kernel
theorem dX9_force_4 : decode cX9_force 4 = .ok (.iload_n 1, 1) := by decide +kernel
theorem dX9_force_5 : decode cX9_force 5 = .ok (.aload_n 0, 1) := by decide +kernel
theorem dX9_force_6 : decode cX9_force 6 = .ok (.getfield 29, 3) := by decide +kernel
theorem dX9_force_9 : decode cX9_force 9 = .ok (.if_icmp .lt 6, 3) := by decide +kernel
theorem dX9_force_12 : decode cX9_force 12 = .ok (.bipush (-2), 2) := by decide +kernel
theorem dX9_force_14 : decode cX9_force 14 = .ok (.ireturn, 1) := by decide +kernel
theorem dX9_force_15 : decode cX9_force 15 = .ok (.aload_n 0, 1) := by decide +kernel
theorem dX9_force_16 : decode cX9_force 16 = .ok (.getfield 10, 3) := by decide +kernel
theorem dX9_force_19 : decode cX9_force 19 = .ok (.getfield 167, 3) := by decide +kernel
theorem dX9_force_22 : decode cX9_force 22 = .ok (.istore_n 2, 1) := by decide +kernel
theorem dX9_force_23 : decode cX9_force 23 = .ok (.aload_n 0, 1) := by decide +kernel
theorem dX9_force_24 : decode cX9_force 24 = .ok (.getfield 10, 3) := by decide +kernel
theorem dX9_force_27 : decode cX9_force 27 = .ok (.iload_n 1, 1) := by decide +kernel
theorem dX9_force_28 : decode cX9_force 28 = .ok (.putfield 167, 3) := by decide +kernel
theorem dX9_force_31 : decode cX9_force 31 = .ok (.iload_n 2, 1) := by decide +kernel
theorem dX9_force_32 : decode cX9_force 32 = .ok (.ireturn, 1) := by decide +kernel
theorem dX9_day_0 : decode cX9_day 0 = .ok (.aload_n 0, 1) := by decide +kernel
theorem dX9_day_1 : decode cX9_day 1 = .ok (.getfield 10, 3) := by decide +kernel
theorem dX9_day_4 : decode cX9_day 4 = .ok (.getfield 106, 3) := by decide +kernel
theorem dX9_day_7 : decode cX9_day 7 = .ok (.sipush 999, 3) := by decide +kernel
theorem dX9_day_10 : decode cX9_day 10 = .ok (.if_icmp .lt 6, 3) := by decide +kernel
theorem dX9_day_13 : decode cX9_day 13 = .ok (.bipush (-3), 2) := by decide +kernel
theorem dX9_day_15 : decode cX9_day 15 = .ok (.ireturn, 1) := by decide +kernel
theorem dX9_day_16 : decode cX9_day 16 = .ok (.iconst 0, 1) := by decide +kernel
theorem dX9_day_17 : decode cX9_day 17 = .ok (.istore_n 1, 1) := by decide +kernel
theorem dX9_day_18 : decode cX9_day 18 = .ok (.iconst 0, 1) := by decide +kernel
theorem dX9_day_19 : decode cX9_day 19 = .ok (.istore_n 2, 1) := by decide +kernel
theorem dX9_day_20 : decode cX9_day 20 = .ok (.iload_n 2, 1) := by decide +kernel
theorem dX9_day_21 : decode cX9_day 21 = .ok (.aload_n 0, 1) := by decide +kernel
theorem dX9_day_22 : decode cX9_day 22 = .ok (.getfield 10, 3) := by decide +kernel
theorem dX9_day_25 : decode cX9_day 25 = .ok (.getfield 131, 3) := by decide +kernel
theorem dX9_day_28 : decode cX9_day 28 = .ok (.if_icmp .ge 57, 3) := by decide +kernel
theorem dX9_day_31 : decode cX9_day 31 = .ok (.aload_n 0, 1) := by decide +kernel
theorem dX9_day_32 : decode cX9_day 32 = .ok (.iload_n 2, 1) := by decide +kernel
theorem dX9_day_33 : decode cX9_day 33 = .ok (.invokevirtual 143, 3) := by decide +kernel
theorem dX9_day_36 : decode cX9_day 36 = .ok (.aload_n 0, 1) := by decide +kernel
theorem dX9_day_37 : decode cX9_day 37 = .ok (.getfield 49, 3) := by decide +kernel
theorem dX9_day_40 : decode cX9_day 40 = .ok (.aload_n 0, 1) := by decide +kernel
theorem dX9_day_41 : decode cX9_day 41 = .ok (.invokevirtual 154, 3) := by decide +kernel
theorem dX9_day_44 : decode cX9_day 44 = .ok (.aload_n 0, 1) := by decide +kernel
theorem dX9_day_45 : decode cX9_day 45 = .ok (.getfield 10, 3) := by decide +kernel
theorem dX9_day_48 : decode cX9_day 48 = .ok (.getfield 109, 3) := by decide +kernel
theorem dX9_day_51 : decode cX9_day 51 = .ok (.invokevirtual 187, 3) := by decide +kernel
theorem dX9_day_54 : decode cX9_day 54 = .ok (.ifCond .eq 6, 3) := by decide +kernel
theorem dX9_day_57 : decode cX9_day 57 = .ok (.iinc 1 1, 3) := by decide +kernel
theorem dX9_day_60 : decode cX9_day 60 = .ok (.aload_n 0, 1) := by decide +kernel
theorem dX9_day_61 : decode cX9_day 61 = .ok (.getfield 10, 3) := by decide +kernel
theorem dX9_day_64 : decode cX9_day 64 = .ok (.getfield 112, 3) := by decide +kernel
theorem dX9_day_67 : decode cX9_day 67 = .ok (.iload_n 2, 1) := by decide +kernel
theorem dX9_day_68 : decode cX9_day 68 = .ok (.aaload, 1) := by decide +kernel
theorem dX9_day_69 : decode cX9_day 69 = .ok (.aload_n 0, 1) := by decide +kernel
theorem dX9_day_70 : decode cX9_day 70 = .ok (.getfield 49, 3) := by decide +kernel
theorem dX9_day_73 : decode cX9_day 73 = .ok (.getfield 170, 3) := by decide +kernel
theorem dX9_day_76 : decode cX9_day 76 = .ok (.putfield 124, 3) := by decide +kernel
theorem dX9_day_79 : decode cX9_day 79 = .ok (.iinc 2 1, 3) := by decide +kernel
theorem dX9_day_82 : decode cX9_day 82 = .ok (.goto (-62), 3) := by decide +kernel
theorem dX9_day_85 : decode cX9_day 85 = .ok (.aload_n 0, 1) := by decide +kernel
theorem dX9_day_86 : decode cX9_day 86 = .ok (.getfield 10, 3) := by decide +kernel
theorem dX9_day_89 : decode cX9_day 89 = .ok (.dup, 1) := by decide +kernel
theorem dX9_day_90 : decode cX9_day 90 = .ok (.getfield 106, 3) := by decide +kernel
theorem dX9_day_93 : decode cX9_day 93 = .ok (.iconst 1, 1) := by decide +kernel
theorem dX9_day_94 : decode cX9_day 94 = .ok (.iadd, 1) := by decide +kernel
theorem dX9_day_95 : decode cX9_day 95 = .ok (.putfield 106, 3) := by decide +kernel
theorem dX9_day_98 : decode cX9_day 98 = .ok (.iload_n 1, 1) := by decide +kernel
theorem dX9_day_99 : decode cX9_day 99 = .ok (.ireturn, 1) := by decide +kernel
theorem dX9_run_0 : decode cX9_run 0 = .ok (.iload_n 2, 1) := by decide +kernel
theorem dX9_run_1 : decode cX9_run 1 = .ok (.bipush 10, 2) := by decide +kernel
theorem dX9_run_3 : decode cX9_run 3 = .ok (.if_icmp .lt 24, 3) := by decide +kernel
theorem dX9_run_6 : decode cX9_run 6 = .ok (.iload_n 2, 1) := by decide +kernel
theorem dX9_run_7 : decode cX9_run 7 = .ok (.bipush 30, 2) := by decide +kernel
theorem dX9_run_9 : decode cX9_run 9 = .ok (.if_icmp .ge 18, 3) := by decide +kernel
theorem dX9_run_12 : decode cX9_run 12 = .ok (.aload_n 0, 1) := by decide +kernel
theorem dX9_run_13 : decode cX9_run 13 = .ok (.iload_n 2, 1) := by decide +kernel
theorem dX9_run_14 : decode cX9_run 14 = .ok (.bipush 10, 2) := by decide +kernel
theorem dX9_run_16 : decode cX9_run 16 = .ok (.irem, 1) := by decide +kernel
theorem dX9_run_17 : decode cX9_run 17 = .ok (.invokevirtual 140, 3) := by decide +kernel
theorem dX9_run_20 : decode cX9_run 20 = .ok (.ifCond .eq 7, 3) := by decide +kernel
theorem dX9_run_23 : decode cX9_run 23 = .ok (.iconst 1, 1) := by decide +kernel
theorem dX9_run_24 : decode cX9_run 24 = .ok (.goto 4, 3) := by decide +kernel
theorem dX9_run_27 : decode cX9_run 27 = .ok (.iconst 0, 1) := by decide +kernel
theorem dX9_run_28 : decode cX9_run 28 = .ok (.istore_n 3, 1) := by decide +kernel
theorem dX9_run_29 : decode cX9_run 29 = .ok (.iload_n 1, 1) := by decide +kernel
theorem dX9_run_30 : decode cX9_run 30 = .ok (.bipush 40, 2) := by decide +kernel
theorem dX9_run_32 : decode cX9_run 32 = .ok (.invokestatic 191, 3) := by decide +kernel
theorem dX9_run_35 : decode cX9_run 35 = .ok (.ifCond .eq 16, 3) := by decide +kernel
theorem dX9_run_38 : decode cX9_run 38 = .ok (.iload_n 2, 1) := by decide +kernel
theorem dX9_run_39 : decode cX9_run 39 = .ok (.ifCond .eq 15, 3) := by decide +kernel
theorem dX9_run_42 : decode cX9_run 42 = .ok (.iload_n 2, 1) := by decide +kernel
theorem dX9_run_43 : decode cX9_run 43 = .ok (.iconst 1, 1) := by decide +kernel
theorem dX9_run_44 : decode cX9_run 44 = .ok (.if_icmp .eq 10, 3) := by decide +kernel
theorem dX9_run_47 : decode cX9_run 47 = .ok (.iload_n 3, 1) := by decide +kernel
theorem dX9_run_48 : decode cX9_run 48 = .ok (.ifCond .ne 6, 3) := by decide +kernel
theorem dX9_run_51 : decode cX9_run 51 = .ok (.bipush (-2), 2) := by decide +kernel
theorem dX9_run_53 : decode cX9_run 53 = .ok (.ireturn, 1) := by decide +kernel
theorem dX9_run_54 : decode cX9_run 54 = .ok (.iload_n 3, 1) := by decide +kernel
theorem dX9_run_55 : decode cX9_run 55 = .ok (.ifCond .eq 54, 3) := by decide +kernel
theorem dX9_run_58 : decode cX9_run 58 = .ok (.aload_n 0, 1) := by decide +kernel
theorem dX9_run_59 : decode cX9_run 59 = .ok (.iload_n 2, 1) := by decide +kernel
theorem dX9_run_60 : decode cX9_run 60 = .ok (.bipush 10, 2) := by decide +kernel
theorem dX9_run_62 : decode cX9_run 62 = .ok (.irem, 1) := by decide +kernel
theorem dX9_run_63 : decode cX9_run 63 = .ok (.invokevirtual 143, 3) := by decide +kernel
theorem dX9_run_66 : decode cX9_run 66 = .ok (.aload_n 0, 1) := by decide +kernel
theorem dX9_run_67 : decode cX9_run 67 = .ok (.getfield 49, 3) := by decide +kernel
theorem dX9_run_70 : decode cX9_run 70 = .ok (.aload_n 0, 1) := by decide +kernel
theorem dX9_run_71 : decode cX9_run 71 = .ok (.invokevirtual 154, 3) := by decide +kernel
theorem dX9_run_74 : decode cX9_run 74 = .ok (.aload_n 0, 1) := by decide +kernel
theorem dX9_run_75 : decode cX9_run 75 = .ok (.getfield 10, 3) := by decide +kernel
theorem dX9_run_78 : decode cX9_run 78 = .ok (.getfield 109, 3) := by decide +kernel
theorem dX9_run_81 : decode cX9_run 81 = .ok (.iload_n 1, 1) := by decide +kernel
theorem dX9_run_82 : decode cX9_run 82 = .ok (.invokevirtual 194, 3) := by decide +kernel
theorem dX9_run_85 : decode cX9_run 85 = .ok (.iload_n 2, 1) := by decide +kernel
theorem dX9_run_86 : decode cX9_run 86 = .ok (.bipush 20, 2) := by decide +kernel
theorem dX9_run_88 : decode cX9_run 88 = .ok (.if_icmp .ge 13, 3) := by decide +kernel
theorem dX9_run_91 : decode cX9_run 91 = .ok (.aload_n 0, 1) := by decide +kernel
theorem dX9_run_92 : decode cX9_run 92 = .ok (.getfield 49, 3) := by decide +kernel
theorem dX9_run_95 : decode cX9_run 95 = .ok (.getfield 170, 3) := by decide +kernel
theorem dX9_run_98 : decode cX9_run 98 = .ok (.goto 10, 3) := by decide +kernel
theorem dX9_run_101 : decode cX9_run 101 = .ok (.aload_n 0, 1) := by decide +kernel
theorem dX9_run_102 : decode cX9_run 102 = .ok (.getfield 49, 3) := by decide +kernel
theorem dX9_run_105 : decode cX9_run 105 = .ok (.getfield 198, 3) := by decide +kernel
theorem dX9_run_108 : decode cX9_run 108 = .ok (.ireturn, 1) := by decide +kernel
theorem dX9_run_109 : decode cX9_run 109 = .ok (.iconst 0, 1) := by decide +kernel
theorem dX9_run_110 : decode cX9_run 110 = .ok (.istore 4, 2) := by decide +kernel
theorem dX9_run_112 : decode cX9_run 112 = .ok (.iconst 0, 1) := by decide +kernel
theorem dX9_run_113 : decode cX9_run 113 = .ok (.istore 5, 2) := by decide +kernel
theorem dX9_run_115 : decode cX9_run 115 = .ok (.iconst 0, 1) := by decide +kernel
theorem dX9_run_116 : decode cX9_run 116 = .ok (.istore 6, 2) := by decide +kernel
theorem dX9_run_118 : decode cX9_run 118 = .ok (.iload 6, 2) := by decide +kernel
theorem dX9_run_120 : decode cX9_run 120 = .ok (.aload_n 0, 1) := by decide +kernel
theorem dX9_run_121 : decode cX9_run 121 = .ok (.getfield 10, 3) := by decide +kernel
theorem dX9_run_124 : decode cX9_run 124 = .ok (.getfield 131, 3) := by decide +kernel
theorem dX9_run_127 : decode cX9_run 127 = .ok (.if_icmp .ge 58, 3) := by decide +kernel
theorem dX9_run_130 : decode cX9_run 130 = .ok (.aload_n 0, 1) := by decide +kernel
theorem dX9_run_131 : decode cX9_run 131 = .ok (.iload 6, 2) := by decide +kernel
theorem dX9_run_133 : decode cX9_run 133 = .ok (.invokevirtual 143, 3) := by decide +kernel
theorem dX9_run_136 : decode cX9_run 136 = .ok (.aload_n 0, 1) := by decide +kernel
theorem dX9_run_137 : decode cX9_run 137 = .ok (.getfield 49, 3) := by decide +kernel
theorem dX9_run_140 : decode cX9_run 140 = .ok (.aload_n 0, 1) := by decide +kernel
theorem dX9_run_141 : decode cX9_run 141 = .ok (.invokevirtual 154, 3) := by decide +kernel
theorem dX9_run_144 : decode cX9_run 144 = .ok (.aload_n 0, 1) := by decide +kernel
theorem dX9_run_145 : decode cX9_run 145 = .ok (.getfield 10, 3) := by decide +kernel
theorem dX9_run_148 : decode cX9_run 148 = .ok (.getfield 109, 3) := by decide +kernel
theorem dX9_run_151 : decode cX9_run 151 = .ok (.iload_n 1, 1) := by decide +kernel
theorem dX9_run_152 : decode cX9_run 152 = .ok (.invokevirtual 194, 3) := by decide +kernel
theorem dX9_run_155 : decode cX9_run 155 = .ok (.iload 4, 2) := by decide +kernel
theorem dX9_run_157 : decode cX9_run 157 = .ok (.aload_n 0, 1) := by decide +kernel
theorem dX9_run_158 : decode cX9_run 158 = .ok (.getfield 49, 3) := by decide +kernel
theorem dX9_run_161 : decode cX9_run 161 = .ok (.getfield 170, 3) := by decide +kernel
theorem dX9_run_164 : decode cX9_run 164 = .ok (.iadd, 1) := by decide +kernel
theorem dX9_run_165 : decode cX9_run 165 = .ok (.istore 4, 2) := by decide +kernel
theorem dX9_run_167 : decode cX9_run 167 = .ok (.iload 5, 2) := by decide +kernel
theorem dX9_run_169 : decode cX9_run 169 = .ok (.aload_n 0, 1) := by decide +kernel
theorem dX9_run_170 : decode cX9_run 170 = .ok (.getfield 49, 3) := by decide +kernel
theorem dX9_run_173 : decode cX9_run 173 = .ok (.getfield 201, 3) := by decide +kernel
theorem dX9_run_176 : decode cX9_run 176 = .ok (.iadd, 1) := by decide +kernel
theorem dX9_run_177 : decode cX9_run 177 = .ok (.istore 5, 2) := by decide +kernel
theorem dX9_run_179 : decode cX9_run 179 = .ok (.iinc 6 1, 3) := by decide +kernel
theorem dX9_run_182 : decode cX9_run 182 = .ok (.goto (-64), 3) := by decide +kernel
theorem dX9_run_185 : decode cX9_run 185 = .ok (.iload_n 2, 1) := by decide +kernel
theorem dX9_run_186 : decode cX9_run 186 = .ok (.ifCond .ne 8, 3) := by decide +kernel
theorem dX9_run_189 : decode cX9_run 189 = .ok (.iload 4, 2) := by decide +kernel
theorem dX9_run_191 : decode cX9_run 191 = .ok (.goto 5, 3) := by decide +kernel
theorem dX9_run_194 : decode cX9_run 194 = .ok (.iload 5, 2) := by decide +kernel
theorem dX9_run_196 : decode cX9_run 196 = .ok (.ireturn, 1) := by decide +kernel
theorem dX9_isDays_0 : decode cX9_isDays 0 = .ok (.iload_n 0, 1) := by decide +kernel
theorem dX9_isDays_1 : decode cX9_isDays 1 = .ok (.ifCond .lt 12, 3) := by decide +kernel
theorem dX9_isDays_4 : decode cX9_isDays 4 = .ok (.iload_n 0, 1) := by decide +kernel
theorem dX9_isDays_5 : decode cX9_isDays 5 = .ok (.iload_n 1, 1) := by decide +kernel
theorem dX9_isDays_6 : decode cX9_isDays 6 = .ok (.if_icmp .gt 7, 3) := by decide +kernel
theorem dX9_isDays_9 : decode cX9_isDays 9 = .ok (.iconst 1, 1) := by decide +kernel
theorem dX9_isDays_10 : decode cX9_isDays 10 = .ok (.goto 4, 3) := by decide +kernel
theorem dX9_isDays_13 : decode cX9_isDays 13 = .ok (.iconst 0, 1) := by decide +kernel
theorem dX9_isDays_14 : decode cX9_isDays 14 = .ok (.ireturn, 1) := by decide +kernel
theorem dX9_rings_0 : decode cX9_rings 0 = .ok (.iload_n 1, 1) := by decide +kernel
theorem dX9_rings_1 : decode cX9_rings 1 = .ok (.tableswitch 68 0 4 #[35, 40, 45, 58, 63], 35) := by decide +kernel
theorem dX9_rings_36 : decode cX9_rings 36 = .ok (.aload_n 0, 1) := by decide +kernel
theorem dX9_rings_37 : decode cX9_rings 37 = .ok (.invokevirtual 204, 3) := by decide +kernel
theorem dX9_rings_40 : decode cX9_rings 40 = .ok (.ireturn, 1) := by decide +kernel
theorem dX9_rings_41 : decode cX9_rings 41 = .ok (.aload_n 0, 1) := by decide +kernel
theorem dX9_rings_42 : decode cX9_rings 42 = .ok (.invokevirtual 208, 3) := by decide +kernel
theorem dX9_rings_45 : decode cX9_rings 45 = .ok (.ireturn, 1) := by decide +kernel
theorem dX9_rings_46 : decode cX9_rings 46 = .ok (.aload_n 0, 1) := by decide +kernel
theorem dX9_rings_47 : decode cX9_rings 47 = .ok (.getfield 10, 3) := by decide +kernel
theorem dX9_rings_50 : decode cX9_rings 50 = .ok (.getfield 131, 3) := by decide +kernel
theorem dX9_rings_53 : decode cX9_rings 53 = .ok (.aload_n 0, 1) := by decide +kernel
theorem dX9_rings_54 : decode cX9_rings 54 = .ok (.invokevirtual 204, 3) := by decide +kernel
theorem dX9_rings_57 : decode cX9_rings 57 = .ok (.isub, 1) := by decide +kernel
theorem dX9_rings_58 : decode cX9_rings 58 = .ok (.ireturn, 1) := by decide +kernel
theorem dX9_rings_59 : decode cX9_rings 59 = .ok (.aload_n 0, 1) := by decide +kernel
theorem dX9_rings_60 : decode cX9_rings 60 = .ok (.invokevirtual 211, 3) := by decide +kernel
theorem dX9_rings_63 : decode cX9_rings 63 = .ok (.ireturn, 1) := by decide +kernel
theorem dX9_rings_64 : decode cX9_rings 64 = .ok (.aload_n 0, 1) := by decide +kernel
theorem dX9_rings_65 : decode cX9_rings 65 = .ok (.invokevirtual 214, 3) := by decide +kernel
theorem dX9_rings_68 : decode cX9_rings 68 = .ok (.ireturn, 1) := by decide +kernel
theorem dX9_rings_69 : decode cX9_rings 69 = .ok (.bipush (-2), 2) := by decide +kernel
theorem dX9_rings_71 : decode cX9_rings 71 = .ok (.ireturn, 1) := by decide +kernel
theorem dX9_ring_0 : decode cX9_ring 0 = .ok (.aload_n 0, 1) := by decide +kernel
theorem dX9_ring_1 : decode cX9_ring 1 = .ok (.iload_n 1, 1) := by decide +kernel
theorem dX9_ring_2 : decode cX9_ring 2 = .ok (.invokevirtual 140, 3) := by decide +kernel
theorem dX9_ring_5 : decode cX9_ring 5 = .ok (.ifCond .eq 11, 3) := by decide +kernel
theorem dX9_ring_8 : decode cX9_ring 8 = .ok (.aload_n 0, 1) := by decide +kernel
theorem dX9_ring_9 : decode cX9_ring 9 = .ok (.iload_n 1, 1) := by decide +kernel
theorem dX9_ring_10 : decode cX9_ring 10 = .ok (.invokevirtual 217, 3) := by decide +kernel
theorem dX9_ring_13 : decode cX9_ring 13 = .ok (.goto 5, 3) := by decide +kernel
theorem dX9_ring_16 : decode cX9_ring 16 = .ok (.bipush (-2), 2) := by decide +kernel
theorem dX9_ring_18 : decode cX9_ring 18 = .ok (.ireturn, 1) := by decide +kernel
theorem dX9_ringOf_0 : decode cX9_ringOf 0 = .ok (.iconst 0, 1) := by decide +kernel
theorem dX9_ringOf_1 : decode cX9_ringOf 1 = .ok (.istore_n 2, 1) := by decide +kernel
theorem dX9_ringOf_2 : decode cX9_ringOf 2 = .ok (.iload_n 1, 1) := by decide +kernel
theorem dX9_ringOf_3 : decode cX9_ringOf 3 = .ok (.istore_n 3, 1) := by decide +kernel
theorem dX9_ringOf_4 : decode cX9_ringOf 4 = .ok (.iconst 0, 1) := by decide +kernel
theorem dX9_ringOf_5 : decode cX9_ringOf 5 = .ok (.istore 4, 2) := by decide +kernel
theorem dX9_ringOf_7 : decode cX9_ringOf 7 = .ok (.iload 4, 2) := by decide +kernel
theorem dX9_ringOf_9 : decode cX9_ringOf 9 = .ok (.aload_n 0, 1) := by decide +kernel
theorem dX9_ringOf_10 : decode cX9_ringOf 10 = .ok (.getfield 10, 3) := by decide +kernel
theorem dX9_ringOf_13 : decode cX9_ringOf 13 = .ok (.getfield 131, 3) := by decide +kernel
theorem dX9_ringOf_16 : decode cX9_ringOf 16 = .ok (.if_icmp .ge 28, 3) := by decide +kernel
theorem dX9_ringOf_19 : decode cX9_ringOf 19 = .ok (.iload_n 2, 1) := by decide +kernel
theorem dX9_ringOf_20 : decode cX9_ringOf 20 = .ok (.iconst 1, 1) := by decide +kernel
theorem dX9_ringOf_21 : decode cX9_ringOf 21 = .ok (.iload_n 3, 1) := by decide +kernel
theorem dX9_ringOf_22 : decode cX9_ringOf 22 = .ok (.ishl, 1) := by decide +kernel
theorem dX9_ringOf_23 : decode cX9_ringOf 23 = .ok (.ior, 1) := by decide +kernel
theorem dX9_ringOf_24 : decode cX9_ringOf 24 = .ok (.istore_n 2, 1) := by decide +kernel
theorem dX9_ringOf_25 : decode cX9_ringOf 25 = .ok (.aload_n 0, 1) := by decide +kernel
theorem dX9_ringOf_26 : decode cX9_ringOf 26 = .ok (.getfield 10, 3) := by decide +kernel
theorem dX9_ringOf_29 : decode cX9_ringOf 29 = .ok (.getfield 112, 3) := by decide +kernel
theorem dX9_ringOf_32 : decode cX9_ringOf 32 = .ok (.iload_n 3, 1) := by decide +kernel
theorem dX9_ringOf_33 : decode cX9_ringOf 33 = .ok (.aaload, 1) := by decide +kernel
theorem dX9_ringOf_34 : decode cX9_ringOf 34 = .ok (.getfield 137, 3) := by decide +kernel
theorem dX9_ringOf_37 : decode cX9_ringOf 37 = .ok (.istore_n 3, 1) := by decide +kernel
theorem dX9_ringOf_38 : decode cX9_ringOf 38 = .ok (.iinc 4 1, 3) := by decide +kernel
theorem dX9_ringOf_41 : decode cX9_ringOf 41 = .ok (.goto (-34), 3) := by decide +kernel
theorem dX9_ringOf_44 : decode cX9_ringOf 44 = .ok (.iload_n 2, 1) := by decide +kernel
theorem dX9_ringOf_45 : decode cX9_ringOf 45 = .ok (.ireturn, 1) := by decide +kernel
theorem dX9_ringCount_0 : decode cX9_ringCount 0 = .ok (.iconst 0, 1) := by decide +kernel
theorem dX9_ringCount_1 : decode cX9_ringCount 1 = .ok (.istore_n 1, 1) := by decide +kernel
theorem dX9_ringCount_2 : decode cX9_ringCount 2 = .ok (.iconst 0, 1) := by decide +kernel
theorem dX9_ringCount_3 : decode cX9_ringCount 3 = .ok (.istore_n 2, 1) := by decide +kernel
theorem dX9_ringCount_4 : decode cX9_ringCount 4 = .ok (.iload_n 2, 1) := by decide +kernel
theorem dX9_ringCount_5 : decode cX9_ringCount 5 = .ok (.aload_n 0, 1) := by decide +kernel
theorem dX9_ringCount_6 : decode cX9_ringCount 6 = .ok (.getfield 10, 3) := by decide +kernel
theorem dX9_ringCount_9 : decode cX9_ringCount 9 = .ok (.getfield 131, 3) := by decide +kernel
theorem dX9_ringCount_12 : decode cX9_ringCount 12 = .ok (.if_icmp .ge 36, 3) := by decide +kernel
theorem dX9_ringCount_15 : decode cX9_ringCount 15 = .ok (.aload_n 0, 1) := by decide +kernel
theorem dX9_ringCount_16 : decode cX9_ringCount 16 = .ok (.iload_n 2, 1) := by decide +kernel
theorem dX9_ringCount_17 : decode cX9_ringCount 17 = .ok (.invokevirtual 217, 3) := by decide +kernel
theorem dX9_ringCount_20 : decode cX9_ringCount 20 = .ok (.iconst 1, 1) := by decide +kernel
theorem dX9_ringCount_21 : decode cX9_ringCount 21 = .ok (.iload_n 2, 1) := by decide +kernel
theorem dX9_ringCount_22 : decode cX9_ringCount 22 = .ok (.ishl, 1) := by decide +kernel
theorem dX9_ringCount_23 : decode cX9_ringCount 23 = .ok (.iconst 1, 1) := by decide +kernel
theorem dX9_ringCount_24 : decode cX9_ringCount 24 = .ok (.isub, 1) := by decide +kernel
theorem dX9_ringCount_25 : decode cX9_ringCount 25 = .ok (.iand, 1) := by decide +kernel
theorem dX9_ringCount_26 : decode cX9_ringCount 26 = .ok (.ifCond .ne 7, 3) := by decide +kernel
theorem dX9_ringCount_29 : decode cX9_ringCount 29 = .ok (.iconst 1, 1) := by decide +kernel
theorem dX9_ringCount_30 : decode cX9_ringCount 30 = .ok (.goto 4, 3) := by decide +kernel
theorem dX9_ringCount_33 : decode cX9_ringCount 33 = .ok (.iconst 0, 1) := by decide +kernel
theorem dX9_ringCount_34 : decode cX9_ringCount 34 = .ok (.istore_n 3, 1) := by decide +kernel
theorem dX9_ringCount_35 : decode cX9_ringCount 35 = .ok (.iload_n 3, 1) := by decide +kernel
theorem dX9_ringCount_36 : decode cX9_ringCount 36 = .ok (.ifCond .eq 6, 3) := by decide +kernel
theorem dX9_ringCount_39 : decode cX9_ringCount 39 = .ok (.iinc 1 1, 3) := by decide +kernel
theorem dX9_ringCount_42 : decode cX9_ringCount 42 = .ok (.iinc 2 1, 3) := by decide +kernel
theorem dX9_ringCount_45 : decode cX9_ringCount 45 = .ok (.goto (-41), 3) := by decide +kernel
theorem dX9_ringCount_48 : decode cX9_ringCount 48 = .ok (.iload_n 1, 1) := by decide +kernel
theorem dX9_ringCount_49 : decode cX9_ringCount 49 = .ok (.ireturn, 1) := by decide +kernel
theorem dX9_longestRing_0 : decode cX9_longestRing 0 = .ok (.iconst 0, 1) := by decide +kernel
theorem dX9_longestRing_1 : decode cX9_longestRing 1 = .ok (.istore_n 1, 1) := by decide +kernel
theorem dX9_longestRing_2 : decode cX9_longestRing 2 = .ok (.iconst 0, 1) := by decide +kernel
theorem dX9_longestRing_3 : decode cX9_longestRing 3 = .ok (.istore_n 2, 1) := by decide +kernel
theorem dX9_longestRing_4 : decode cX9_longestRing 4 = .ok (.iload_n 2, 1) := by decide +kernel
theorem dX9_longestRing_5 : decode cX9_longestRing 5 = .ok (.aload_n 0, 1) := by decide +kernel
theorem dX9_longestRing_6 : decode cX9_longestRing 6 = .ok (.getfield 10, 3) := by decide +kernel
theorem dX9_longestRing_9 : decode cX9_longestRing 9 = .ok (.getfield 131, 3) := by decide +kernel
theorem dX9_longestRing_12 : decode cX9_longestRing 12 = .ok (.if_icmp .ge 22, 3) := by decide +kernel
theorem dX9_longestRing_15 : decode cX9_longestRing 15 = .ok (.iload_n 1, 1) := by decide +kernel
theorem dX9_longestRing_16 : decode cX9_longestRing 16 = .ok (.aload_n 0, 1) := by decide +kernel
theorem dX9_longestRing_17 : decode cX9_longestRing 17 = .ok (.iload_n 2, 1) := by decide +kernel
theorem dX9_longestRing_18 : decode cX9_longestRing 18 = .ok (.invokevirtual 217, 3) := by decide +kernel
theorem dX9_longestRing_21 : decode cX9_longestRing 21 = .ok (.invokestatic 220, 3) := by decide +kernel
theorem dX9_longestRing_24 : decode cX9_longestRing 24 = .ok (.invokestatic 225, 3) := by decide +kernel
theorem dX9_longestRing_27 : decode cX9_longestRing 27 = .ok (.istore_n 1, 1) := by decide +kernel
theorem dX9_longestRing_28 : decode cX9_longestRing 28 = .ok (.iinc 2 1, 3) := by decide +kernel
theorem dX9_longestRing_31 : decode cX9_longestRing 31 = .ok (.goto (-27), 3) := by decide +kernel
theorem dX9_longestRing_34 : decode cX9_longestRing 34 = .ok (.iload_n 1, 1) := by decide +kernel
theorem dX9_longestRing_35 : decode cX9_longestRing 35 = .ok (.ireturn, 1) := by decide +kernel
theorem dX9_firstChange_0 : decode cX9_firstChange 0 = .ok (.iconst 0, 1) := by decide +kernel
theorem dX9_firstChange_1 : decode cX9_firstChange 1 = .ok (.istore_n 1, 1) := by decide +kernel
theorem dX9_firstChange_2 : decode cX9_firstChange 2 = .ok (.iload_n 1, 1) := by decide +kernel
theorem dX9_firstChange_3 : decode cX9_firstChange 3 = .ok (.aload_n 0, 1) := by decide +kernel
theorem dX9_firstChange_4 : decode cX9_firstChange 4 = .ok (.getfield 10, 3) := by decide +kernel
theorem dX9_firstChange_7 : decode cX9_firstChange 7 = .ok (.getfield 131, 3) := by decide +kernel
theorem dX9_firstChange_10 : decode cX9_firstChange 10 = .ok (.if_icmp .ge 52, 3) := by decide +kernel
theorem dX9_firstChange_13 : decode cX9_firstChange 13 = .ok (.aload_n 0, 1) := by decide +kernel
theorem dX9_firstChange_14 : decode cX9_firstChange 14 = .ok (.iload_n 1, 1) := by decide +kernel
theorem dX9_firstChange_15 : decode cX9_firstChange 15 = .ok (.invokevirtual 217, 3) := by decide +kernel
theorem dX9_firstChange_18 : decode cX9_firstChange 18 = .ok (.istore_n 2, 1) := by decide +kernel
theorem dX9_firstChange_19 : decode cX9_firstChange 19 = .ok (.iload_n 1, 1) := by decide +kernel
theorem dX9_firstChange_20 : decode cX9_firstChange 20 = .ok (.iconst 1, 1) := by decide +kernel
theorem dX9_firstChange_21 : decode cX9_firstChange 21 = .ok (.iadd, 1) := by decide +kernel
theorem dX9_firstChange_22 : decode cX9_firstChange 22 = .ok (.istore_n 3, 1) := by decide +kernel
theorem dX9_firstChange_23 : decode cX9_firstChange 23 = .ok (.iload_n 3, 1) := by decide +kernel
theorem dX9_firstChange_24 : decode cX9_firstChange 24 = .ok (.aload_n 0, 1) := by decide +kernel
theorem dX9_firstChange_25 : decode cX9_firstChange 25 = .ok (.getfield 10, 3) := by decide +kernel
theorem dX9_firstChange_28 : decode cX9_firstChange 28 = .ok (.getfield 131, 3) := by decide +kernel
theorem dX9_firstChange_31 : decode cX9_firstChange 31 = .ok (.if_icmp .ge 25, 3) := by decide +kernel
theorem dX9_firstChange_34 : decode cX9_firstChange 34 = .ok (.iload_n 2, 1) := by decide +kernel
theorem dX9_firstChange_35 : decode cX9_firstChange 35 = .ok (.iload_n 3, 1) := by decide +kernel
theorem dX9_firstChange_36 : decode cX9_firstChange 36 = .ok (.ishr, 1) := by decide +kernel
theorem dX9_firstChange_37 : decode cX9_firstChange 37 = .ok (.iconst 1, 1) := by decide +kernel
theorem dX9_firstChange_38 : decode cX9_firstChange 38 = .ok (.iand, 1) := by decide +kernel
theorem dX9_firstChange_39 : decode cX9_firstChange 39 = .ok (.iconst 1, 1) := by decide +kernel
theorem dX9_firstChange_40 : decode cX9_firstChange 40 = .ok (.if_icmp .ne 10, 3) := by decide +kernel
theorem dX9_firstChange_43 : decode cX9_firstChange 43 = .ok (.bipush 10, 2) := by decide +kernel
theorem dX9_firstChange_45 : decode cX9_firstChange 45 = .ok (.iload_n 1, 1) := by decide +kernel
theorem dX9_firstChange_46 : decode cX9_firstChange 46 = .ok (.imul, 1) := by decide +kernel
theorem dX9_firstChange_47 : decode cX9_firstChange 47 = .ok (.iload_n 3, 1) := by decide +kernel
theorem dX9_firstChange_48 : decode cX9_firstChange 48 = .ok (.iadd, 1) := by decide +kernel
theorem dX9_firstChange_49 : decode cX9_firstChange 49 = .ok (.ireturn, 1) := by decide +kernel
theorem dX9_firstChange_50 : decode cX9_firstChange 50 = .ok (.iinc 3 1, 3) := by decide +kernel
theorem dX9_firstChange_53 : decode cX9_firstChange 53 = .ok (.goto (-30), 3) := by decide +kernel
theorem dX9_firstChange_56 : decode cX9_firstChange 56 = .ok (.iinc 1 1, 3) := by decide +kernel
theorem dX9_firstChange_59 : decode cX9_firstChange 59 = .ok (.goto (-57), 3) := by decide +kernel
theorem dX9_firstChange_62 : decode cX9_firstChange 62 = .ok (.iconst (-1), 1) := by decide +kernel
theorem dX9_firstChange_63 : decode cX9_firstChange 63 = .ok (.ireturn, 1) := by decide +kernel
theorem dX9_inOwn_0 : decode cX9_inOwn 0 = .ok (.iconst 0, 1) := by decide +kernel
theorem dX9_inOwn_1 : decode cX9_inOwn 1 = .ok (.istore_n 1, 1) := by decide +kernel
theorem dX9_inOwn_2 : decode cX9_inOwn 2 = .ok (.iconst 0, 1) := by decide +kernel
theorem dX9_inOwn_3 : decode cX9_inOwn 3 = .ok (.istore_n 2, 1) := by decide +kernel
theorem dX9_inOwn_4 : decode cX9_inOwn 4 = .ok (.iload_n 2, 1) := by decide +kernel
theorem dX9_inOwn_5 : decode cX9_inOwn 5 = .ok (.aload_n 0, 1) := by decide +kernel
theorem dX9_inOwn_6 : decode cX9_inOwn 6 = .ok (.getfield 10, 3) := by decide +kernel
theorem dX9_inOwn_9 : decode cX9_inOwn 9 = .ok (.getfield 131, 3) := by decide +kernel
theorem dX9_inOwn_12 : decode cX9_inOwn 12 = .ok (.if_icmp .ge 31, 3) := by decide +kernel
theorem dX9_inOwn_15 : decode cX9_inOwn 15 = .ok (.aload_n 0, 1) := by decide +kernel
theorem dX9_inOwn_16 : decode cX9_inOwn 16 = .ok (.getfield 10, 3) := by decide +kernel
theorem dX9_inOwn_19 : decode cX9_inOwn 19 = .ok (.getfield 112, 3) := by decide +kernel
theorem dX9_inOwn_22 : decode cX9_inOwn 22 = .ok (.iload_n 2, 1) := by decide +kernel
theorem dX9_inOwn_23 : decode cX9_inOwn 23 = .ok (.aaload, 1) := by decide +kernel
theorem dX9_inOwn_24 : decode cX9_inOwn 24 = .ok (.getfield 137, 3) := by decide +kernel
theorem dX9_inOwn_27 : decode cX9_inOwn 27 = .ok (.iload_n 2, 1) := by decide +kernel
theorem dX9_inOwn_28 : decode cX9_inOwn 28 = .ok (.if_icmp .ne 9, 3) := by decide +kernel
theorem dX9_inOwn_31 : decode cX9_inOwn 31 = .ok (.iload_n 1, 1) := by decide +kernel
theorem dX9_inOwn_32 : decode cX9_inOwn 32 = .ok (.iconst 1, 1) := by decide +kernel
theorem dX9_inOwn_33 : decode cX9_inOwn 33 = .ok (.iload_n 2, 1) := by decide +kernel
theorem dX9_inOwn_34 : decode cX9_inOwn 34 = .ok (.ishl, 1) := by decide +kernel
theorem dX9_inOwn_35 : decode cX9_inOwn 35 = .ok (.ior, 1) := by decide +kernel
theorem dX9_inOwn_36 : decode cX9_inOwn 36 = .ok (.istore_n 1, 1) := by decide +kernel
theorem dX9_inOwn_37 : decode cX9_inOwn 37 = .ok (.iinc 2 1, 3) := by decide +kernel
theorem dX9_inOwn_40 : decode cX9_inOwn 40 = .ok (.goto (-36), 3) := by decide +kernel
theorem dX9_inOwn_43 : decode cX9_inOwn 43 = .ok (.iload_n 1, 1) := by decide +kernel
theorem dX9_inOwn_44 : decode cX9_inOwn 44 = .ok (.ireturn, 1) := by decide +kernel
theorem dX9_better_0 : decode cX9_better 0 = .ok (.iload_n 1, 1) := by decide +kernel
theorem dX9_better_1 : decode cX9_better 1 = .ok (.bipush 40, 2) := by decide +kernel
theorem dX9_better_3 : decode cX9_better 3 = .ok (.invokestatic 191, 3) := by decide +kernel
theorem dX9_better_6 : decode cX9_better 6 = .ok (.ifCond .eq 12, 3) := by decide +kernel
theorem dX9_better_9 : decode cX9_better 9 = .ok (.iload_n 2, 1) := by decide +kernel
theorem dX9_better_10 : decode cX9_better 10 = .ok (.ifCond .eq 11, 3) := by decide +kernel
theorem dX9_better_13 : decode cX9_better 13 = .ok (.iload_n 2, 1) := by decide +kernel
theorem dX9_better_14 : decode cX9_better 14 = .ok (.iconst 1, 1) := by decide +kernel
theorem dX9_better_15 : decode cX9_better 15 = .ok (.if_icmp .eq 6, 3) := by decide +kernel
theorem dX9_better_18 : decode cX9_better 18 = .ok (.bipush (-2), 2) := by decide +kernel
theorem dX9_better_20 : decode cX9_better 20 = .ok (.ireturn, 1) := by decide +kernel
theorem dX9_better_21 : decode cX9_better 21 = .ok (.aload_n 0, 1) := by decide +kernel
theorem dX9_better_22 : decode cX9_better 22 = .ok (.iload_n 1, 1) := by decide +kernel
theorem dX9_better_23 : decode cX9_better 23 = .ok (.invokevirtual 230, 3) := by decide +kernel
theorem dX9_better_26 : decode cX9_better 26 = .ok (.iconst 0, 1) := by decide +kernel
theorem dX9_better_27 : decode cX9_better 27 = .ok (.istore_n 3, 1) := by decide +kernel
theorem dX9_better_28 : decode cX9_better 28 = .ok (.iconst 0, 1) := by decide +kernel
theorem dX9_better_29 : decode cX9_better 29 = .ok (.istore 4, 2) := by decide +kernel
theorem dX9_better_31 : decode cX9_better 31 = .ok (.iload 4, 2) := by decide +kernel
theorem dX9_better_33 : decode cX9_better 33 = .ok (.aload_n 0, 1) := by decide +kernel
theorem dX9_better_34 : decode cX9_better 34 = .ok (.getfield 10, 3) := by decide +kernel
theorem dX9_better_37 : decode cX9_better 37 = .ok (.getfield 131, 3) := by decide +kernel
theorem dX9_better_40 : decode cX9_better 40 = .ok (.if_icmp .ge 33, 3) := by decide +kernel
theorem dX9_better_43 : decode cX9_better 43 = .ok (.iload_n 3, 1) := by decide +kernel
theorem dX9_better_44 : decode cX9_better 44 = .ok (.aload_n 0, 1) := by decide +kernel
theorem dX9_better_45 : decode cX9_better 45 = .ok (.getfield 69, 3) := by decide +kernel
theorem dX9_better_48 : decode cX9_better 48 = .ok (.iload 4, 2) := by decide +kernel
theorem dX9_better_50 : decode cX9_better 50 = .ok (.aaload, 1) := by decide +kernel
theorem dX9_better_51 : decode cX9_better 51 = .ok (.aload_n 0, 1) := by decide +kernel
theorem dX9_better_52 : decode cX9_better 52 = .ok (.getfield 10, 3) := by decide +kernel
theorem dX9_better_55 : decode cX9_better 55 = .ok (.getfield 112, 3) := by decide +kernel
theorem dX9_better_58 : decode cX9_better 58 = .ok (.iload 4, 2) := by decide +kernel
theorem dX9_better_60 : decode cX9_better 60 = .ok (.aaload, 1) := by decide +kernel
theorem dX9_better_61 : decode cX9_better 61 = .ok (.getfield 137, 3) := by decide +kernel
theorem dX9_better_64 : decode cX9_better 64 = .ok (.iaload, 1) := by decide +kernel
theorem dX9_better_65 : decode cX9_better 65 = .ok (.iadd, 1) := by decide +kernel
theorem dX9_better_66 : decode cX9_better 66 = .ok (.istore_n 3, 1) := by decide +kernel
theorem dX9_better_67 : decode cX9_better 67 = .ok (.iinc 4 1, 3) := by decide +kernel
theorem dX9_better_70 : decode cX9_better 70 = .ok (.goto (-39), 3) := by decide +kernel
theorem dX9_better_73 : decode cX9_better 73 = .ok (.iload_n 3, 1) := by decide +kernel
theorem dX9_better_74 : decode cX9_better 74 = .ok (.istore 4, 2) := by decide +kernel
theorem dX9_better_76 : decode cX9_better 76 = .ok (.iconst (-1), 1) := by decide +kernel
theorem dX9_better_77 : decode cX9_better 77 = .ok (.istore 5, 2) := by decide +kernel
theorem dX9_better_79 : decode cX9_better 79 = .ok (.iconst 0, 1) := by decide +kernel
theorem dX9_better_80 : decode cX9_better 80 = .ok (.istore 6, 2) := by decide +kernel
theorem dX9_better_82 : decode cX9_better 82 = .ok (.iload 6, 2) := by decide +kernel
theorem dX9_better_84 : decode cX9_better 84 = .ok (.aload_n 0, 1) := by decide +kernel
theorem dX9_better_85 : decode cX9_better 85 = .ok (.getfield 10, 3) := by decide +kernel
theorem dX9_better_88 : decode cX9_better 88 = .ok (.getfield 131, 3) := by decide +kernel
theorem dX9_better_91 : decode cX9_better 91 = .ok (.if_icmp .ge 66, 3) := by decide +kernel
theorem dX9_better_94 : decode cX9_better 94 = .ok (.iload 6, 2) := by decide +kernel
theorem dX9_better_96 : decode cX9_better 96 = .ok (.iconst 1, 1) := by decide +kernel
theorem dX9_better_97 : decode cX9_better 97 = .ok (.iadd, 1) := by decide +kernel
theorem dX9_better_98 : decode cX9_better 98 = .ok (.istore 7, 2) := by decide +kernel
theorem dX9_better_100 : decode cX9_better 100 = .ok (.iload 7, 2) := by decide +kernel
theorem dX9_better_102 : decode cX9_better 102 = .ok (.aload_n 0, 1) := by decide +kernel
theorem dX9_better_103 : decode cX9_better 103 = .ok (.getfield 10, 3) := by decide +kernel
theorem dX9_better_106 : decode cX9_better 106 = .ok (.getfield 131, 3) := by decide +kernel
theorem dX9_better_109 : decode cX9_better 109 = .ok (.if_icmp .ge 42, 3) := by decide +kernel
theorem dX9_better_112 : decode cX9_better 112 = .ok (.iload_n 3, 1) := by decide +kernel
theorem dX9_better_113 : decode cX9_better 113 = .ok (.aload_n 0, 1) := by decide +kernel
theorem dX9_better_114 : decode cX9_better 114 = .ok (.iload 6, 2) := by decide +kernel
theorem dX9_better_116 : decode cX9_better 116 = .ok (.iload 7, 2) := by decide +kernel
theorem dX9_better_118 : decode cX9_better 118 = .ok (.invokevirtual 233, 3) := by decide +kernel
theorem dX9_better_121 : decode cX9_better 121 = .ok (.iadd, 1) := by decide +kernel
theorem dX9_better_122 : decode cX9_better 122 = .ok (.istore 8, 2) := by decide +kernel
theorem dX9_better_124 : decode cX9_better 124 = .ok (.iload 8, 2) := by decide +kernel
theorem dX9_better_126 : decode cX9_better 126 = .ok (.iload 4, 2) := by decide +kernel
theorem dX9_better_128 : decode cX9_better 128 = .ok (.if_icmp .ge 17, 3) := by decide +kernel
theorem dX9_better_131 : decode cX9_better 131 = .ok (.iload 8, 2) := by decide +kernel
theorem dX9_better_133 : decode cX9_better 133 = .ok (.istore 4, 2) := by decide +kernel
theorem dX9_better_135 : decode cX9_better 135 = .ok (.bipush 10, 2) := by decide +kernel
theorem dX9_better_137 : decode cX9_better 137 = .ok (.iload 6, 2) := by decide +kernel
theorem dX9_better_139 : decode cX9_better 139 = .ok (.imul, 1) := by decide +kernel
theorem dX9_better_140 : decode cX9_better 140 = .ok (.iload 7, 2) := by decide +kernel
theorem dX9_better_142 : decode cX9_better 142 = .ok (.iadd, 1) := by decide +kernel
theorem dX9_better_143 : decode cX9_better 143 = .ok (.istore 5, 2) := by decide +kernel
theorem dX9_better_145 : decode cX9_better 145 = .ok (.iinc 7 1, 3) := by decide +kernel
theorem dX9_better_148 : decode cX9_better 148 = .ok (.goto (-48), 3) := by decide +kernel
theorem dX9_better_151 : decode cX9_better 151 = .ok (.iinc 6 1, 3) := by decide +kernel
theorem dX9_better_154 : decode cX9_better 154 = .ok (.goto (-72), 3) := by decide +kernel
theorem dX9_better_157 : decode cX9_better 157 = .ok (.iload_n 2, 1) := by decide +kernel
theorem dX9_better_158 : decode cX9_better 158 = .ok (.ifCond .ne 8, 3) := by decide +kernel
theorem dX9_better_161 : decode cX9_better 161 = .ok (.iload 5, 2) := by decide +kernel
theorem dX9_better_163 : decode cX9_better 163 = .ok (.goto 5, 3) := by decide +kernel
theorem dX9_better_166 : decode cX9_better 166 = .ok (.iload 4, 2) := by decide +kernel
theorem dX9_better_168 : decode cX9_better 168 = .ok (.ireturn, 1) := by decide +kernel
theorem dX9_best_0 : decode cX9_best 0 = .ok (.iload_n 1, 1) := by decide +kernel
theorem dX9_best_1 : decode cX9_best 1 = .ok (.bipush 10, 2) := by decide +kernel
theorem dX9_best_3 : decode cX9_best 3 = .ok (.invokestatic 191, 3) := by decide +kernel
theorem dX9_best_6 : decode cX9_best 6 = .ok (.ifCond .eq 12, 3) := by decide +kernel
theorem dX9_best_9 : decode cX9_best 9 = .ok (.iload_n 2, 1) := by decide +kernel
theorem dX9_best_10 : decode cX9_best 10 = .ok (.ifCond .eq 11, 3) := by decide +kernel
theorem dX9_best_13 : decode cX9_best 13 = .ok (.iload_n 2, 1) := by decide +kernel
theorem dX9_best_14 : decode cX9_best 14 = .ok (.iconst 1, 1) := by decide +kernel
theorem dX9_best_15 : decode cX9_best 15 = .ok (.if_icmp .eq 6, 3) := by decide +kernel
theorem dX9_best_18 : decode cX9_best 18 = .ok (.bipush (-2), 2) := by decide +kernel
theorem dX9_best_20 : decode cX9_best 20 = .ok (.ireturn, 1) := by decide +kernel
theorem dX9_best_21 : decode cX9_best 21 = .ok (.aload_n 0, 1) := by decide +kernel
theorem dX9_best_22 : decode cX9_best 22 = .ok (.iload_n 1, 1) := by decide +kernel
theorem dX9_best_23 : decode cX9_best 23 = .ok (.invokevirtual 230, 3) := by decide +kernel
theorem dX9_best_26 : decode cX9_best 26 = .ok (.aload_n 0, 1) := by decide +kernel
theorem dX9_best_27 : decode cX9_best 27 = .ok (.getfield 56, 3) := by decide +kernel
theorem dX9_best_30 : decode cX9_best 30 = .ok (.aload_n 0, 1) := by decide +kernel
theorem dX9_best_31 : decode cX9_best 31 = .ok (.getfield 10, 3) := by decide +kernel
theorem dX9_best_34 : decode cX9_best 34 = .ok (.getfield 131, 3) := by decide +kernel
theorem dX9_best_37 : decode cX9_best 37 = .ok (.invokevirtual 236, 3) := by decide +kernel
theorem dX9_best_40 : decode cX9_best 40 = .ok (.iconst 0, 1) := by decide +kernel
theorem dX9_best_41 : decode cX9_best 41 = .ok (.istore_n 3, 1) := by decide +kernel
theorem dX9_best_42 : decode cX9_best 42 = .ok (.iconst 0, 1) := by decide +kernel
theorem dX9_best_43 : decode cX9_best 43 = .ok (.istore 4, 2) := by decide +kernel
theorem dX9_best_45 : decode cX9_best 45 = .ok (.iconst 0, 1) := by decide +kernel
theorem dX9_best_46 : decode cX9_best 46 = .ok (.istore 5, 2) := by decide +kernel
theorem dX9_best_48 : decode cX9_best 48 = .ok (.iload 5, 2) := by decide +kernel
theorem dX9_best_50 : decode cX9_best 50 = .ok (.aload_n 0, 1) := by decide +kernel
theorem dX9_best_51 : decode cX9_best 51 = .ok (.getfield 56, 3) := by decide +kernel
theorem dX9_best_54 : decode cX9_best 54 = .ok (.getfield 239, 3) := by decide +kernel
theorem dX9_best_57 : decode cX9_best 57 = .ok (.if_icmp .ge 86, 3) := by decide +kernel
theorem dX9_best_60 : decode cX9_best 60 = .ok (.iconst 0, 1) := by decide +kernel
theorem dX9_best_61 : decode cX9_best 61 = .ok (.istore 6, 2) := by decide +kernel
theorem dX9_best_63 : decode cX9_best 63 = .ok (.iconst 0, 1) := by decide +kernel
theorem dX9_best_64 : decode cX9_best 64 = .ok (.istore 7, 2) := by decide +kernel
theorem dX9_best_66 : decode cX9_best 66 = .ok (.iload 7, 2) := by decide +kernel
theorem dX9_best_68 : decode cX9_best 68 = .ok (.aload_n 0, 1) := by decide +kernel
theorem dX9_best_69 : decode cX9_best 69 = .ok (.getfield 10, 3) := by decide +kernel
theorem dX9_best_72 : decode cX9_best 72 = .ok (.getfield 131, 3) := by decide +kernel
theorem dX9_best_75 : decode cX9_best 75 = .ok (.if_icmp .ge 32, 3) := by decide +kernel
theorem dX9_best_78 : decode cX9_best 78 = .ok (.iload 6, 2) := by decide +kernel
theorem dX9_best_80 : decode cX9_best 80 = .ok (.aload_n 0, 1) := by decide +kernel
theorem dX9_best_81 : decode cX9_best 81 = .ok (.getfield 69, 3) := by decide +kernel
theorem dX9_best_84 : decode cX9_best 84 = .ok (.iload 7, 2) := by decide +kernel
theorem dX9_best_86 : decode cX9_best 86 = .ok (.aaload, 1) := by decide +kernel
theorem dX9_best_87 : decode cX9_best 87 = .ok (.aload_n 0, 1) := by decide +kernel
theorem dX9_best_88 : decode cX9_best 88 = .ok (.getfield 56, 3) := by decide +kernel
theorem dX9_best_91 : decode cX9_best 91 = .ok (.getfield 242, 3) := by decide +kernel
theorem dX9_best_94 : decode cX9_best 94 = .ok (.iload 7, 2) := by decide +kernel
theorem dX9_best_96 : decode cX9_best 96 = .ok (.iaload, 1) := by decide +kernel
theorem dX9_best_97 : decode cX9_best 97 = .ok (.iaload, 1) := by decide +kernel
theorem dX9_best_98 : decode cX9_best 98 = .ok (.iadd, 1) := by decide +kernel
theorem dX9_best_99 : decode cX9_best 99 = .ok (.istore 6, 2) := by decide +kernel
theorem dX9_best_101 : decode cX9_best 101 = .ok (.iinc 7 1, 3) := by decide +kernel
theorem dX9_best_104 : decode cX9_best 104 = .ok (.goto (-38), 3) := by decide +kernel
theorem dX9_best_107 : decode cX9_best 107 = .ok (.iload 5, 2) := by decide +kernel
theorem dX9_best_109 : decode cX9_best 109 = .ok (.ifCond .eq 9, 3) := by decide +kernel
theorem dX9_best_112 : decode cX9_best 112 = .ok (.iload 6, 2) := by decide +kernel
theorem dX9_best_114 : decode cX9_best 114 = .ok (.iload_n 3, 1) := by decide +kernel
theorem dX9_best_115 : decode cX9_best 115 = .ok (.if_icmp .ge 15, 3) := by decide +kernel
theorem dX9_best_118 : decode cX9_best 118 = .ok (.iload 6, 2) := by decide +kernel
theorem dX9_best_120 : decode cX9_best 120 = .ok (.istore_n 3, 1) := by decide +kernel
theorem dX9_best_121 : decode cX9_best 121 = .ok (.aload_n 0, 1) := by decide +kernel
theorem dX9_best_122 : decode cX9_best 122 = .ok (.getfield 56, 3) := by decide +kernel
theorem dX9_best_125 : decode cX9_best 125 = .ok (.invokevirtual 245, 3) := by decide +kernel
theorem dX9_best_128 : decode cX9_best 128 = .ok (.istore 4, 2) := by decide +kernel
theorem dX9_best_130 : decode cX9_best 130 = .ok (.aload_n 0, 1) := by decide +kernel
theorem dX9_best_131 : decode cX9_best 131 = .ok (.getfield 56, 3) := by decide +kernel
theorem dX9_best_134 : decode cX9_best 134 = .ok (.invokevirtual 248, 3) := by decide +kernel
theorem dX9_best_137 : decode cX9_best 137 = .ok (.iinc 5 1, 3) := by decide +kernel
theorem dX9_best_140 : decode cX9_best 140 = .ok (.goto (-92), 3) := by decide +kernel
theorem dX9_best_143 : decode cX9_best 143 = .ok (.iload_n 2, 1) := by decide +kernel
theorem dX9_best_144 : decode cX9_best 144 = .ok (.ifCond .ne 8, 3) := by decide +kernel
theorem dX9_best_147 : decode cX9_best 147 = .ok (.iload 4, 2) := by decide +kernel
theorem dX9_best_149 : decode cX9_best 149 = .ok (.goto 4, 3) := by decide +kernel
theorem dX9_best_152 : decode cX9_best 152 = .ok (.iload_n 3, 1) := by decide +kernel
theorem dX9_best_153 : decode cX9_best 153 = .ok (.ireturn, 1) := by decide +kernel
theorem dX9_foreseeTempers_0 : decode cX9_foreseeTempers 0 = .ok (.iconst 0, 1) := by decide +kernel
theorem dX9_foreseeTempers_1 : decode cX9_foreseeTempers 1 = .ok (.istore_n 2, 1) := by decide +kernel
theorem dX9_foreseeTempers_2 : decode cX9_foreseeTempers 2 = .ok (.iload_n 2, 1) := by decide +kernel
theorem dX9_foreseeTempers_3 : decode cX9_foreseeTempers 3 = .ok (.aload_n 0, 1) := by decide +kernel
theorem dX9_foreseeTempers_4 : decode cX9_foreseeTempers 4 = .ok (.getfield 10, 3) := by decide +kernel
theorem dX9_foreseeTempers_7 : decode cX9_foreseeTempers 7 = .ok (.getfield 131, 3) := by decide +kernel
theorem dX9_foreseeTempers_10 : decode cX9_foreseeTempers 10 = .ok (.if_icmp .ge 68, 3) := by decide +kernel
theorem dX9_foreseeTempers_13 : decode cX9_foreseeTempers 13 = .ok (.iconst 0, 1) := by decide +kernel
theorem dX9_foreseeTempers_14 : decode cX9_foreseeTempers 14 = .ok (.istore_n 3, 1) := by decide +kernel
theorem dX9_foreseeTempers_15 : decode cX9_foreseeTempers 15 = .ok (.iload_n 3, 1) := by decide +kernel
theorem dX9_foreseeTempers_16 : decode cX9_foreseeTempers 16 = .ok (.aload_n 0, 1) := by decide +kernel
theorem dX9_foreseeTempers_17 : decode cX9_foreseeTempers 17 = .ok (.getfield 10, 3) := by decide +kernel
theorem dX9_foreseeTempers_20 : decode cX9_foreseeTempers 20 = .ok (.getfield 131, 3) := by decide +kernel
theorem dX9_foreseeTempers_23 : decode cX9_foreseeTempers 23 = .ok (.if_icmp .ge 49, 3) := by decide +kernel
theorem dX9_foreseeTempers_26 : decode cX9_foreseeTempers 26 = .ok (.aload_n 0, 1) := by decide +kernel
theorem dX9_foreseeTempers_27 : decode cX9_foreseeTempers 27 = .ok (.iload_n 2, 1) := by decide +kernel
theorem dX9_foreseeTempers_28 : decode cX9_foreseeTempers 28 = .ok (.iload_n 3, 1) := by decide +kernel
theorem dX9_foreseeTempers_29 : decode cX9_foreseeTempers 29 = .ok (.invokevirtual 179, 3) := by decide +kernel
theorem dX9_foreseeTempers_32 : decode cX9_foreseeTempers 32 = .ok (.aload_n 0, 1) := by decide +kernel
theorem dX9_foreseeTempers_33 : decode cX9_foreseeTempers 33 = .ok (.getfield 49, 3) := by decide +kernel
theorem dX9_foreseeTempers_36 : decode cX9_foreseeTempers 36 = .ok (.aload_n 0, 1) := by decide +kernel
theorem dX9_foreseeTempers_37 : decode cX9_foreseeTempers 37 = .ok (.invokevirtual 154, 3) := by decide +kernel
theorem dX9_foreseeTempers_40 : decode cX9_foreseeTempers 40 = .ok (.aload_n 0, 1) := by decide +kernel
theorem dX9_foreseeTempers_41 : decode cX9_foreseeTempers 41 = .ok (.getfield 10, 3) := by decide +kernel
theorem dX9_foreseeTempers_44 : decode cX9_foreseeTempers 44 = .ok (.getfield 109, 3) := by decide +kernel
theorem dX9_foreseeTempers_47 : decode cX9_foreseeTempers 47 = .ok (.iload_n 1, 1) := by decide +kernel
theorem dX9_foreseeTempers_48 : decode cX9_foreseeTempers 48 = .ok (.invokevirtual 194, 3) := by decide +kernel
theorem dX9_foreseeTempers_51 : decode cX9_foreseeTempers 51 = .ok (.aload_n 0, 1) := by decide +kernel
theorem dX9_foreseeTempers_52 : decode cX9_foreseeTempers 52 = .ok (.getfield 69, 3) := by decide +kernel
theorem dX9_foreseeTempers_55 : decode cX9_foreseeTempers 55 = .ok (.iload_n 2, 1) := by decide +kernel
theorem dX9_foreseeTempers_56 : decode cX9_foreseeTempers 56 = .ok (.aaload, 1) := by decide +kernel
theorem dX9_foreseeTempers_57 : decode cX9_foreseeTempers 57 = .ok (.iload_n 3, 1) := by decide +kernel
theorem dX9_foreseeTempers_58 : decode cX9_foreseeTempers 58 = .ok (.aload_n 0, 1) := by decide +kernel
theorem dX9_foreseeTempers_59 : decode cX9_foreseeTempers 59 = .ok (.getfield 49, 3) := by decide +kernel
theorem dX9_foreseeTempers_62 : decode cX9_foreseeTempers 62 = .ok (.getfield 170, 3) := by decide +kernel
theorem dX9_foreseeTempers_65 : decode cX9_foreseeTempers 65 = .ok (.iastore, 1) := by decide +kernel
theorem dX9_foreseeTempers_66 : decode cX9_foreseeTempers 66 = .ok (.iinc 3 1, 3) := by decide +kernel
theorem dX9_foreseeTempers_69 : decode cX9_foreseeTempers 69 = .ok (.goto (-54), 3) := by decide +kernel
theorem dX9_foreseeTempers_72 : decode cX9_foreseeTempers 72 = .ok (.iinc 2 1, 3) := by decide +kernel
theorem dX9_foreseeTempers_75 : decode cX9_foreseeTempers 75 = .ok (.goto (-73), 3) := by decide +kernel
theorem dX9_foreseeTempers_78 : decode cX9_foreseeTempers 78 = .ok (.return_, 1) := by decide +kernel
theorem dX9_warmerBy_0 : decode cX9_warmerBy 0 = .ok (.aload_n 0, 1) := by decide +kernel
theorem dX9_warmerBy_1 : decode cX9_warmerBy 1 = .ok (.getfield 10, 3) := by decide +kernel
theorem dX9_warmerBy_4 : decode cX9_warmerBy 4 = .ok (.getfield 112, 3) := by decide +kernel
theorem dX9_warmerBy_7 : decode cX9_warmerBy 7 = .ok (.iload_n 1, 1) := by decide +kernel
theorem dX9_warmerBy_8 : decode cX9_warmerBy 8 = .ok (.aaload, 1) := by decide +kernel
theorem dX9_warmerBy_9 : decode cX9_warmerBy 9 = .ok (.getfield 137, 3) := by decide +kernel
theorem dX9_warmerBy_12 : decode cX9_warmerBy 12 = .ok (.istore_n 3, 1) := by decide +kernel
theorem dX9_warmerBy_13 : decode cX9_warmerBy 13 = .ok (.aload_n 0, 1) := by decide +kernel
theorem dX9_warmerBy_14 : decode cX9_warmerBy 14 = .ok (.getfield 10, 3) := by decide +kernel
theorem dX9_warmerBy_17 : decode cX9_warmerBy 17 = .ok (.getfield 112, 3) := by decide +kernel
theorem dX9_warmerBy_20 : decode cX9_warmerBy 20 = .ok (.iload_n 2, 1) := by decide +kernel
theorem dX9_warmerBy_21 : decode cX9_warmerBy 21 = .ok (.aaload, 1) := by decide +kernel
theorem dX9_warmerBy_22 : decode cX9_warmerBy 22 = .ok (.getfield 137, 3) := by decide +kernel
theorem dX9_warmerBy_25 : decode cX9_warmerBy 25 = .ok (.istore 4, 2) := by decide +kernel
theorem dX9_warmerBy_27 : decode cX9_warmerBy 27 = .ok (.aload_n 0, 1) := by decide +kernel
theorem dX9_warmerBy_28 : decode cX9_warmerBy 28 = .ok (.getfield 69, 3) := by decide +kernel
theorem dX9_warmerBy_31 : decode cX9_warmerBy 31 = .ok (.iload_n 1, 1) := by decide +kernel
theorem dX9_warmerBy_32 : decode cX9_warmerBy 32 = .ok (.aaload, 1) := by decide +kernel
theorem dX9_warmerBy_33 : decode cX9_warmerBy 33 = .ok (.iload 4, 2) := by decide +kernel
theorem dX9_warmerBy_35 : decode cX9_warmerBy 35 = .ok (.iaload, 1) := by decide +kernel
theorem dX9_warmerBy_36 : decode cX9_warmerBy 36 = .ok (.aload_n 0, 1) := by decide +kernel
theorem dX9_warmerBy_37 : decode cX9_warmerBy 37 = .ok (.getfield 69, 3) := by decide +kernel
theorem dX9_warmerBy_40 : decode cX9_warmerBy 40 = .ok (.iload_n 2, 1) := by decide +kernel
theorem dX9_warmerBy_41 : decode cX9_warmerBy 41 = .ok (.aaload, 1) := by decide +kernel
theorem dX9_warmerBy_42 : decode cX9_warmerBy 42 = .ok (.iload_n 3, 1) := by decide +kernel
theorem dX9_warmerBy_43 : decode cX9_warmerBy 43 = .ok (.iaload, 1) := by decide +kernel
theorem dX9_warmerBy_44 : decode cX9_warmerBy 44 = .ok (.iadd, 1) := by decide +kernel
theorem dX9_warmerBy_45 : decode cX9_warmerBy 45 = .ok (.aload_n 0, 1) := by decide +kernel
theorem dX9_warmerBy_46 : decode cX9_warmerBy 46 = .ok (.getfield 69, 3) := by decide +kernel
theorem dX9_warmerBy_49 : decode cX9_warmerBy 49 = .ok (.iload_n 1, 1) := by decide +kernel
theorem dX9_warmerBy_50 : decode cX9_warmerBy 50 = .ok (.aaload, 1) := by decide +kernel
theorem dX9_warmerBy_51 : decode cX9_warmerBy 51 = .ok (.iload_n 3, 1) := by decide +kernel
theorem dX9_warmerBy_52 : decode cX9_warmerBy 52 = .ok (.iaload, 1) := by decide +kernel
theorem dX9_warmerBy_53 : decode cX9_warmerBy 53 = .ok (.isub, 1) := by decide +kernel
theorem dX9_warmerBy_54 : decode cX9_warmerBy 54 = .ok (.aload_n 0, 1) := by decide +kernel
theorem dX9_warmerBy_55 : decode cX9_warmerBy 55 = .ok (.getfield 69, 3) := by decide +kernel
theorem dX9_warmerBy_58 : decode cX9_warmerBy 58 = .ok (.iload_n 2, 1) := by decide +kernel
theorem dX9_warmerBy_59 : decode cX9_warmerBy 59 = .ok (.aaload, 1) := by decide +kernel
theorem dX9_warmerBy_60 : decode cX9_warmerBy 60 = .ok (.iload 4, 2) := by decide +kernel
theorem dX9_warmerBy_62 : decode cX9_warmerBy 62 = .ok (.iaload, 1) := by decide +kernel
theorem dX9_warmerBy_63 : decode cX9_warmerBy 63 = .ok (.isub, 1) := by decide +kernel
theorem dX9_warmerBy_64 : decode cX9_warmerBy 64 = .ok (.ireturn, 1) := by decide +kernel
theorem dX9_from_0 : decode cX9_from 0 = .ok (.aload_n 0, 1) := by decide +kernel
theorem dX9_from_1 : decode cX9_from 1 = .ok (.iload_n 1, 1) := by decide +kernel
theorem dX9_from_2 : decode cX9_from 2 = .ok (.invokevirtual 140, 3) := by decide +kernel
theorem dX9_from_5 : decode cX9_from 5 = .ok (.ifCond .ne 6, 3) := by decide +kernel
theorem dX9_from_8 : decode cX9_from 8 = .ok (.bipush (-2), 2) := by decide +kernel
theorem dX9_from_10 : decode cX9_from 10 = .ok (.ireturn, 1) := by decide +kernel
theorem dX9_from_11 : decode cX9_from 11 = .ok (.aload_n 0, 1) := by decide +kernel
theorem dX9_from_12 : decode cX9_from 12 = .ok (.invokevirtual 251, 3) := by decide +kernel
theorem dX9_from_15 : decode cX9_from 15 = .ok (.aload_n 0, 1) := by decide +kernel
theorem dX9_from_16 : decode cX9_from 16 = .ok (.getfield 63, 3) := by decide +kernel
theorem dX9_from_19 : decode cX9_from 19 = .ok (.invokevirtual 254, 3) := by decide +kernel
theorem dX9_from_22 : decode cX9_from 22 = .ok (.aload_n 0, 1) := by decide +kernel
theorem dX9_from_23 : decode cX9_from 23 = .ok (.getfield 63, 3) := by decide +kernel
theorem dX9_from_26 : decode cX9_from 26 = .ok (.getfield 257, 3) := by decide +kernel
theorem dX9_from_29 : decode cX9_from 29 = .ok (.iload_n 1, 1) := by decide +kernel
theorem dX9_from_30 : decode cX9_from 30 = .ok (.iaload, 1) := by decide +kernel
theorem dX9_from_31 : decode cX9_from 31 = .ok (.ireturn, 1) := by decide +kernel
theorem dX9_keys_0 : decode cX9_keys 0 = .ok (.aload_n 0, 1) := by decide +kernel
theorem dX9_keys_1 : decode cX9_keys 1 = .ok (.invokevirtual 251, 3) := by decide +kernel
theorem dX9_keys_4 : decode cX9_keys 4 = .ok (.aload_n 0, 1) := by decide +kernel
theorem dX9_keys_5 : decode cX9_keys 5 = .ok (.getfield 63, 3) := by decide +kernel
theorem dX9_keys_8 : decode cX9_keys 8 = .ok (.invokevirtual 254, 3) := by decide +kernel
theorem dX9_keys_11 : decode cX9_keys 11 = .ok (.iload_n 1, 1) := by decide +kernel
theorem dX9_keys_12 : decode cX9_keys 12 = .ok (.tableswitch 67 0 3 #[32, 40, 48, 56], 32) := by decide +kernel
theorem dX9_keys_44 : decode cX9_keys 44 = .ok (.aload_n 0, 1) := by decide +kernel
theorem dX9_keys_45 : decode cX9_keys 45 = .ok (.getfield 63, 3) := by decide +kernel
theorem dX9_keys_48 : decode cX9_keys 48 = .ok (.invokevirtual 260, 3) := by decide +kernel
theorem dX9_keys_51 : decode cX9_keys 51 = .ok (.ireturn, 1) := by decide +kernel
theorem dX9_keys_52 : decode cX9_keys 52 = .ok (.aload_n 0, 1) := by decide +kernel
theorem dX9_keys_53 : decode cX9_keys 53 = .ok (.getfield 63, 3) := by decide +kernel
theorem dX9_keys_56 : decode cX9_keys 56 = .ok (.invokevirtual 263, 3) := by decide +kernel
theorem dX9_keys_59 : decode cX9_keys 59 = .ok (.ireturn, 1) := by decide +kernel
theorem dX9_keys_60 : decode cX9_keys 60 = .ok (.aload_n 0, 1) := by decide +kernel
theorem dX9_keys_61 : decode cX9_keys 61 = .ok (.getfield 63, 3) := by decide +kernel
theorem dX9_keys_64 : decode cX9_keys 64 = .ok (.invokevirtual 266, 3) := by decide +kernel
theorem dX9_keys_67 : decode cX9_keys 67 = .ok (.ireturn, 1) := by decide +kernel
theorem dX9_keys_68 : decode cX9_keys 68 = .ok (.aload_n 0, 1) := by decide +kernel
theorem dX9_keys_69 : decode cX9_keys 69 = .ok (.getfield 63, 3) := by decide +kernel
theorem dX9_keys_72 : decode cX9_keys 72 = .ok (.invokevirtual 266, 3) := by decide +kernel
theorem dX9_keys_75 : decode cX9_keys 75 = .ok (.invokestatic 220, 3) := by decide +kernel
theorem dX9_keys_78 : decode cX9_keys 78 = .ok (.ireturn, 1) := by decide +kernel
theorem dX9_keys_79 : decode cX9_keys 79 = .ok (.bipush (-2), 2) := by decide +kernel
theorem dX9_keys_81 : decode cX9_keys 81 = .ok (.ireturn, 1) := by decide +kernel
theorem dX9_fillPockets_0 : decode cX9_fillPockets 0 = .ok (.aload_n 0, 1) := by decide +kernel
theorem dX9_fillPockets_1 : decode cX9_fillPockets 1 = .ok (.getfield 63, 3) := by decide +kernel
theorem dX9_fillPockets_4 : decode cX9_fillPockets 4 = .ok (.aload_n 0, 1) := by decide +kernel
theorem dX9_fillPockets_5 : decode cX9_fillPockets 5 = .ok (.getfield 10, 3) := by decide +kernel
theorem dX9_fillPockets_8 : decode cX9_fillPockets 8 = .ok (.getfield 131, 3) := by decide +kernel
theorem dX9_fillPockets_11 : decode cX9_fillPockets 11 = .ok (.putfield 269, 3) := by decide +kernel
theorem dX9_fillPockets_14 : decode cX9_fillPockets 14 = .ok (.iconst 0, 1) := by decide +kernel
theorem dX9_fillPockets_15 : decode cX9_fillPockets 15 = .ok (.istore_n 1, 1) := by decide +kernel
theorem dX9_fillPockets_16 : decode cX9_fillPockets 16 = .ok (.iload_n 1, 1) := by decide +kernel
theorem dX9_fillPockets_17 : decode cX9_fillPockets 17 = .ok (.aload_n 0, 1) := by decide +kernel
theorem dX9_fillPockets_18 : decode cX9_fillPockets 18 = .ok (.getfield 10, 3) := by decide +kernel
theorem dX9_fillPockets_21 : decode cX9_fillPockets 21 = .ok (.getfield 131, 3) := by decide +kernel
theorem dX9_fillPockets_24 : decode cX9_fillPockets 24 = .ok (.if_icmp .ge 51, 3) := by decide +kernel
theorem dX9_fillPockets_27 : decode cX9_fillPockets 27 = .ok (.aload_n 0, 1) := by decide +kernel
theorem dX9_fillPockets_28 : decode cX9_fillPockets 28 = .ok (.getfield 63, 3) := by decide +kernel
theorem dX9_fillPockets_31 : decode cX9_fillPockets 31 = .ok (.getfield 270, 3) := by decide +kernel
theorem dX9_fillPockets_34 : decode cX9_fillPockets 34 = .ok (.iload_n 1, 1) := by decide +kernel
theorem dX9_fillPockets_35 : decode cX9_fillPockets 35 = .ok (.aload_n 0, 1) := by decide +kernel
theorem dX9_fillPockets_36 : decode cX9_fillPockets 36 = .ok (.getfield 10, 3) := by decide +kernel
theorem dX9_fillPockets_39 : decode cX9_fillPockets 39 = .ok (.getfield 112, 3) := by decide +kernel
theorem dX9_fillPockets_42 : decode cX9_fillPockets 42 = .ok (.iload_n 1, 1) := by decide +kernel
theorem dX9_fillPockets_43 : decode cX9_fillPockets 43 = .ok (.aaload, 1) := by decide +kernel
theorem dX9_fillPockets_44 : decode cX9_fillPockets 44 = .ok (.getfield 116, 3) := by decide +kernel
theorem dX9_fillPockets_47 : decode cX9_fillPockets 47 = .ok (.iastore, 1) := by decide +kernel
theorem dX9_fillPockets_48 : decode cX9_fillPockets 48 = .ok (.aload_n 0, 1) := by decide +kernel
theorem dX9_fillPockets_49 : decode cX9_fillPockets 49 = .ok (.getfield 63, 3) := by decide +kernel
theorem dX9_fillPockets_52 : decode cX9_fillPockets 52 = .ok (.getfield 273, 3) := by decide +kernel
theorem dX9_fillPockets_55 : decode cX9_fillPockets 55 = .ok (.iload_n 1, 1) := by decide +kernel
theorem dX9_fillPockets_56 : decode cX9_fillPockets 56 = .ok (.aload_n 0, 1) := by decide +kernel
theorem dX9_fillPockets_57 : decode cX9_fillPockets 57 = .ok (.getfield 10, 3) := by decide +kernel
theorem dX9_fillPockets_60 : decode cX9_fillPockets 60 = .ok (.getfield 112, 3) := by decide +kernel
theorem dX9_fillPockets_63 : decode cX9_fillPockets 63 = .ok (.iload_n 1, 1) := by decide +kernel
theorem dX9_fillPockets_64 : decode cX9_fillPockets 64 = .ok (.aaload, 1) := by decide +kernel
theorem dX9_fillPockets_65 : decode cX9_fillPockets 65 = .ok (.getfield 121, 3) := by decide +kernel
theorem dX9_fillPockets_68 : decode cX9_fillPockets 68 = .ok (.iastore, 1) := by decide +kernel
theorem dX9_fillPockets_69 : decode cX9_fillPockets 69 = .ok (.iinc 1 1, 3) := by decide +kernel
theorem dX9_fillPockets_72 : decode cX9_fillPockets 72 = .ok (.goto (-56), 3) := by decide +kernel
theorem dX9_fillPockets_75 : decode cX9_fillPockets 75 = .ok (.return_, 1) := by decide +kernel
theorem dX9_tells_0 : decode cX9_tells 0 = .ok (.iload_n 2, 1) := by decide +kernel
theorem dX9_tells_1 : decode cX9_tells 1 = .ok (.bipush 10, 2) := by decide +kernel
theorem dX9_tells_3 : decode cX9_tells 3 = .ok (.if_icmp .lt 24, 3) := by decide +kernel
theorem dX9_tells_6 : decode cX9_tells 6 = .ok (.iload_n 2, 1) := by decide +kernel
theorem dX9_tells_7 : decode cX9_tells 7 = .ok (.bipush 40, 2) := by decide +kernel
theorem dX9_tells_9 : decode cX9_tells 9 = .ok (.if_icmp .ge 18, 3) := by decide +kernel
theorem dX9_tells_12 : decode cX9_tells 12 = .ok (.aload_n 0, 1) := by decide +kernel
theorem dX9_tells_13 : decode cX9_tells 13 = .ok (.iload_n 2, 1) := by decide +kernel
theorem dX9_tells_14 : decode cX9_tells 14 = .ok (.bipush 10, 2) := by decide +kernel
theorem dX9_tells_16 : decode cX9_tells 16 = .ok (.irem, 1) := by decide +kernel
theorem dX9_tells_17 : decode cX9_tells 17 = .ok (.invokevirtual 140, 3) := by decide +kernel
theorem dX9_tells_20 : decode cX9_tells 20 = .ok (.ifCond .eq 7, 3) := by decide +kernel
theorem dX9_tells_23 : decode cX9_tells 23 = .ok (.iconst 1, 1) := by decide +kernel
theorem dX9_tells_24 : decode cX9_tells 24 = .ok (.goto 4, 3) := by decide +kernel
theorem dX9_tells_27 : decode cX9_tells 27 = .ok (.iconst 0, 1) := by decide +kernel
theorem dX9_tells_28 : decode cX9_tells 28 = .ok (.istore_n 3, 1) := by decide +kernel
theorem dX9_tells_29 : decode cX9_tells 29 = .ok (.iload_n 1, 1) := by decide +kernel
theorem dX9_tells_30 : decode cX9_tells 30 = .ok (.invokestatic 276, 3) := by decide +kernel
theorem dX9_tells_33 : decode cX9_tells 33 = .ok (.ifCond .eq 16, 3) := by decide +kernel
theorem dX9_tells_36 : decode cX9_tells 36 = .ok (.iload_n 2, 1) := by decide +kernel
theorem dX9_tells_37 : decode cX9_tells 37 = .ok (.ifCond .lt 8, 3) := by decide +kernel
theorem dX9_tells_40 : decode cX9_tells 40 = .ok (.iload_n 2, 1) := by decide +kernel
theorem dX9_tells_41 : decode cX9_tells 41 = .ok (.iconst 4, 1) := by decide +kernel
theorem dX9_tells_42 : decode cX9_tells 42 = .ok (.if_icmp .le 10, 3) := by decide +kernel
theorem dX9_tells_45 : decode cX9_tells 45 = .ok (.iload_n 3, 1) := by decide +kernel
theorem dX9_tells_46 : decode cX9_tells 46 = .ok (.ifCond .ne 6, 3) := by decide +kernel
theorem dX9_tells_49 : decode cX9_tells 49 = .ok (.bipush (-2), 2) := by decide +kernel
theorem dX9_tells_51 : decode cX9_tells 51 = .ok (.ireturn, 1) := by decide +kernel
theorem dX9_tells_52 : decode cX9_tells 52 = .ok (.aload_n 0, 1) := by decide +kernel
theorem dX9_tells_53 : decode cX9_tells 53 = .ok (.getfield 42, 3) := by decide +kernel
theorem dX9_tells_56 : decode cX9_tells 56 = .ok (.iload_n 1, 1) := by decide +kernel
theorem dX9_tells_57 : decode cX9_tells 57 = .ok (.aaload, 1) := by decide +kernel
theorem dX9_tells_58 : decode cX9_tells 58 = .ok (.astore 4, 2) := by decide +kernel
theorem dX9_tells_60 : decode cX9_tells 60 = .ok (.aload 4, 2) := by decide +kernel
theorem dX9_tells_62 : decode cX9_tells 62 = .ok (.invokevirtual 279, 3) := by decide +kernel
theorem dX9_tells_65 : decode cX9_tells 65 = .ok (.ifCond .eq 6, 3) := by decide +kernel
theorem dX9_tells_68 : decode cX9_tells 68 = .ok (.bipush (-11), 2) := by decide +kernel
theorem dX9_tells_70 : decode cX9_tells 70 = .ok (.ireturn, 1) := by decide +kernel
theorem dX9_tells_71 : decode cX9_tells 71 = .ok (.aload 4, 2) := by decide +kernel
theorem dX9_tells_73 : decode cX9_tells 73 = .ok (.getfield 283, 3) := by decide +kernel
theorem dX9_tells_76 : decode cX9_tells 76 = .ok (.aload_n 0, 1) := by decide +kernel
theorem dX9_tells_77 : decode cX9_tells 77 = .ok (.getfield 10, 3) := by decide +kernel
theorem dX9_tells_80 : decode cX9_tells 80 = .ok (.getfield 131, 3) := by decide +kernel
theorem dX9_tells_83 : decode cX9_tells 83 = .ok (.if_icmp .eq 6, 3) := by decide +kernel
theorem dX9_tells_86 : decode cX9_tells 86 = .ok (.bipush (-2), 2) := by decide +kernel
theorem dX9_tells_88 : decode cX9_tells 88 = .ok (.ireturn, 1) := by decide +kernel
theorem dX9_tells_89 : decode cX9_tells 89 = .ok (.iload_n 3, 1) := by decide +kernel
theorem dX9_tells_90 : decode cX9_tells 90 = .ok (.ifCond .eq 18, 3) := by decide +kernel
theorem dX9_tells_93 : decode cX9_tells 93 = .ok (.aload_n 0, 1) := by decide +kernel
theorem dX9_tells_94 : decode cX9_tells 94 = .ok (.aload 4, 2) := by decide +kernel
theorem dX9_tells_96 : decode cX9_tells 96 = .ok (.iload_n 2, 1) := by decide +kernel
theorem dX9_tells_97 : decode cX9_tells 97 = .ok (.bipush 10, 2) := by decide +kernel
theorem dX9_tells_99 : decode cX9_tells 99 = .ok (.idiv, 1) := by decide +kernel
theorem dX9_tells_100 : decode cX9_tells 100 = .ok (.iload_n 2, 1) := by decide +kernel
theorem dX9_tells_101 : decode cX9_tells 101 = .ok (.bipush 10, 2) := by decide +kernel
theorem dX9_tells_103 : decode cX9_tells 103 = .ok (.irem, 1) := by decide +kernel
theorem dX9_tells_104 : decode cX9_tells 104 = .ok (.invokevirtual 284, 3) := by decide +kernel
theorem dX9_tells_107 : decode cX9_tells 107 = .ok (.ireturn, 1) := by decide +kernel
theorem dX9_tells_108 : decode cX9_tells 108 = .ok (.iload_n 2, 1) := by decide +kernel
theorem dX9_tells_109 : decode cX9_tells 109 = .ok (.lookupswitch 45 #[(0, 27), (4, 38)], 27) := by decide +kernel
theorem dX9_tells_136 : decode cX9_tells 136 = .ok (.aload_n 0, 1) := by decide +kernel
theorem dX9_tells_137 : decode cX9_tells 137 = .ok (.aload 4, 2) := by decide +kernel
theorem dX9_tells_139 : decode cX9_tells 139 = .ok (.aload_n 0, 1) := by decide +kernel
theorem dX9_tells_140 : decode cX9_tells 140 = .ok (.invokevirtual 154, 3) := by decide +kernel
theorem dX9_tells_143 : decode cX9_tells 143 = .ok (.invokevirtual 288, 3) := by decide +kernel
theorem dX9_tells_146 : decode cX9_tells 146 = .ok (.ireturn, 1) := by decide +kernel
theorem dX9_tells_147 : decode cX9_tells 147 = .ok (.aload_n 0, 1) := by decide +kernel
theorem dX9_tells_148 : decode cX9_tells 148 = .ok (.aload 4, 2) := by decide +kernel
theorem dX9_tells_150 : decode cX9_tells 150 = .ok (.invokevirtual 292, 3) := by decide +kernel
theorem dX9_tells_153 : decode cX9_tells 153 = .ok (.ireturn, 1) := by decide +kernel
theorem dX9_tells_154 : decode cX9_tells 154 = .ok (.aload_n 0, 1) := by decide +kernel
theorem dX9_tells_155 : decode cX9_tells 155 = .ok (.aload 4, 2) := by decide +kernel
theorem dX9_tells_157 : decode cX9_tells 157 = .ok (.iload_n 2, 1) := by decide +kernel
theorem dX9_tells_158 : decode cX9_tells 158 = .ok (.invokevirtual 296, 3) := by decide +kernel
theorem dX9_tells_161 : decode cX9_tells 161 = .ok (.ireturn, 1) := by decide +kernel
theorem dX9_otherwise_0 : decode cX9_otherwise 0 = .ok (.iconst 0, 1) := by decide +kernel
theorem dX9_otherwise_1 : decode cX9_otherwise 1 = .ok (.istore_n 3, 1) := by decide +kernel
theorem dX9_otherwise_2 : decode cX9_otherwise 2 = .ok (.iconst 0, 1) := by decide +kernel
theorem dX9_otherwise_3 : decode cX9_otherwise 3 = .ok (.istore 4, 2) := by decide +kernel
theorem dX9_otherwise_5 : decode cX9_otherwise 5 = .ok (.iload 4, 2) := by decide +kernel
theorem dX9_otherwise_7 : decode cX9_otherwise 7 = .ok (.aload_n 0, 1) := by decide +kernel
theorem dX9_otherwise_8 : decode cX9_otherwise 8 = .ok (.getfield 10, 3) := by decide +kernel
theorem dX9_otherwise_11 : decode cX9_otherwise 11 = .ok (.getfield 131, 3) := by decide +kernel
theorem dX9_otherwise_14 : decode cX9_otherwise 14 = .ok (.if_icmp .ge 40, 3) := by decide +kernel
theorem dX9_otherwise_17 : decode cX9_otherwise 17 = .ok (.aload_n 0, 1) := by decide +kernel
theorem dX9_otherwise_18 : decode cX9_otherwise 18 = .ok (.iload 4, 2) := by decide +kernel
theorem dX9_otherwise_20 : decode cX9_otherwise 20 = .ok (.invokevirtual 143, 3) := by decide +kernel
theorem dX9_otherwise_23 : decode cX9_otherwise 23 = .ok (.aload_n 0, 1) := by decide +kernel
theorem dX9_otherwise_24 : decode cX9_otherwise 24 = .ok (.getfield 49, 3) := by decide +kernel
theorem dX9_otherwise_27 : decode cX9_otherwise 27 = .ok (.aload_n 2, 1) := by decide +kernel
theorem dX9_otherwise_28 : decode cX9_otherwise 28 = .ok (.invokevirtual 164, 3) := by decide +kernel
theorem dX9_otherwise_31 : decode cX9_otherwise 31 = .ok (.aload_n 1, 1) := by decide +kernel
theorem dX9_otherwise_32 : decode cX9_otherwise 32 = .ok (.getfield 300, 3) := by decide +kernel
theorem dX9_otherwise_35 : decode cX9_otherwise 35 = .ok (.iload 4, 2) := by decide +kernel
theorem dX9_otherwise_37 : decode cX9_otherwise 37 = .ok (.iaload, 1) := by decide +kernel
theorem dX9_otherwise_38 : decode cX9_otherwise 38 = .ok (.if_icmp .eq 10, 3) := by decide +kernel
theorem dX9_otherwise_41 : decode cX9_otherwise 41 = .ok (.iload_n 3, 1) := by decide +kernel
theorem dX9_otherwise_42 : decode cX9_otherwise 42 = .ok (.iconst 1, 1) := by decide +kernel
theorem dX9_otherwise_43 : decode cX9_otherwise 43 = .ok (.iload 4, 2) := by decide +kernel
theorem dX9_otherwise_45 : decode cX9_otherwise 45 = .ok (.ishl, 1) := by decide +kernel
theorem dX9_otherwise_46 : decode cX9_otherwise 46 = .ok (.ior, 1) := by decide +kernel
theorem dX9_otherwise_47 : decode cX9_otherwise 47 = .ok (.istore_n 3, 1) := by decide +kernel
theorem dX9_otherwise_48 : decode cX9_otherwise 48 = .ok (.iinc 4 1, 3) := by decide +kernel
theorem dX9_otherwise_51 : decode cX9_otherwise 51 = .ok (.goto (-46), 3) := by decide +kernel
theorem dX9_otherwise_54 : decode cX9_otherwise 54 = .ok (.iload_n 3, 1) := by decide +kernel
theorem dX9_otherwise_55 : decode cX9_otherwise 55 = .ok (.ireturn, 1) := by decide +kernel
theorem dX9_textsBy_0 : decode cX9_textsBy 0 = .ok (.iconst 0, 1) := by decide +kernel
theorem dX9_textsBy_1 : decode cX9_textsBy 1 = .ok (.istore_n 2, 1) := by decide +kernel
theorem dX9_textsBy_2 : decode cX9_textsBy 2 = .ok (.iconst 0, 1) := by decide +kernel
theorem dX9_textsBy_3 : decode cX9_textsBy 3 = .ok (.istore_n 3, 1) := by decide +kernel
theorem dX9_textsBy_4 : decode cX9_textsBy 4 = .ok (.iload_n 3, 1) := by decide +kernel
theorem dX9_textsBy_5 : decode cX9_textsBy 5 = .ok (.aload_n 0, 1) := by decide +kernel
theorem dX9_textsBy_6 : decode cX9_textsBy 6 = .ok (.getfield 29, 3) := by decide +kernel
theorem dX9_textsBy_9 : decode cX9_textsBy 9 = .ok (.if_icmp .ge 29, 3) := by decide +kernel
theorem dX9_textsBy_12 : decode cX9_textsBy 12 = .ok (.aload_n 0, 1) := by decide +kernel
theorem dX9_textsBy_13 : decode cX9_textsBy 13 = .ok (.aload_n 1, 1) := by decide +kernel
theorem dX9_textsBy_14 : decode cX9_textsBy 14 = .ok (.aload_n 0, 1) := by decide +kernel
theorem dX9_textsBy_15 : decode cX9_textsBy 15 = .ok (.getfield 25, 3) := by decide +kernel
theorem dX9_textsBy_18 : decode cX9_textsBy 18 = .ok (.iload_n 3, 1) := by decide +kernel
theorem dX9_textsBy_19 : decode cX9_textsBy 19 = .ok (.aaload, 1) := by decide +kernel
theorem dX9_textsBy_20 : decode cX9_textsBy 20 = .ok (.invokevirtual 288, 3) := by decide +kernel
theorem dX9_textsBy_23 : decode cX9_textsBy 23 = .ok (.ifCond .ne 9, 3) := by decide +kernel
theorem dX9_textsBy_26 : decode cX9_textsBy 26 = .ok (.iload_n 2, 1) := by decide +kernel
theorem dX9_textsBy_27 : decode cX9_textsBy 27 = .ok (.iconst 1, 1) := by decide +kernel
theorem dX9_textsBy_28 : decode cX9_textsBy 28 = .ok (.iload_n 3, 1) := by decide +kernel
theorem dX9_textsBy_29 : decode cX9_textsBy 29 = .ok (.ishl, 1) := by decide +kernel
theorem dX9_textsBy_30 : decode cX9_textsBy 30 = .ok (.ior, 1) := by decide +kernel
theorem dX9_textsBy_31 : decode cX9_textsBy 31 = .ok (.istore_n 2, 1) := by decide +kernel
theorem dX9_textsBy_32 : decode cX9_textsBy 32 = .ok (.iinc 3 1, 3) := by decide +kernel
theorem dX9_textsBy_35 : decode cX9_textsBy 35 = .ok (.goto (-31), 3) := by decide +kernel
theorem dX9_textsBy_38 : decode cX9_textsBy 38 = .ok (.iload_n 2, 1) := by decide +kernel
theorem dX9_textsBy_39 : decode cX9_textsBy 39 = .ok (.ireturn, 1) := by decide +kernel
theorem dX9_wouldBeSo_0 : decode cX9_wouldBeSo 0 = .ok (.iload_n 2, 1) := by decide +kernel
theorem dX9_wouldBeSo_1 : decode cX9_wouldBeSo 1 = .ok (.iconst 3, 1) := by decide +kernel
theorem dX9_wouldBeSo_2 : decode cX9_wouldBeSo 2 = .ok (.if_icmp .ne 11, 3) := by decide +kernel
theorem dX9_wouldBeSo_5 : decode cX9_wouldBeSo 5 = .ok (.aload_n 0, 1) := by decide +kernel
theorem dX9_wouldBeSo_6 : decode cX9_wouldBeSo 6 = .ok (.iload_n 3, 1) := by decide +kernel
theorem dX9_wouldBeSo_7 : decode cX9_wouldBeSo 7 = .ok (.invokevirtual 303, 3) := by decide +kernel
theorem dX9_wouldBeSo_10 : decode cX9_wouldBeSo 10 = .ok (.goto 4, 3) := by decide +kernel
theorem dX9_wouldBeSo_13 : decode cX9_wouldBeSo 13 = .ok (.iload_n 3, 1) := by decide +kernel
theorem dX9_wouldBeSo_14 : decode cX9_wouldBeSo 14 = .ok (.istore 4, 2) := by decide +kernel
theorem dX9_wouldBeSo_16 : decode cX9_wouldBeSo 16 = .ok (.aload_n 0, 1) := by decide +kernel
theorem dX9_wouldBeSo_17 : decode cX9_wouldBeSo 17 = .ok (.aload_n 1, 1) := by decide +kernel
theorem dX9_wouldBeSo_18 : decode cX9_wouldBeSo 18 = .ok (.aload_n 0, 1) := by decide +kernel
theorem dX9_wouldBeSo_19 : decode cX9_wouldBeSo 19 = .ok (.invokevirtual 154, 3) := by decide +kernel
theorem dX9_wouldBeSo_22 : decode cX9_wouldBeSo 22 = .ok (.invokevirtual 288, 3) := by decide +kernel
theorem dX9_wouldBeSo_25 : decode cX9_wouldBeSo 25 = .ok (.iconst 1, 1) := by decide +kernel
theorem dX9_wouldBeSo_26 : decode cX9_wouldBeSo 26 = .ok (.iload 4, 2) := by decide +kernel
theorem dX9_wouldBeSo_28 : decode cX9_wouldBeSo 28 = .ok (.ishl, 1) := by decide +kernel
theorem dX9_wouldBeSo_29 : decode cX9_wouldBeSo 29 = .ok (.iconst (-1), 1) := by decide +kernel
theorem dX9_wouldBeSo_30 : decode cX9_wouldBeSo 30 = .ok (.ixor, 1) := by decide +kernel
theorem dX9_wouldBeSo_31 : decode cX9_wouldBeSo 31 = .ok (.iand, 1) := by decide +kernel
theorem dX9_wouldBeSo_32 : decode cX9_wouldBeSo 32 = .ok (.istore 5, 2) := by decide +kernel
theorem dX9_wouldBeSo_34 : decode cX9_wouldBeSo 34 = .ok (.iload 5, 2) := by decide +kernel
theorem dX9_wouldBeSo_36 : decode cX9_wouldBeSo 36 = .ok (.ifCond .eq 5, 3) := by decide +kernel
theorem dX9_wouldBeSo_39 : decode cX9_wouldBeSo 39 = .ok (.iconst 0, 1) := by decide +kernel
theorem dX9_wouldBeSo_40 : decode cX9_wouldBeSo 40 = .ok (.ireturn, 1) := by decide +kernel
theorem dX9_wouldBeSo_41 : decode cX9_wouldBeSo 41 = .ok (.iconst 0, 1) := by decide +kernel
theorem dX9_wouldBeSo_42 : decode cX9_wouldBeSo 42 = .ok (.istore 6, 2) := by decide +kernel
theorem dX9_wouldBeSo_44 : decode cX9_wouldBeSo 44 = .ok (.iload_n 2, 1) := by decide +kernel
theorem dX9_wouldBeSo_45 : decode cX9_wouldBeSo 45 = .ok (.iconst 1, 1) := by decide +kernel
theorem dX9_wouldBeSo_46 : decode cX9_wouldBeSo 46 = .ok (.if_icmp .ne 7, 3) := by decide +kernel
theorem dX9_wouldBeSo_49 : decode cX9_wouldBeSo 49 = .ok (.iconst 5, 1) := by decide +kernel
theorem dX9_wouldBeSo_50 : decode cX9_wouldBeSo 50 = .ok (.goto 15, 3) := by decide +kernel
theorem dX9_wouldBeSo_53 : decode cX9_wouldBeSo 53 = .ok (.iload_n 2, 1) := by decide +kernel
theorem dX9_wouldBeSo_54 : decode cX9_wouldBeSo 54 = .ok (.iconst 2, 1) := by decide +kernel
theorem dX9_wouldBeSo_55 : decode cX9_wouldBeSo 55 = .ok (.if_icmp .ne 8, 3) := by decide +kernel
theorem dX9_wouldBeSo_58 : decode cX9_wouldBeSo 58 = .ok (.bipush 9, 2) := by decide +kernel
theorem dX9_wouldBeSo_60 : decode cX9_wouldBeSo 60 = .ok (.goto 5, 3) := by decide +kernel
theorem dX9_wouldBeSo_63 : decode cX9_wouldBeSo 63 = .ok (.bipush 15, 2) := by decide +kernel
theorem dX9_wouldBeSo_65 : decode cX9_wouldBeSo 65 = .ok (.istore 7, 2) := by decide +kernel
theorem dX9_wouldBeSo_67 : decode cX9_wouldBeSo 67 = .ok (.aload_n 0, 1) := by decide +kernel
theorem dX9_wouldBeSo_68 : decode cX9_wouldBeSo 68 = .ok (.iload 4, 2) := by decide +kernel
theorem dX9_wouldBeSo_70 : decode cX9_wouldBeSo 70 = .ok (.invokevirtual 143, 3) := by decide +kernel
theorem dX9_wouldBeSo_73 : decode cX9_wouldBeSo 73 = .ok (.iconst 0, 1) := by decide +kernel
theorem dX9_wouldBeSo_74 : decode cX9_wouldBeSo 74 = .ok (.istore 8, 2) := by decide +kernel
theorem dX9_wouldBeSo_76 : decode cX9_wouldBeSo 76 = .ok (.iload 8, 2) := by decide +kernel
theorem dX9_wouldBeSo_78 : decode cX9_wouldBeSo 78 = .ok (.iload 7, 2) := by decide +kernel
theorem dX9_wouldBeSo_80 : decode cX9_wouldBeSo 80 = .ok (.if_icmp .gt 101, 3) := by decide +kernel
theorem dX9_wouldBeSo_83 : decode cX9_wouldBeSo 83 = .ok (.iload_n 2, 1) := by decide +kernel
theorem dX9_wouldBeSo_84 : decode cX9_wouldBeSo 84 = .ok (.lookupswitch 52 #[(1, 28), (2, 40)], 28) := by decide +kernel
theorem dX9_wouldBeSo_112 : decode cX9_wouldBeSo 112 = .ok (.aload_n 0, 1) := by decide +kernel
theorem dX9_wouldBeSo_113 : decode cX9_wouldBeSo 113 = .ok (.getfield 49, 3) := by decide +kernel
theorem dX9_wouldBeSo_116 : decode cX9_wouldBeSo 116 = .ok (.iload 8, 2) := by decide +kernel
theorem dX9_wouldBeSo_118 : decode cX9_wouldBeSo 118 = .ok (.putfield 147, 3) := by decide +kernel
theorem dX9_wouldBeSo_121 : decode cX9_wouldBeSo 121 = .ok (.goto 24, 3) := by decide +kernel
theorem dX9_wouldBeSo_124 : decode cX9_wouldBeSo 124 = .ok (.aload_n 0, 1) := by decide +kernel
theorem dX9_wouldBeSo_125 : decode cX9_wouldBeSo 125 = .ok (.getfield 49, 3) := by decide +kernel
theorem dX9_wouldBeSo_128 : decode cX9_wouldBeSo 128 = .ok (.iload 8, 2) := by decide +kernel
theorem dX9_wouldBeSo_130 : decode cX9_wouldBeSo 130 = .ok (.putfield 169, 3) := by decide +kernel
theorem dX9_wouldBeSo_133 : decode cX9_wouldBeSo 133 = .ok (.goto 12, 3) := by decide +kernel
theorem dX9_wouldBeSo_136 : decode cX9_wouldBeSo 136 = .ok (.aload_n 0, 1) := by decide +kernel
theorem dX9_wouldBeSo_137 : decode cX9_wouldBeSo 137 = .ok (.getfield 49, 3) := by decide +kernel
theorem dX9_wouldBeSo_140 : decode cX9_wouldBeSo 140 = .ok (.iload 8, 2) := by decide +kernel
theorem dX9_wouldBeSo_142 : decode cX9_wouldBeSo 142 = .ok (.putfield 151, 3) := by decide +kernel
theorem dX9_wouldBeSo_145 : decode cX9_wouldBeSo 145 = .ok (.aload_n 0, 1) := by decide +kernel
theorem dX9_wouldBeSo_146 : decode cX9_wouldBeSo 146 = .ok (.getfield 49, 3) := by decide +kernel
theorem dX9_wouldBeSo_149 : decode cX9_wouldBeSo 149 = .ok (.aload_n 0, 1) := by decide +kernel
theorem dX9_wouldBeSo_150 : decode cX9_wouldBeSo 150 = .ok (.invokevirtual 154, 3) := by decide +kernel
theorem dX9_wouldBeSo_153 : decode cX9_wouldBeSo 153 = .ok (.invokevirtual 164, 3) := by decide +kernel
theorem dX9_wouldBeSo_156 : decode cX9_wouldBeSo 156 = .ok (.aload_n 1, 1) := by decide +kernel
theorem dX9_wouldBeSo_157 : decode cX9_wouldBeSo 157 = .ok (.getfield 300, 3) := by decide +kernel
theorem dX9_wouldBeSo_160 : decode cX9_wouldBeSo 160 = .ok (.iload 4, 2) := by decide +kernel
theorem dX9_wouldBeSo_162 : decode cX9_wouldBeSo 162 = .ok (.iaload, 1) := by decide +kernel
theorem dX9_wouldBeSo_163 : decode cX9_wouldBeSo 163 = .ok (.if_icmp .ne 12, 3) := by decide +kernel
theorem dX9_wouldBeSo_166 : decode cX9_wouldBeSo 166 = .ok (.iload 6, 2) := by decide +kernel
theorem dX9_wouldBeSo_168 : decode cX9_wouldBeSo 168 = .ok (.iconst 1, 1) := by decide +kernel
theorem dX9_wouldBeSo_169 : decode cX9_wouldBeSo 169 = .ok (.iload 8, 2) := by decide +kernel
theorem dX9_wouldBeSo_171 : decode cX9_wouldBeSo 171 = .ok (.ishl, 1) := by decide +kernel
theorem dX9_wouldBeSo_172 : decode cX9_wouldBeSo 172 = .ok (.ior, 1) := by decide +kernel
theorem dX9_wouldBeSo_173 : decode cX9_wouldBeSo 173 = .ok (.istore 6, 2) := by decide +kernel
theorem dX9_wouldBeSo_175 : decode cX9_wouldBeSo 175 = .ok (.iinc 8 1, 3) := by decide +kernel
theorem dX9_wouldBeSo_178 : decode cX9_wouldBeSo 178 = .ok (.goto (-102), 3) := by decide +kernel
theorem dX9_wouldBeSo_181 : decode cX9_wouldBeSo 181 = .ok (.iload 6, 2) := by decide +kernel
theorem dX9_wouldBeSo_183 : decode cX9_wouldBeSo 183 = .ok (.ireturn, 1) := by decide +kernel
theorem dX9_wearerOf_0 : decode cX9_wearerOf 0 = .ok (.iconst 0, 1) := by decide +kernel
theorem dX9_wearerOf_1 : decode cX9_wearerOf 1 = .ok (.istore_n 2, 1) := by decide +kernel
theorem dX9_wearerOf_2 : decode cX9_wearerOf 2 = .ok (.iload_n 2, 1) := by decide +kernel
theorem dX9_wearerOf_3 : decode cX9_wearerOf 3 = .ok (.aload_n 0, 1) := by decide +kernel
theorem dX9_wearerOf_4 : decode cX9_wearerOf 4 = .ok (.getfield 10, 3) := by decide +kernel
theorem dX9_wearerOf_7 : decode cX9_wearerOf 7 = .ok (.getfield 131, 3) := by decide +kernel
theorem dX9_wearerOf_10 : decode cX9_wearerOf 10 = .ok (.if_icmp .ge 27, 3) := by decide +kernel
theorem dX9_wearerOf_13 : decode cX9_wearerOf 13 = .ok (.aload_n 0, 1) := by decide +kernel
theorem dX9_wearerOf_14 : decode cX9_wearerOf 14 = .ok (.getfield 10, 3) := by decide +kernel
theorem dX9_wearerOf_17 : decode cX9_wearerOf 17 = .ok (.getfield 112, 3) := by decide +kernel
theorem dX9_wearerOf_20 : decode cX9_wearerOf 20 = .ok (.iload_n 2, 1) := by decide +kernel
theorem dX9_wearerOf_21 : decode cX9_wearerOf 21 = .ok (.aaload, 1) := by decide +kernel
theorem dX9_wearerOf_22 : decode cX9_wearerOf 22 = .ok (.getfield 137, 3) := by decide +kernel
theorem dX9_wearerOf_25 : decode cX9_wearerOf 25 = .ok (.iload_n 1, 1) := by decide +kernel
theorem dX9_wearerOf_26 : decode cX9_wearerOf 26 = .ok (.if_icmp .ne 5, 3) := by decide +kernel
theorem dX9_wearerOf_29 : decode cX9_wearerOf 29 = .ok (.iload_n 2, 1) := by decide +kernel
theorem dX9_wearerOf_30 : decode cX9_wearerOf 30 = .ok (.ireturn, 1) := by decide +kernel
theorem dX9_wearerOf_31 : decode cX9_wearerOf 31 = .ok (.iinc 2 1, 3) := by decide +kernel
theorem dX9_wearerOf_34 : decode cX9_wearerOf 34 = .ok (.goto (-32), 3) := by decide +kernel
theorem dX9_wearerOf_37 : decode cX9_wearerOf 37 = .ok (.iload_n 1, 1) := by decide +kernel
theorem dX9_wearerOf_38 : decode cX9_wearerOf 38 = .ok (.ireturn, 1) := by decide +kernel
theorem dX9_waysBy_0 : decode cX9_waysBy 0 = .ok (.aload_n 0, 1) := by decide +kernel
theorem dX9_waysBy_1 : decode cX9_waysBy 1 = .ok (.aload_n 1, 1) := by decide +kernel
theorem dX9_waysBy_2 : decode cX9_waysBy 2 = .ok (.invokevirtual 306, 3) := by decide +kernel
theorem dX9_waysBy_5 : decode cX9_waysBy 5 = .ok (.aload_n 0, 1) := by decide +kernel
theorem dX9_waysBy_6 : decode cX9_waysBy 6 = .ok (.getfield 56, 3) := by decide +kernel
theorem dX9_waysBy_9 : decode cX9_waysBy 9 = .ok (.aload_n 0, 1) := by decide +kernel
theorem dX9_waysBy_10 : decode cX9_waysBy 10 = .ok (.getfield 10, 3) := by decide +kernel
theorem dX9_waysBy_13 : decode cX9_waysBy 13 = .ok (.getfield 131, 3) := by decide +kernel
theorem dX9_waysBy_16 : decode cX9_waysBy 16 = .ok (.invokevirtual 236, 3) := by decide +kernel
theorem dX9_waysBy_19 : decode cX9_waysBy 19 = .ok (.iconst 0, 1) := by decide +kernel
theorem dX9_waysBy_20 : decode cX9_waysBy 20 = .ok (.istore_n 3, 1) := by decide +kernel
theorem dX9_waysBy_21 : decode cX9_waysBy 21 = .ok (.iconst 0, 1) := by decide +kernel
theorem dX9_waysBy_22 : decode cX9_waysBy 22 = .ok (.istore 4, 2) := by decide +kernel
theorem dX9_waysBy_24 : decode cX9_waysBy 24 = .ok (.iconst 1, 1) := by decide +kernel
theorem dX9_waysBy_25 : decode cX9_waysBy 25 = .ok (.aload_n 0, 1) := by decide +kernel
theorem dX9_waysBy_26 : decode cX9_waysBy 26 = .ok (.getfield 10, 3) := by decide +kernel
theorem dX9_waysBy_29 : decode cX9_waysBy 29 = .ok (.getfield 131, 3) := by decide +kernel
theorem dX9_waysBy_32 : decode cX9_waysBy 32 = .ok (.ishl, 1) := by decide +kernel
theorem dX9_waysBy_33 : decode cX9_waysBy 33 = .ok (.iconst 1, 1) := by decide +kernel
theorem dX9_waysBy_34 : decode cX9_waysBy 34 = .ok (.isub, 1) := by decide +kernel
theorem dX9_waysBy_35 : decode cX9_waysBy 35 = .ok (.istore 5, 2) := by decide +kernel
theorem dX9_waysBy_37 : decode cX9_waysBy 37 = .ok (.iconst 0, 1) := by decide +kernel
theorem dX9_waysBy_38 : decode cX9_waysBy 38 = .ok (.istore 6, 2) := by decide +kernel
theorem dX9_waysBy_40 : decode cX9_waysBy 40 = .ok (.iload 6, 2) := by decide +kernel
theorem dX9_waysBy_42 : decode cX9_waysBy 42 = .ok (.aload_n 0, 1) := by decide +kernel
theorem dX9_waysBy_43 : decode cX9_waysBy 43 = .ok (.getfield 56, 3) := by decide +kernel
theorem dX9_waysBy_46 : decode cX9_waysBy 46 = .ok (.getfield 239, 3) := by decide +kernel
theorem dX9_waysBy_49 : decode cX9_waysBy 49 = .ok (.if_icmp .ge 66, 3) := by decide +kernel
theorem dX9_waysBy_52 : decode cX9_waysBy 52 = .ok (.aload_n 0, 1) := by decide +kernel
theorem dX9_waysBy_53 : decode cX9_waysBy 53 = .ok (.getfield 56, 3) := by decide +kernel
theorem dX9_waysBy_56 : decode cX9_waysBy 56 = .ok (.aload_n 0, 1) := by decide +kernel
theorem dX9_waysBy_57 : decode cX9_waysBy 57 = .ok (.getfield 72, 3) := by decide +kernel
theorem dX9_waysBy_60 : decode cX9_waysBy 60 = .ok (.invokevirtual 310, 3) := by decide +kernel
theorem dX9_waysBy_63 : decode cX9_waysBy 63 = .ok (.ifCond .eq 39, 3) := by decide +kernel
theorem dX9_waysBy_66 : decode cX9_waysBy 66 = .ok (.iinc 3 1, 3) := by decide +kernel
theorem dX9_waysBy_69 : decode cX9_waysBy 69 = .ok (.iload_n 3, 1) := by decide +kernel
theorem dX9_waysBy_70 : decode cX9_waysBy 70 = .ok (.iconst 1, 1) := by decide +kernel
theorem dX9_waysBy_71 : decode cX9_waysBy 71 = .ok (.if_icmp .ne 19, 3) := by decide +kernel
theorem dX9_waysBy_74 : decode cX9_waysBy 74 = .ok (.aload_n 0, 1) := by decide +kernel
theorem dX9_waysBy_75 : decode cX9_waysBy 75 = .ok (.getfield 56, 3) := by decide +kernel
theorem dX9_waysBy_78 : decode cX9_waysBy 78 = .ok (.invokevirtual 245, 3) := by decide +kernel
theorem dX9_waysBy_81 : decode cX9_waysBy 81 = .ok (.istore 4, 2) := by decide +kernel
theorem dX9_waysBy_83 : decode cX9_waysBy 83 = .ok (.aload_n 0, 1) := by decide +kernel
theorem dX9_waysBy_84 : decode cX9_waysBy 84 = .ok (.getfield 56, 3) := by decide +kernel
theorem dX9_waysBy_87 : decode cX9_waysBy 87 = .ok (.invokevirtual 314, 3) := by decide +kernel
theorem dX9_waysBy_90 : decode cX9_waysBy 90 = .ok (.iload 5, 2) := by decide +kernel
theorem dX9_waysBy_92 : decode cX9_waysBy 92 = .ok (.aload_n 0, 1) := by decide +kernel
theorem dX9_waysBy_93 : decode cX9_waysBy 93 = .ok (.getfield 56, 3) := by decide +kernel
theorem dX9_waysBy_96 : decode cX9_waysBy 96 = .ok (.invokevirtual 317, 3) := by decide +kernel
theorem dX9_waysBy_99 : decode cX9_waysBy 99 = .ok (.iand, 1) := by decide +kernel
theorem dX9_waysBy_100 : decode cX9_waysBy 100 = .ok (.istore 5, 2) := by decide +kernel
theorem dX9_waysBy_102 : decode cX9_waysBy 102 = .ok (.aload_n 0, 1) := by decide +kernel
theorem dX9_waysBy_103 : decode cX9_waysBy 103 = .ok (.getfield 56, 3) := by decide +kernel
theorem dX9_waysBy_106 : decode cX9_waysBy 106 = .ok (.invokevirtual 248, 3) := by decide +kernel
theorem dX9_waysBy_109 : decode cX9_waysBy 109 = .ok (.iinc 6 1, 3) := by decide +kernel
theorem dX9_waysBy_112 : decode cX9_waysBy 112 = .ok (.goto (-72), 3) := by decide +kernel
theorem dX9_waysBy_115 : decode cX9_waysBy 115 = .ok (.iload_n 2, 1) := by decide +kernel
theorem dX9_waysBy_116 : decode cX9_waysBy 116 = .ok (.lookupswitch 33 #[(1, 28), (2, 30)], 28) := by decide +kernel
theorem dX9_waysBy_144 : decode cX9_waysBy 144 = .ok (.iload_n 3, 1) := by decide +kernel
theorem dX9_waysBy_145 : decode cX9_waysBy 145 = .ok (.ireturn, 1) := by decide +kernel
theorem dX9_waysBy_146 : decode cX9_waysBy 146 = .ok (.iload 4, 2) := by decide +kernel
theorem dX9_waysBy_148 : decode cX9_waysBy 148 = .ok (.ireturn, 1) := by decide +kernel
theorem dX9_waysBy_149 : decode cX9_waysBy 149 = .ok (.iload_n 3, 1) := by decide +kernel
theorem dX9_waysBy_150 : decode cX9_waysBy 150 = .ok (.ifCond .ne 7, 3) := by decide +kernel
theorem dX9_waysBy_153 : decode cX9_waysBy 153 = .ok (.iconst 0, 1) := by decide +kernel
theorem dX9_waysBy_154 : decode cX9_waysBy 154 = .ok (.goto 5, 3) := by decide +kernel
theorem dX9_waysBy_157 : decode cX9_waysBy 157 = .ok (.iload 5, 2) := by decide +kernel
theorem dX9_waysBy_159 : decode cX9_waysBy 159 = .ok (.ireturn, 1) := by decide +kernel
theorem dX9_fitCoats_0 : decode cX9_fitCoats 0 = .ok (.iconst 0, 1) := by decide +kernel
theorem dX9_fitCoats_1 : decode cX9_fitCoats 1 = .ok (.istore_n 2, 1) := by decide +kernel
theorem dX9_fitCoats_2 : decode cX9_fitCoats 2 = .ok (.iload_n 2, 1) := by decide +kernel
theorem dX9_fitCoats_3 : decode cX9_fitCoats 3 = .ok (.aload_n 0, 1) := by decide +kernel
theorem dX9_fitCoats_4 : decode cX9_fitCoats 4 = .ok (.getfield 10, 3) := by decide +kernel
theorem dX9_fitCoats_7 : decode cX9_fitCoats 7 = .ok (.getfield 131, 3) := by decide +kernel
theorem dX9_fitCoats_10 : decode cX9_fitCoats 10 = .ok (.if_icmp .ge 73, 3) := by decide +kernel
theorem dX9_fitCoats_13 : decode cX9_fitCoats 13 = .ok (.aload_n 0, 1) := by decide +kernel
theorem dX9_fitCoats_14 : decode cX9_fitCoats 14 = .ok (.getfield 72, 3) := by decide +kernel
theorem dX9_fitCoats_17 : decode cX9_fitCoats 17 = .ok (.iload_n 2, 1) := by decide +kernel
theorem dX9_fitCoats_18 : decode cX9_fitCoats 18 = .ok (.iconst 0, 1) := by decide +kernel
theorem dX9_fitCoats_19 : decode cX9_fitCoats 19 = .ok (.iastore, 1) := by decide +kernel
theorem dX9_fitCoats_20 : decode cX9_fitCoats 20 = .ok (.iconst 0, 1) := by decide +kernel
theorem dX9_fitCoats_21 : decode cX9_fitCoats 21 = .ok (.istore_n 3, 1) := by decide +kernel
theorem dX9_fitCoats_22 : decode cX9_fitCoats 22 = .ok (.iload_n 3, 1) := by decide +kernel
theorem dX9_fitCoats_23 : decode cX9_fitCoats 23 = .ok (.aload_n 0, 1) := by decide +kernel
theorem dX9_fitCoats_24 : decode cX9_fitCoats 24 = .ok (.getfield 10, 3) := by decide +kernel
theorem dX9_fitCoats_27 : decode cX9_fitCoats 27 = .ok (.getfield 131, 3) := by decide +kernel
theorem dX9_fitCoats_30 : decode cX9_fitCoats 30 = .ok (.if_icmp .ge 47, 3) := by decide +kernel
theorem dX9_fitCoats_33 : decode cX9_fitCoats 33 = .ok (.aload_n 0, 1) := by decide +kernel
theorem dX9_fitCoats_34 : decode cX9_fitCoats 34 = .ok (.iload_n 2, 1) := by decide +kernel
theorem dX9_fitCoats_35 : decode cX9_fitCoats 35 = .ok (.iload_n 3, 1) := by decide +kernel
theorem dX9_fitCoats_36 : decode cX9_fitCoats 36 = .ok (.invokevirtual 179, 3) := by decide +kernel
theorem dX9_fitCoats_39 : decode cX9_fitCoats 39 = .ok (.aload_n 0, 1) := by decide +kernel
theorem dX9_fitCoats_40 : decode cX9_fitCoats 40 = .ok (.getfield 49, 3) := by decide +kernel
theorem dX9_fitCoats_43 : decode cX9_fitCoats 43 = .ok (.aload_n 0, 1) := by decide +kernel
theorem dX9_fitCoats_44 : decode cX9_fitCoats 44 = .ok (.invokevirtual 154, 3) := by decide +kernel
theorem dX9_fitCoats_47 : decode cX9_fitCoats 47 = .ok (.invokevirtual 164, 3) := by decide +kernel
theorem dX9_fitCoats_50 : decode cX9_fitCoats 50 = .ok (.aload_n 1, 1) := by decide +kernel
theorem dX9_fitCoats_51 : decode cX9_fitCoats 51 = .ok (.getfield 300, 3) := by decide +kernel
theorem dX9_fitCoats_54 : decode cX9_fitCoats 54 = .ok (.iload_n 2, 1) := by decide +kernel
theorem dX9_fitCoats_55 : decode cX9_fitCoats 55 = .ok (.iaload, 1) := by decide +kernel
theorem dX9_fitCoats_56 : decode cX9_fitCoats 56 = .ok (.if_icmp .ne 15, 3) := by decide +kernel
theorem dX9_fitCoats_59 : decode cX9_fitCoats 59 = .ok (.aload_n 0, 1) := by decide +kernel
theorem dX9_fitCoats_60 : decode cX9_fitCoats 60 = .ok (.getfield 72, 3) := by decide +kernel
theorem dX9_fitCoats_63 : decode cX9_fitCoats 63 = .ok (.iload_n 2, 1) := by decide +kernel
theorem dX9_fitCoats_64 : decode cX9_fitCoats 64 = .ok (.dup2, 1) := by decide +kernel
theorem dX9_fitCoats_65 : decode cX9_fitCoats 65 = .ok (.iaload, 1) := by decide +kernel
theorem dX9_fitCoats_66 : decode cX9_fitCoats 66 = .ok (.iconst 1, 1) := by decide +kernel
theorem dX9_fitCoats_67 : decode cX9_fitCoats 67 = .ok (.iload_n 3, 1) := by decide +kernel
theorem dX9_fitCoats_68 : decode cX9_fitCoats 68 = .ok (.ishl, 1) := by decide +kernel
theorem dX9_fitCoats_69 : decode cX9_fitCoats 69 = .ok (.ior, 1) := by decide +kernel
theorem dX9_fitCoats_70 : decode cX9_fitCoats 70 = .ok (.iastore, 1) := by decide +kernel
theorem dX9_fitCoats_71 : decode cX9_fitCoats 71 = .ok (.iinc 3 1, 3) := by decide +kernel
theorem dX9_fitCoats_74 : decode cX9_fitCoats 74 = .ok (.goto (-52), 3) := by decide +kernel
theorem dX9_fitCoats_77 : decode cX9_fitCoats 77 = .ok (.iinc 2 1, 3) := by decide +kernel
theorem dX9_fitCoats_80 : decode cX9_fitCoats 80 = .ok (.goto (-78), 3) := by decide +kernel
theorem dX9_fitCoats_83 : decode cX9_fitCoats 83 = .ok (.return_, 1) := by decide +kernel
theorem dX9_film_0 : decode cX9_film 0 = .ok (.iload_n 1, 1) := by decide +kernel
theorem dX9_film_1 : decode cX9_film 1 = .ok (.invokestatic 276, 3) := by decide +kernel
theorem dX9_film_4 : decode cX9_film 4 = .ok (.ifCond .ne 6, 3) := by decide +kernel
theorem dX9_film_7 : decode cX9_film 7 = .ok (.bipush (-2), 2) := by decide +kernel
theorem dX9_film_9 : decode cX9_film 9 = .ok (.ireturn, 1) := by decide +kernel
theorem dX9_film_10 : decode cX9_film 10 = .ok (.aload_n 0, 1) := by decide +kernel
theorem dX9_film_11 : decode cX9_film 11 = .ok (.getfield 42, 3) := by decide +kernel
theorem dX9_film_14 : decode cX9_film 14 = .ok (.iload_n 1, 1) := by decide +kernel
theorem dX9_film_15 : decode cX9_film 15 = .ok (.aaload, 1) := by decide +kernel
theorem dX9_film_16 : decode cX9_film 16 = .ok (.astore_n 2, 1) := by decide +kernel
theorem dX9_film_17 : decode cX9_film 17 = .ok (.aload_n 2, 1) := by decide +kernel
theorem dX9_film_18 : decode cX9_film 18 = .ok (.iconst 0, 1) := by decide +kernel
theorem dX9_film_19 : decode cX9_film 19 = .ok (.aload_n 0, 1) := by decide +kernel
theorem dX9_film_20 : decode cX9_film 20 = .ok (.getfield 10, 3) := by decide +kernel
theorem dX9_film_23 : decode cX9_film 23 = .ok (.getfield 131, 3) := by decide +kernel
theorem dX9_film_26 : decode cX9_film 26 = .ok (.invokevirtual 320, 3) := by decide +kernel
theorem dX9_film_29 : decode cX9_film 29 = .ok (.iconst 0, 1) := by decide +kernel
theorem dX9_film_30 : decode cX9_film 30 = .ok (.istore_n 3, 1) := by decide +kernel
theorem dX9_film_31 : decode cX9_film 31 = .ok (.iload_n 3, 1) := by decide +kernel
theorem dX9_film_32 : decode cX9_film 32 = .ok (.aload_n 0, 1) := by decide +kernel
theorem dX9_film_33 : decode cX9_film 33 = .ok (.getfield 10, 3) := by decide +kernel
theorem dX9_film_36 : decode cX9_film 36 = .ok (.getfield 131, 3) := by decide +kernel
theorem dX9_film_39 : decode cX9_film 39 = .ok (.if_icmp .ge 30, 3) := by decide +kernel
theorem dX9_film_42 : decode cX9_film 42 = .ok (.aload_n 0, 1) := by decide +kernel
theorem dX9_film_43 : decode cX9_film 43 = .ok (.iload_n 3, 1) := by decide +kernel
theorem dX9_film_44 : decode cX9_film 44 = .ok (.invokevirtual 143, 3) := by decide +kernel
theorem dX9_film_47 : decode cX9_film 47 = .ok (.aload_n 2, 1) := by decide +kernel
theorem dX9_film_48 : decode cX9_film 48 = .ok (.iload_n 3, 1) := by decide +kernel
theorem dX9_film_49 : decode cX9_film 49 = .ok (.aload_n 0, 1) := by decide +kernel
theorem dX9_film_50 : decode cX9_film 50 = .ok (.getfield 49, 3) := by decide +kernel
theorem dX9_film_53 : decode cX9_film 53 = .ok (.aload_n 0, 1) := by decide +kernel
theorem dX9_film_54 : decode cX9_film 54 = .ok (.invokevirtual 154, 3) := by decide +kernel
theorem dX9_film_57 : decode cX9_film 57 = .ok (.invokevirtual 164, 3) := by decide +kernel
theorem dX9_film_60 : decode cX9_film 60 = .ok (.invokevirtual 323, 3) := by decide +kernel
theorem dX9_film_63 : decode cX9_film 63 = .ok (.iinc 3 1, 3) := by decide +kernel
theorem dX9_film_66 : decode cX9_film 66 = .ok (.goto (-35), 3) := by decide +kernel
theorem dX9_film_69 : decode cX9_film 69 = .ok (.aload_n 0, 1) := by decide +kernel
theorem dX9_film_70 : decode cX9_film 70 = .ok (.getfield 10, 3) := by decide +kernel
theorem dX9_film_73 : decode cX9_film 73 = .ok (.getfield 131, 3) := by decide +kernel
theorem dX9_film_76 : decode cX9_film 76 = .ok (.ireturn, 1) := by decide +kernel
theorem dX9_drawn_0 : decode cX9_drawn 0 = .ok (.iload_n 2, 1) := by decide +kernel
theorem dX9_drawn_1 : decode cX9_drawn 1 = .ok (.bipush 40, 2) := by decide +kernel
theorem dX9_drawn_3 : decode cX9_drawn 3 = .ok (.invokestatic 191, 3) := by decide +kernel
theorem dX9_drawn_6 : decode cX9_drawn 6 = .ok (.ifCond .ne 6, 3) := by decide +kernel
theorem dX9_drawn_9 : decode cX9_drawn 9 = .ok (.bipush (-2), 2) := by decide +kernel
theorem dX9_drawn_11 : decode cX9_drawn 11 = .ok (.ireturn, 1) := by decide +kernel
theorem dX9_drawn_12 : decode cX9_drawn 12 = .ok (.aload_n 0, 1) := by decide +kernel
theorem dX9_drawn_13 : decode cX9_drawn 13 = .ok (.invokevirtual 251, 3) := by decide +kernel
theorem dX9_drawn_16 : decode cX9_drawn 16 = .ok (.aload_n 0, 1) := by decide +kernel
theorem dX9_drawn_17 : decode cX9_drawn 17 = .ok (.getfield 63, 3) := by decide +kernel
theorem dX9_drawn_20 : decode cX9_drawn 20 = .ok (.iload_n 1, 1) := by decide +kernel
theorem dX9_drawn_21 : decode cX9_drawn 21 = .ok (.invokevirtual 326, 3) := by decide +kernel
theorem dX9_drawn_24 : decode cX9_drawn 24 = .ok (.iconst 0, 1) := by decide +kernel
theorem dX9_drawn_25 : decode cX9_drawn 25 = .ok (.istore_n 3, 1) := by decide +kernel
theorem dX9_drawn_26 : decode cX9_drawn 26 = .ok (.iconst 0, 1) := by decide +kernel
theorem dX9_drawn_27 : decode cX9_drawn 27 = .ok (.istore 4, 2) := by decide +kernel
theorem dX9_drawn_29 : decode cX9_drawn 29 = .ok (.iload 4, 2) := by decide +kernel
theorem dX9_drawn_31 : decode cX9_drawn 31 = .ok (.aload_n 0, 1) := by decide +kernel
theorem dX9_drawn_32 : decode cX9_drawn 32 = .ok (.getfield 10, 3) := by decide +kernel
theorem dX9_drawn_35 : decode cX9_drawn 35 = .ok (.getfield 131, 3) := by decide +kernel
theorem dX9_drawn_38 : decode cX9_drawn 38 = .ok (.if_icmp .ge 71, 3) := by decide +kernel
theorem dX9_drawn_41 : decode cX9_drawn 41 = .ok (.aload_n 0, 1) := by decide +kernel
theorem dX9_drawn_42 : decode cX9_drawn 42 = .ok (.getfield 10, 3) := by decide +kernel
theorem dX9_drawn_45 : decode cX9_drawn 45 = .ok (.getfield 112, 3) := by decide +kernel
theorem dX9_drawn_48 : decode cX9_drawn 48 = .ok (.iload 4, 2) := by decide +kernel
theorem dX9_drawn_50 : decode cX9_drawn 50 = .ok (.aaload, 1) := by decide +kernel
theorem dX9_drawn_51 : decode cX9_drawn 51 = .ok (.getfield 137, 3) := by decide +kernel
theorem dX9_drawn_54 : decode cX9_drawn 54 = .ok (.istore 5, 2) := by decide +kernel
theorem dX9_drawn_56 : decode cX9_drawn 56 = .ok (.aload_n 0, 1) := by decide +kernel
theorem dX9_drawn_57 : decode cX9_drawn 57 = .ok (.iload 4, 2) := by decide +kernel
theorem dX9_drawn_59 : decode cX9_drawn 59 = .ok (.iload 5, 2) := by decide +kernel
theorem dX9_drawn_61 : decode cX9_drawn 61 = .ok (.aload_n 0, 1) := by decide +kernel
theorem dX9_drawn_62 : decode cX9_drawn 62 = .ok (.getfield 63, 3) := by decide +kernel
theorem dX9_drawn_65 : decode cX9_drawn 65 = .ok (.getfield 273, 3) := by decide +kernel
theorem dX9_drawn_68 : decode cX9_drawn 68 = .ok (.iload 5, 2) := by decide +kernel
theorem dX9_drawn_70 : decode cX9_drawn 70 = .ok (.iaload, 1) := by decide +kernel
theorem dX9_drawn_71 : decode cX9_drawn 71 = .ok (.invokevirtual 175, 3) := by decide +kernel
theorem dX9_drawn_74 : decode cX9_drawn 74 = .ok (.aload_n 0, 1) := by decide +kernel
theorem dX9_drawn_75 : decode cX9_drawn 75 = .ok (.getfield 49, 3) := by decide +kernel
theorem dX9_drawn_78 : decode cX9_drawn 78 = .ok (.aload_n 0, 1) := by decide +kernel
theorem dX9_drawn_79 : decode cX9_drawn 79 = .ok (.invokevirtual 154, 3) := by decide +kernel
theorem dX9_drawn_82 : decode cX9_drawn 82 = .ok (.aload_n 0, 1) := by decide +kernel
theorem dX9_drawn_83 : decode cX9_drawn 83 = .ok (.getfield 10, 3) := by decide +kernel
theorem dX9_drawn_86 : decode cX9_drawn 86 = .ok (.getfield 109, 3) := by decide +kernel
theorem dX9_drawn_89 : decode cX9_drawn 89 = .ok (.iload_n 2, 1) := by decide +kernel
theorem dX9_drawn_90 : decode cX9_drawn 90 = .ok (.invokevirtual 194, 3) := by decide +kernel
theorem dX9_drawn_93 : decode cX9_drawn 93 = .ok (.iload_n 3, 1) := by decide +kernel
theorem dX9_drawn_94 : decode cX9_drawn 94 = .ok (.aload_n 0, 1) := by decide +kernel
theorem dX9_drawn_95 : decode cX9_drawn 95 = .ok (.getfield 49, 3) := by decide +kernel
theorem dX9_drawn_98 : decode cX9_drawn 98 = .ok (.getfield 170, 3) := by decide +kernel
theorem dX9_drawn_101 : decode cX9_drawn 101 = .ok (.iadd, 1) := by decide +kernel
theorem dX9_drawn_102 : decode cX9_drawn 102 = .ok (.istore_n 3, 1) := by decide +kernel
theorem dX9_drawn_103 : decode cX9_drawn 103 = .ok (.iinc 4 1, 3) := by decide +kernel
theorem dX9_drawn_106 : decode cX9_drawn 106 = .ok (.goto (-77), 3) := by decide +kernel
theorem dX9_drawn_109 : decode cX9_drawn 109 = .ok (.iload_n 3, 1) := by decide +kernel
theorem dX9_drawn_110 : decode cX9_drawn 110 = .ok (.ireturn, 1) := by decide +kernel
theorem dX9_chance_0 : decode cX9_chance 0 = .ok (.iload_n 2, 1) := by decide +kernel
theorem dX9_chance_1 : decode cX9_chance 1 = .ok (.iconst 1, 1) := by decide +kernel
theorem dX9_chance_2 : decode cX9_chance 2 = .ok (.if_icmp .lt 18, 3) := by decide +kernel
theorem dX9_chance_5 : decode cX9_chance 5 = .ok (.iload_n 2, 1) := by decide +kernel
theorem dX9_chance_6 : decode cX9_chance 6 = .ok (.bipush 20, 2) := by decide +kernel
theorem dX9_chance_8 : decode cX9_chance 8 = .ok (.if_icmp .gt 12, 3) := by decide +kernel
theorem dX9_chance_11 : decode cX9_chance 11 = .ok (.iload_n 3, 1) := by decide +kernel
theorem dX9_chance_12 : decode cX9_chance 12 = .ok (.ifCond .eq 12, 3) := by decide +kernel
theorem dX9_chance_15 : decode cX9_chance 15 = .ok (.iload_n 3, 1) := by decide +kernel
theorem dX9_chance_16 : decode cX9_chance 16 = .ok (.iconst 1, 1) := by decide +kernel
theorem dX9_chance_17 : decode cX9_chance 17 = .ok (.if_icmp .eq 7, 3) := by decide +kernel
theorem dX9_chance_20 : decode cX9_chance 20 = .ok (.ldc2_w 329, 3) := by decide +kernel
theorem dX9_chance_23 : decode cX9_chance 23 = .ok (.lreturn, 1) := by decide +kernel
theorem dX9_chance_24 : decode cX9_chance 24 = .ok (.aload_n 0, 1) := by decide +kernel
theorem dX9_chance_25 : decode cX9_chance 25 = .ok (.invokevirtual 251, 3) := by decide +kernel
theorem dX9_chance_28 : decode cX9_chance 28 = .ok (.iconst 0, 1) := by decide +kernel
theorem dX9_chance_29 : decode cX9_chance 29 = .ok (.istore 4, 2) := by decide +kernel
theorem dX9_chance_31 : decode cX9_chance 31 = .ok (.iconst 0, 1) := by decide +kernel
theorem dX9_chance_32 : decode cX9_chance 32 = .ok (.istore 5, 2) := by decide +kernel
theorem dX9_chance_34 : decode cX9_chance 34 = .ok (.iload 5, 2) := by decide +kernel
theorem dX9_chance_36 : decode cX9_chance 36 = .ok (.iload_n 2, 1) := by decide +kernel
theorem dX9_chance_37 : decode cX9_chance 37 = .ok (.if_icmp .ge 40, 3) := by decide +kernel
theorem dX9_chance_40 : decode cX9_chance 40 = .ok (.aload_n 0, 1) := by decide +kernel
theorem dX9_chance_41 : decode cX9_chance 41 = .ok (.getfield 63, 3) := by decide +kernel
theorem dX9_chance_44 : decode cX9_chance 44 = .ok (.iload_n 1, 1) := by decide +kernel
theorem dX9_chance_45 : decode cX9_chance 45 = .ok (.iload 5, 2) := by decide +kernel
theorem dX9_chance_47 : decode cX9_chance 47 = .ok (.iadd, 1) := by decide +kernel
theorem dX9_chance_48 : decode cX9_chance 48 = .ok (.invokevirtual 326, 3) := by decide +kernel
theorem dX9_chance_51 : decode cX9_chance 51 = .ok (.aload_n 0, 1) := by decide +kernel
theorem dX9_chance_52 : decode cX9_chance 52 = .ok (.getfield 63, 3) := by decide +kernel
theorem dX9_chance_55 : decode cX9_chance 55 = .ok (.invokevirtual 254, 3) := by decide +kernel
theorem dX9_chance_58 : decode cX9_chance 58 = .ok (.aload_n 0, 1) := by decide +kernel
theorem dX9_chance_59 : decode cX9_chance 59 = .ok (.getfield 63, 3) := by decide +kernel
theorem dX9_chance_62 : decode cX9_chance 62 = .ok (.invokevirtual 331, 3) := by decide +kernel
theorem dX9_chance_65 : decode cX9_chance 65 = .ok (.ifCond .eq 6, 3) := by decide +kernel
theorem dX9_chance_68 : decode cX9_chance 68 = .ok (.iinc 4 1, 3) := by decide +kernel
theorem dX9_chance_71 : decode cX9_chance 71 = .ok (.iinc 5 1, 3) := by decide +kernel
theorem dX9_chance_74 : decode cX9_chance 74 = .ok (.goto (-40), 3) := by decide +kernel
theorem dX9_chance_77 : decode cX9_chance 77 = .ok (.iload 4, 2) := by decide +kernel
theorem dX9_chance_79 : decode cX9_chance 79 = .ok (.iload_n 2, 1) := by decide +kernel
theorem dX9_chance_80 : decode cX9_chance 80 = .ok (.invokestatic 334, 3) := by decide +kernel
theorem dX9_chance_83 : decode cX9_chance 83 = .ok (.istore 5, 2) := by decide +kernel
theorem dX9_chance_85 : decode cX9_chance 85 = .ok (.iload_n 3, 1) := by decide +kernel
theorem dX9_chance_86 : decode cX9_chance 86 = .ok (.ifCond .ne 12, 3) := by decide +kernel
theorem dX9_chance_89 : decode cX9_chance 89 = .ok (.iload 4, 2) := by decide +kernel
theorem dX9_chance_91 : decode cX9_chance 91 = .ok (.iload 5, 2) := by decide +kernel
theorem dX9_chance_93 : decode cX9_chance 93 = .ok (.idiv, 1) := by decide +kernel
theorem dX9_chance_94 : decode cX9_chance 94 = .ok (.i2l, 1) := by decide +kernel
theorem dX9_chance_95 : decode cX9_chance 95 = .ok (.goto 8, 3) := by decide +kernel
theorem dX9_chance_98 : decode cX9_chance 98 = .ok (.iload_n 2, 1) := by decide +kernel
theorem dX9_chance_99 : decode cX9_chance 99 = .ok (.iload 5, 2) := by decide +kernel
theorem dX9_chance_101 : decode cX9_chance 101 = .ok (.idiv, 1) := by decide +kernel
theorem dX9_chance_102 : decode cX9_chance 102 = .ok (.i2l, 1) := by decide +kernel
theorem dX9_chance_103 : decode cX9_chance 103 = .ok (.lreturn, 1) := by decide +kernel
theorem dX9_commonOf_0 : decode cX9_commonOf 0 = .ok (.iload_n 1, 1) := by decide +kernel
theorem dX9_commonOf_1 : decode cX9_commonOf 1 = .ok (.istore_n 2, 1) := by decide +kernel
theorem dX9_commonOf_2 : decode cX9_commonOf 2 = .ok (.iload_n 2, 1) := by decide +kernel
theorem dX9_commonOf_3 : decode cX9_commonOf 3 = .ok (.iconst 1, 1) := by decide +kernel
theorem dX9_commonOf_4 : decode cX9_commonOf 4 = .ok (.if_icmp .le 23, 3) := by decide +kernel
theorem dX9_commonOf_7 : decode cX9_commonOf 7 = .ok (.iload_n 0, 1) := by decide +kernel
theorem dX9_commonOf_8 : decode cX9_commonOf 8 = .ok (.iload_n 2, 1) := by decide +kernel
theorem dX9_commonOf_9 : decode cX9_commonOf 9 = .ok (.irem, 1) := by decide +kernel
theorem dX9_commonOf_10 : decode cX9_commonOf 10 = .ok (.ifCond .ne 11, 3) := by decide +kernel
theorem dX9_commonOf_13 : decode cX9_commonOf 13 = .ok (.iload_n 1, 1) := by decide +kernel
theorem dX9_commonOf_14 : decode cX9_commonOf 14 = .ok (.iload_n 2, 1) := by decide +kernel
theorem dX9_commonOf_15 : decode cX9_commonOf 15 = .ok (.irem, 1) := by decide +kernel
theorem dX9_commonOf_16 : decode cX9_commonOf 16 = .ok (.ifCond .ne 5, 3) := by decide +kernel
theorem dX9_commonOf_19 : decode cX9_commonOf 19 = .ok (.iload_n 2, 1) := by decide +kernel
theorem dX9_commonOf_20 : decode cX9_commonOf 20 = .ok (.ireturn, 1) := by decide +kernel
theorem dX9_commonOf_21 : decode cX9_commonOf 21 = .ok (.iinc 2 (-1), 3) := by decide +kernel
theorem dX9_commonOf_24 : decode cX9_commonOf 24 = .ok (.goto (-22), 3) := by decide +kernel
theorem dX9_commonOf_27 : decode cX9_commonOf 27 = .ok (.iconst 1, 1) := by decide +kernel
theorem dX9_commonOf_28 : decode cX9_commonOf 28 = .ok (.ireturn, 1) := by decide +kernel
theorem dX9_image_0 : decode cX9_image 0 = .ok (.aload_n 0, 1) := by decide +kernel
theorem dX9_image_1 : decode cX9_image 1 = .ok (.getfield 16, 3) := by decide +kernel
theorem dX9_image_4 : decode cX9_image 4 = .ok (.aload_n 0, 1) := by decide +kernel
theorem dX9_image_5 : decode cX9_image 5 = .ok (.getfield 10, 3) := by decide +kernel
theorem dX9_image_8 : decode cX9_image 8 = .ok (.invokevirtual 337, 3) := by decide +kernel
theorem dX9_image_11 : decode cX9_image 11 = .ok (.aload_n 0, 1) := by decide +kernel
theorem dX9_image_12 : decode cX9_image 12 = .ok (.iconst 1, 1) := by decide +kernel
theorem dX9_image_13 : decode cX9_image 13 = .ok (.putfield 19, 3) := by decide +kernel
theorem dX9_image_16 : decode cX9_image 16 = .ok (.aload_n 0, 1) := by decide +kernel
theorem dX9_image_17 : decode cX9_image 17 = .ok (.getfield 10, 3) := by decide +kernel
theorem dX9_image_20 : decode cX9_image 20 = .ok (.getfield 131, 3) := by decide +kernel
theorem dX9_image_23 : decode cX9_image 23 = .ok (.ireturn, 1) := by decide +kernel
theorem dX9_back_0 : decode cX9_back 0 = .ok (.aload_n 0, 1) := by decide +kernel
theorem dX9_back_1 : decode cX9_back 1 = .ok (.getfield 19, 3) := by decide +kernel
theorem dX9_back_4 : decode cX9_back 4 = .ok (.ifCond .ne 6, 3) := by decide +kernel
theorem dX9_back_7 : decode cX9_back 7 = .ok (.bipush (-3), 2) := by decide +kernel
theorem dX9_back_9 : decode cX9_back 9 = .ok (.ireturn, 1) := by decide +kernel
theorem dX9_back_10 : decode cX9_back 10 = .ok (.aload_n 0, 1) := by decide +kernel
theorem dX9_back_11 : decode cX9_back 11 = .ok (.getfield 10, 3) := by decide +kernel
theorem dX9_back_14 : decode cX9_back 14 = .ok (.aload_n 0, 1) := by decide +kernel
theorem dX9_back_15 : decode cX9_back 15 = .ok (.getfield 16, 3) := by decide +kernel
theorem dX9_back_18 : decode cX9_back 18 = .ok (.invokevirtual 337, 3) := by decide +kernel
theorem dX9_back_21 : decode cX9_back 21 = .ok (.aload_n 0, 1) := by decide +kernel
theorem dX9_back_22 : decode cX9_back 22 = .ok (.getfield 10, 3) := by decide +kernel
theorem dX9_back_25 : decode cX9_back 25 = .ok (.getfield 131, 3) := by decide +kernel
theorem dX9_back_28 : decode cX9_back 28 = .ok (.ireturn, 1) := by decide +kernel
theorem dX9_count_0 : decode cX9_count 0 = .ok (.iload_n 1, 1) := by decide +kernel
theorem dX9_count_1 : decode cX9_count 1 = .ok (.tableswitch 87 0 5 #[39, 47, 55, 63, 68, 79], 39) := by decide +kernel
theorem dX9_count_40 : decode cX9_count 40 = .ok (.aload_n 0, 1) := by decide +kernel
theorem dX9_count_41 : decode cX9_count 41 = .ok (.getfield 10, 3) := by decide +kernel
theorem dX9_count_44 : decode cX9_count 44 = .ok (.getfield 131, 3) := by decide +kernel
theorem dX9_count_47 : decode cX9_count 47 = .ok (.ireturn, 1) := by decide +kernel
theorem dX9_count_48 : decode cX9_count 48 = .ok (.aload_n 0, 1) := by decide +kernel
theorem dX9_count_49 : decode cX9_count 49 = .ok (.getfield 10, 3) := by decide +kernel
theorem dX9_count_52 : decode cX9_count 52 = .ok (.invokevirtual 340, 3) := by decide +kernel
theorem dX9_count_55 : decode cX9_count 55 = .ok (.ireturn, 1) := by decide +kernel
theorem dX9_count_56 : decode cX9_count 56 = .ok (.aload_n 0, 1) := by decide +kernel
theorem dX9_count_57 : decode cX9_count 57 = .ok (.getfield 10, 3) := by decide +kernel
theorem dX9_count_60 : decode cX9_count 60 = .ok (.invokevirtual 343, 3) := by decide +kernel
theorem dX9_count_63 : decode cX9_count 63 = .ok (.ireturn, 1) := by decide +kernel
theorem dX9_count_64 : decode cX9_count 64 = .ok (.aload_n 0, 1) := by decide +kernel
theorem dX9_count_65 : decode cX9_count 65 = .ok (.getfield 29, 3) := by decide +kernel
theorem dX9_count_68 : decode cX9_count 68 = .ok (.ireturn, 1) := by decide +kernel
theorem dX9_count_69 : decode cX9_count 69 = .ok (.aload_n 0, 1) := by decide +kernel
theorem dX9_count_70 : decode cX9_count 70 = .ok (.getfield 36, 3) := by decide +kernel
theorem dX9_count_73 : decode cX9_count 73 = .ok (.getfield 78, 3) := by decide +kernel
theorem dX9_count_76 : decode cX9_count 76 = .ok (.getfield 183, 3) := by decide +kernel
theorem dX9_count_79 : decode cX9_count 79 = .ok (.ireturn, 1) := by decide +kernel
theorem dX9_count_80 : decode cX9_count 80 = .ok (.aload_n 0, 1) := by decide +kernel
theorem dX9_count_81 : decode cX9_count 81 = .ok (.getfield 10, 3) := by decide +kernel
theorem dX9_count_84 : decode cX9_count 84 = .ok (.getfield 167, 3) := by decide +kernel
theorem dX9_count_87 : decode cX9_count 87 = .ok (.ireturn, 1) := by decide +kernel
theorem dX9_count_88 : decode cX9_count 88 = .ok (.bipush (-2), 2) := by decide +kernel
theorem dX9_count_90 : decode cX9_count 90 = .ok (.ireturn, 1) := by decide +kernel
theorem dX9_sheet_0 : decode cX9_sheet 0 = .ok (.iload_n 1, 1) := by decide +kernel
theorem dX9_sheet_1 : decode cX9_sheet 1 = .ok (.invokestatic 276, 3) := by decide +kernel
theorem dX9_sheet_4 : decode cX9_sheet 4 = .ok (.ifCond .eq 15, 3) := by decide +kernel
theorem dX9_sheet_7 : decode cX9_sheet 7 = .ok (.iload_n 2, 1) := by decide +kernel
theorem dX9_sheet_8 : decode cX9_sheet 8 = .ok (.iconst (-1), 1) := by decide +kernel
theorem dX9_sheet_9 : decode cX9_sheet 9 = .ok (.if_icmp .eq 13, 3) := by decide +kernel
theorem dX9_sheet_12 : decode cX9_sheet 12 = .ok (.iload_n 2, 1) := by decide +kernel
theorem dX9_sheet_13 : decode cX9_sheet 13 = .ok (.invokestatic 346, 3) := by decide +kernel
theorem dX9_sheet_16 : decode cX9_sheet 16 = .ok (.ifCond .ne 6, 3) := by decide +kernel
theorem dX9_sheet_19 : decode cX9_sheet 19 = .ok (.bipush (-2), 2) := by decide +kernel
theorem dX9_sheet_21 : decode cX9_sheet 21 = .ok (.ireturn, 1) := by decide +kernel
theorem dX9_sheet_22 : decode cX9_sheet 22 = .ok (.iload_n 2, 1) := by decide +kernel
theorem dX9_sheet_23 : decode cX9_sheet 23 = .ok (.iconst (-1), 1) := by decide +kernel
theorem dX9_sheet_24 : decode cX9_sheet 24 = .ok (.if_icmp .ne 16, 3) := by decide +kernel
theorem dX9_sheet_27 : decode cX9_sheet 27 = .ok (.aload_n 0, 1) := by decide +kernel
theorem dX9_sheet_28 : decode cX9_sheet 28 = .ok (.getfield 42, 3) := by decide +kernel
theorem dX9_sheet_31 : decode cX9_sheet 31 = .ok (.iload_n 1, 1) := by decide +kernel
theorem dX9_sheet_32 : decode cX9_sheet 32 = .ok (.aaload, 1) := by decide +kernel
theorem dX9_sheet_33 : decode cX9_sheet 33 = .ok (.iconst (-1), 1) := by decide +kernel
theorem dX9_sheet_34 : decode cX9_sheet 34 = .ok (.iconst 0, 1) := by decide +kernel
theorem dX9_sheet_35 : decode cX9_sheet 35 = .ok (.invokevirtual 320, 3) := by decide +kernel
theorem dX9_sheet_38 : decode cX9_sheet 38 = .ok (.iconst 1, 1) := by decide +kernel
theorem dX9_sheet_39 : decode cX9_sheet 39 = .ok (.ireturn, 1) := by decide +kernel
theorem dX9_sheet_40 : decode cX9_sheet 40 = .ok (.iload_n 3, 1) := by decide +kernel
theorem dX9_sheet_41 : decode cX9_sheet 41 = .ok (.bipush 40, 2) := by decide +kernel
theorem dX9_sheet_43 : decode cX9_sheet 43 = .ok (.if_icmp .le 6, 3) := by decide +kernel
theorem dX9_sheet_46 : decode cX9_sheet 46 = .ok (.bipush (-2), 2) := by decide +kernel
theorem dX9_sheet_48 : decode cX9_sheet 48 = .ok (.ireturn, 1) := by decide +kernel
theorem dX9_sheet_49 : decode cX9_sheet 49 = .ok (.iload_n 3, 1) := by decide +kernel
theorem dX9_sheet_50 : decode cX9_sheet 50 = .ok (.ifCond .ge 6, 3) := by decide +kernel
theorem dX9_sheet_53 : decode cX9_sheet 53 = .ok (.bipush (-14), 2) := by decide +kernel
theorem dX9_sheet_55 : decode cX9_sheet 55 = .ok (.ireturn, 1) := by decide +kernel
theorem dX9_sheet_56 : decode cX9_sheet 56 = .ok (.aload_n 0, 1) := by decide +kernel
theorem dX9_sheet_57 : decode cX9_sheet 57 = .ok (.getfield 42, 3) := by decide +kernel
theorem dX9_sheet_60 : decode cX9_sheet 60 = .ok (.iload_n 1, 1) := by decide +kernel
theorem dX9_sheet_61 : decode cX9_sheet 61 = .ok (.aaload, 1) := by decide +kernel
theorem dX9_sheet_62 : decode cX9_sheet 62 = .ok (.iload_n 2, 1) := by decide +kernel
theorem dX9_sheet_63 : decode cX9_sheet 63 = .ok (.iload_n 3, 1) := by decide +kernel
theorem dX9_sheet_64 : decode cX9_sheet 64 = .ok (.invokevirtual 320, 3) := by decide +kernel
theorem dX9_sheet_67 : decode cX9_sheet 67 = .ok (.iconst 1, 1) := by decide +kernel
theorem dX9_sheet_68 : decode cX9_sheet 68 = .ok (.ireturn, 1) := by decide +kernel
theorem dX9_cell_0 : decode cX9_cell 0 = .ok (.iload_n 1, 1) := by decide +kernel
theorem dX9_cell_1 : decode cX9_cell 1 = .ok (.invokestatic 276, 3) := by decide +kernel
theorem dX9_cell_4 : decode cX9_cell 4 = .ok (.ifCond .ne 6, 3) := by decide +kernel
theorem dX9_cell_7 : decode cX9_cell 7 = .ok (.bipush (-2), 2) := by decide +kernel
theorem dX9_cell_9 : decode cX9_cell 9 = .ok (.ireturn, 1) := by decide +kernel
theorem dX9_cell_10 : decode cX9_cell 10 = .ok (.aload_n 0, 1) := by decide +kernel
theorem dX9_cell_11 : decode cX9_cell 11 = .ok (.getfield 42, 3) := by decide +kernel
theorem dX9_cell_14 : decode cX9_cell 14 = .ok (.iload_n 1, 1) := by decide +kernel
theorem dX9_cell_15 : decode cX9_cell 15 = .ok (.aaload, 1) := by decide +kernel
theorem dX9_cell_16 : decode cX9_cell 16 = .ok (.astore 4, 2) := by decide +kernel
theorem dX9_cell_18 : decode cX9_cell 18 = .ok (.aload 4, 2) := by decide +kernel
theorem dX9_cell_20 : decode cX9_cell 20 = .ok (.invokevirtual 279, 3) := by decide +kernel
theorem dX9_cell_23 : decode cX9_cell 23 = .ok (.ifCond .eq 6, 3) := by decide +kernel
theorem dX9_cell_26 : decode cX9_cell 26 = .ok (.bipush (-11), 2) := by decide +kernel
theorem dX9_cell_28 : decode cX9_cell 28 = .ok (.ireturn, 1) := by decide +kernel
theorem dX9_cell_29 : decode cX9_cell 29 = .ok (.iload_n 2, 1) := by decide +kernel
theorem dX9_cell_30 : decode cX9_cell 30 = .ok (.ifCond .lt 12, 3) := by decide +kernel
theorem dX9_cell_33 : decode cX9_cell 33 = .ok (.iload_n 2, 1) := by decide +kernel
theorem dX9_cell_34 : decode cX9_cell 34 = .ok (.aload 4, 2) := by decide +kernel
theorem dX9_cell_36 : decode cX9_cell 36 = .ok (.getfield 283, 3) := by decide +kernel
theorem dX9_cell_39 : decode cX9_cell 39 = .ok (.if_icmp .lt 6, 3) := by decide +kernel
theorem dX9_cell_42 : decode cX9_cell 42 = .ok (.bipush (-12), 2) := by decide +kernel
theorem dX9_cell_44 : decode cX9_cell 44 = .ok (.ireturn, 1) := by decide +kernel
theorem dX9_cell_45 : decode cX9_cell 45 = .ok (.aload 4, 2) := by decide +kernel
theorem dX9_cell_47 : decode cX9_cell 47 = .ok (.iload_n 2, 1) := by decide +kernel
theorem dX9_cell_48 : decode cX9_cell 48 = .ok (.iload_n 3, 1) := by decide +kernel
theorem dX9_cell_49 : decode cX9_cell 49 = .ok (.invokevirtual 323, 3) := by decide +kernel
theorem dX9_cell_52 : decode cX9_cell 52 = .ok (.iconst 1, 1) := by decide +kernel
theorem dX9_cell_53 : decode cX9_cell 53 = .ok (.ireturn, 1) := by decide +kernel
theorem dX9_copy_0 : decode cX9_copy 0 = .ok (.iload_n 1, 1) := by decide +kernel
theorem dX9_copy_1 : decode cX9_copy 1 = .ok (.invokestatic 276, 3) := by decide +kernel
theorem dX9_copy_4 : decode cX9_copy 4 = .ok (.ifCond .eq 10, 3) := by decide +kernel
theorem dX9_copy_7 : decode cX9_copy 7 = .ok (.iload_n 3, 1) := by decide +kernel
theorem dX9_copy_8 : decode cX9_copy 8 = .ok (.invokestatic 276, 3) := by decide +kernel
theorem dX9_copy_11 : decode cX9_copy 11 = .ok (.ifCond .ne 6, 3) := by decide +kernel
theorem dX9_copy_14 : decode cX9_copy 14 = .ok (.bipush (-2), 2) := by decide +kernel
theorem dX9_copy_16 : decode cX9_copy 16 = .ok (.ireturn, 1) := by decide +kernel
theorem dX9_copy_17 : decode cX9_copy 17 = .ok (.aload_n 0, 1) := by decide +kernel
theorem dX9_copy_18 : decode cX9_copy 18 = .ok (.getfield 42, 3) := by decide +kernel
theorem dX9_copy_21 : decode cX9_copy 21 = .ok (.iload_n 1, 1) := by decide +kernel
theorem dX9_copy_22 : decode cX9_copy 22 = .ok (.aaload, 1) := by decide +kernel
theorem dX9_copy_23 : decode cX9_copy 23 = .ok (.astore 6, 2) := by decide +kernel
theorem dX9_copy_25 : decode cX9_copy 25 = .ok (.aload_n 0, 1) := by decide +kernel
theorem dX9_copy_26 : decode cX9_copy 26 = .ok (.getfield 42, 3) := by decide +kernel
theorem dX9_copy_29 : decode cX9_copy 29 = .ok (.iload_n 3, 1) := by decide +kernel
theorem dX9_copy_30 : decode cX9_copy 30 = .ok (.aaload, 1) := by decide +kernel
theorem dX9_copy_31 : decode cX9_copy 31 = .ok (.astore 7, 2) := by decide +kernel
theorem dX9_copy_33 : decode cX9_copy 33 = .ok (.aload 6, 2) := by decide +kernel
theorem dX9_copy_35 : decode cX9_copy 35 = .ok (.invokevirtual 279, 3) := by decide +kernel
theorem dX9_copy_38 : decode cX9_copy 38 = .ok (.ifCond .ne 11, 3) := by decide +kernel
theorem dX9_copy_41 : decode cX9_copy 41 = .ok (.aload 7, 2) := by decide +kernel
theorem dX9_copy_43 : decode cX9_copy 43 = .ok (.invokevirtual 279, 3) := by decide +kernel
theorem dX9_copy_46 : decode cX9_copy 46 = .ok (.ifCond .eq 6, 3) := by decide +kernel
theorem dX9_copy_49 : decode cX9_copy 49 = .ok (.bipush (-11), 2) := by decide +kernel
theorem dX9_copy_51 : decode cX9_copy 51 = .ok (.ireturn, 1) := by decide +kernel
theorem dX9_copy_52 : decode cX9_copy 52 = .ok (.aload 6, 2) := by decide +kernel
theorem dX9_copy_54 : decode cX9_copy 54 = .ok (.getfield 349, 3) := by decide +kernel
theorem dX9_copy_57 : decode cX9_copy 57 = .ok (.aload 7, 2) := by decide +kernel
theorem dX9_copy_59 : decode cX9_copy 59 = .ok (.getfield 349, 3) := by decide +kernel
theorem dX9_copy_62 : decode cX9_copy 62 = .ok (.if_icmp .eq 6, 3) := by decide +kernel
theorem dX9_copy_65 : decode cX9_copy 65 = .ok (.bipush (-13), 2) := by decide +kernel
theorem dX9_copy_67 : decode cX9_copy 67 = .ok (.ireturn, 1) := by decide +kernel
theorem dX9_copy_68 : decode cX9_copy 68 = .ok (.aload 6, 2) := by decide +kernel
theorem dX9_copy_70 : decode cX9_copy 70 = .ok (.iload_n 2, 1) := by decide +kernel
theorem dX9_copy_71 : decode cX9_copy 71 = .ok (.iload 5, 2) := by decide +kernel
theorem dX9_copy_73 : decode cX9_copy 73 = .ok (.invokevirtual 352, 3) := by decide +kernel
theorem dX9_copy_76 : decode cX9_copy 76 = .ok (.ifCond .eq 15, 3) := by decide +kernel
theorem dX9_copy_79 : decode cX9_copy 79 = .ok (.aload 7, 2) := by decide +kernel
theorem dX9_copy_81 : decode cX9_copy 81 = .ok (.iload 4, 2) := by decide +kernel
theorem dX9_copy_83 : decode cX9_copy 83 = .ok (.iload 5, 2) := by decide +kernel
theorem dX9_copy_85 : decode cX9_copy 85 = .ok (.invokevirtual 352, 3) := by decide +kernel
theorem dX9_copy_88 : decode cX9_copy 88 = .ok (.ifCond .ne 6, 3) := by decide +kernel
theorem dX9_copy_91 : decode cX9_copy 91 = .ok (.bipush (-12), 2) := by decide +kernel
theorem dX9_copy_93 : decode cX9_copy 93 = .ok (.ireturn, 1) := by decide +kernel
theorem dX9_copy_94 : decode cX9_copy 94 = .ok (.aload 6, 2) := by decide +kernel
theorem dX9_copy_96 : decode cX9_copy 96 = .ok (.getfield 300, 3) := by decide +kernel
theorem dX9_copy_99 : decode cX9_copy 99 = .ok (.iload_n 2, 1) := by decide +kernel
theorem dX9_copy_100 : decode cX9_copy 100 = .ok (.aload 7, 2) := by decide +kernel
theorem dX9_copy_102 : decode cX9_copy 102 = .ok (.getfield 300, 3) := by decide +kernel
theorem dX9_copy_105 : decode cX9_copy 105 = .ok (.iload 4, 2) := by decide +kernel
theorem dX9_copy_107 : decode cX9_copy 107 = .ok (.iload 5, 2) := by decide +kernel
theorem dX9_copy_109 : decode cX9_copy 109 = .ok (.invokestatic 354, 3) := by decide +kernel
theorem dX9_copy_112 : decode cX9_copy 112 = .ok (.iload 5, 2) := by decide +kernel
theorem dX9_copy_114 : decode cX9_copy 114 = .ok (.ireturn, 1) := by decide +kernel
theorem dX9_grooms_0 : decode cX9_grooms 0 = .ok (.iload_n 1, 1) := by decide +kernel
theorem dX9_grooms_1 : decode cX9_grooms 1 = .ok (.invokestatic 276, 3) := by decide +kernel
theorem dX9_grooms_4 : decode cX9_grooms 4 = .ok (.ifCond .eq 22, 3) := by decide +kernel
theorem dX9_grooms_7 : decode cX9_grooms 7 = .ok (.iload_n 2, 1) := by decide +kernel
theorem dX9_grooms_8 : decode cX9_grooms 8 = .ok (.invokestatic 346, 3) := by decide +kernel
theorem dX9_grooms_11 : decode cX9_grooms 11 = .ok (.ifCond .eq 15, 3) := by decide +kernel
theorem dX9_grooms_14 : decode cX9_grooms 14 = .ok (.iload 4, 2) := by decide +kernel
theorem dX9_grooms_16 : decode cX9_grooms 16 = .ok (.ifCond .lt 10, 3) := by decide +kernel
theorem dX9_grooms_19 : decode cX9_grooms 19 = .ok (.iload 4, 2) := by decide +kernel
theorem dX9_grooms_21 : decode cX9_grooms 21 = .ok (.bipush 6, 2) := by decide +kernel
theorem dX9_grooms_23 : decode cX9_grooms 23 = .ok (.if_icmp .le 6, 3) := by decide +kernel
theorem dX9_grooms_26 : decode cX9_grooms 26 = .ok (.bipush (-2), 2) := by decide +kernel
theorem dX9_grooms_28 : decode cX9_grooms 28 = .ok (.ireturn, 1) := by decide +kernel
theorem dX9_grooms_29 : decode cX9_grooms 29 = .ok (.aload_n 0, 1) := by decide +kernel
theorem dX9_grooms_30 : decode cX9_grooms 30 = .ok (.getfield 42, 3) := by decide +kernel
theorem dX9_grooms_33 : decode cX9_grooms 33 = .ok (.iload_n 1, 1) := by decide +kernel
theorem dX9_grooms_34 : decode cX9_grooms 34 = .ok (.aaload, 1) := by decide +kernel
theorem dX9_grooms_35 : decode cX9_grooms 35 = .ok (.astore 5, 2) := by decide +kernel
theorem dX9_grooms_37 : decode cX9_grooms 37 = .ok (.aload 5, 2) := by decide +kernel
theorem dX9_grooms_39 : decode cX9_grooms 39 = .ok (.invokevirtual 279, 3) := by decide +kernel
theorem dX9_grooms_42 : decode cX9_grooms 42 = .ok (.ifCond .eq 6, 3) := by decide +kernel
theorem dX9_grooms_45 : decode cX9_grooms 45 = .ok (.bipush (-11), 2) := by decide +kernel
theorem dX9_grooms_47 : decode cX9_grooms 47 = .ok (.ireturn, 1) := by decide +kernel
theorem dX9_grooms_48 : decode cX9_grooms 48 = .ok (.aload 5, 2) := by decide +kernel
theorem dX9_grooms_50 : decode cX9_grooms 50 = .ok (.getfield 349, 3) := by decide +kernel
theorem dX9_grooms_53 : decode cX9_grooms 53 = .ok (.iload_n 2, 1) := by decide +kernel
theorem dX9_grooms_54 : decode cX9_grooms 54 = .ok (.if_icmp .eq 6, 3) := by decide +kernel
theorem dX9_grooms_57 : decode cX9_grooms 57 = .ok (.bipush (-13), 2) := by decide +kernel
theorem dX9_grooms_59 : decode cX9_grooms 59 = .ok (.ireturn, 1) := by decide +kernel
theorem dX9_grooms_60 : decode cX9_grooms 60 = .ok (.iconst 0, 1) := by decide +kernel
theorem dX9_grooms_61 : decode cX9_grooms 61 = .ok (.istore 6, 2) := by decide +kernel
theorem dX9_grooms_63 : decode cX9_grooms 63 = .ok (.iconst 0, 1) := by decide +kernel
theorem dX9_grooms_64 : decode cX9_grooms 64 = .ok (.istore 7, 2) := by decide +kernel
theorem dX9_grooms_66 : decode cX9_grooms 66 = .ok (.iload 7, 2) := by decide +kernel
theorem dX9_grooms_68 : decode cX9_grooms 68 = .ok (.iload 4, 2) := by decide +kernel
theorem dX9_grooms_70 : decode cX9_grooms 70 = .ok (.if_icmp .ge 73, 3) := by decide +kernel
theorem dX9_grooms_73 : decode cX9_grooms 73 = .ok (.aload 5, 2) := by decide +kernel
theorem dX9_grooms_75 : decode cX9_grooms 75 = .ok (.iload_n 3, 1) := by decide +kernel
theorem dX9_grooms_76 : decode cX9_grooms 76 = .ok (.iconst 3, 1) := by decide +kernel
theorem dX9_grooms_77 : decode cX9_grooms 77 = .ok (.iload 7, 2) := by decide +kernel
theorem dX9_grooms_79 : decode cX9_grooms 79 = .ok (.imul, 1) := by decide +kernel
theorem dX9_grooms_80 : decode cX9_grooms 80 = .ok (.iconst 3, 1) := by decide +kernel
theorem dX9_grooms_81 : decode cX9_grooms 81 = .ok (.iadd, 1) := by decide +kernel
theorem dX9_grooms_82 : decode cX9_grooms 82 = .ok (.invokevirtual 352, 3) := by decide +kernel
theorem dX9_grooms_85 : decode cX9_grooms 85 = .ok (.ifCond .ne 6, 3) := by decide +kernel
theorem dX9_grooms_88 : decode cX9_grooms 88 = .ok (.bipush (-12), 2) := by decide +kernel
theorem dX9_grooms_90 : decode cX9_grooms 90 = .ok (.ireturn, 1) := by decide +kernel
theorem dX9_grooms_91 : decode cX9_grooms 91 = .ok (.iload_n 3, 1) := by decide +kernel
theorem dX9_grooms_92 : decode cX9_grooms 92 = .ok (.iconst 3, 1) := by decide +kernel
theorem dX9_grooms_93 : decode cX9_grooms 93 = .ok (.iload 7, 2) := by decide +kernel
theorem dX9_grooms_95 : decode cX9_grooms 95 = .ok (.imul, 1) := by decide +kernel
theorem dX9_grooms_96 : decode cX9_grooms 96 = .ok (.iadd, 1) := by decide +kernel
theorem dX9_grooms_97 : decode cX9_grooms 97 = .ok (.istore 8, 2) := by decide +kernel
theorem dX9_grooms_99 : decode cX9_grooms 99 = .ok (.aload_n 0, 1) := by decide +kernel
theorem dX9_grooms_100 : decode cX9_grooms 100 = .ok (.aload 5, 2) := by decide +kernel
theorem dX9_grooms_102 : decode cX9_grooms 102 = .ok (.getfield 300, 3) := by decide +kernel
theorem dX9_grooms_105 : decode cX9_grooms 105 = .ok (.iload 8, 2) := by decide +kernel
theorem dX9_grooms_107 : decode cX9_grooms 107 = .ok (.iaload, 1) := by decide +kernel
theorem dX9_grooms_108 : decode cX9_grooms 108 = .ok (.aload 5, 2) := by decide +kernel
theorem dX9_grooms_110 : decode cX9_grooms 110 = .ok (.getfield 300, 3) := by decide +kernel
theorem dX9_grooms_113 : decode cX9_grooms 113 = .ok (.iload 8, 2) := by decide +kernel
theorem dX9_grooms_115 : decode cX9_grooms 115 = .ok (.iconst 1, 1) := by decide +kernel
theorem dX9_grooms_116 : decode cX9_grooms 116 = .ok (.iadd, 1) := by decide +kernel
theorem dX9_grooms_117 : decode cX9_grooms 117 = .ok (.iaload, 1) := by decide +kernel
theorem dX9_grooms_118 : decode cX9_grooms 118 = .ok (.aload 5, 2) := by decide +kernel
theorem dX9_grooms_120 : decode cX9_grooms 120 = .ok (.getfield 300, 3) := by decide +kernel
theorem dX9_grooms_123 : decode cX9_grooms 123 = .ok (.iload 8, 2) := by decide +kernel
theorem dX9_grooms_125 : decode cX9_grooms 125 = .ok (.iconst 2, 1) := by decide +kernel
theorem dX9_grooms_126 : decode cX9_grooms 126 = .ok (.iadd, 1) := by decide +kernel
theorem dX9_grooms_127 : decode cX9_grooms 127 = .ok (.iaload, 1) := by decide +kernel
theorem dX9_grooms_128 : decode cX9_grooms 128 = .ok (.invokevirtual 360, 3) := by decide +kernel
theorem dX9_grooms_131 : decode cX9_grooms 131 = .ok (.ifCond .lt 6, 3) := by decide +kernel
theorem dX9_grooms_134 : decode cX9_grooms 134 = .ok (.iinc 6 1, 3) := by decide +kernel
theorem dX9_grooms_137 : decode cX9_grooms 137 = .ok (.iinc 7 1, 3) := by decide +kernel
theorem dX9_grooms_140 : decode cX9_grooms 140 = .ok (.goto (-74), 3) := by decide +kernel
theorem dX9_grooms_143 : decode cX9_grooms 143 = .ok (.iload 6, 2) := by decide +kernel
theorem dX9_grooms_145 : decode cX9_grooms 145 = .ok (.ireturn, 1) := by decide +kernel
theorem dX9_taken_0 : decode cX9_taken 0 = .ok (.iload_n 2, 1) := by decide +kernel
theorem dX9_taken_1 : decode cX9_taken 1 = .ok (.invokestatic 127, 3) := by decide +kernel
theorem dX9_taken_4 : decode cX9_taken 4 = .ok (.ifCond .ne 6, 3) := by decide +kernel
theorem dX9_taken_7 : decode cX9_taken 7 = .ok (.bipush (-2), 2) := by decide +kernel
theorem dX9_taken_9 : decode cX9_taken 9 = .ok (.ireturn, 1) := by decide +kernel
theorem dX9_taken_10 : decode cX9_taken 10 = .ok (.aload_n 0, 1) := by decide +kernel
theorem dX9_taken_11 : decode cX9_taken 11 = .ok (.iload_n 1, 1) := by decide +kernel
theorem dX9_taken_12 : decode cX9_taken 12 = .ok (.invokevirtual 140, 3) := by decide +kernel
theorem dX9_taken_15 : decode cX9_taken 15 = .ok (.ifCond .ne 6, 3) := by decide +kernel
theorem dX9_taken_18 : decode cX9_taken 18 = .ok (.bipush (-11), 2) := by decide +kernel
theorem dX9_taken_20 : decode cX9_taken 20 = .ok (.ireturn, 1) := by decide +kernel
theorem dX9_taken_21 : decode cX9_taken 21 = .ok (.aload_n 0, 1) := by decide +kernel
theorem dX9_taken_22 : decode cX9_taken 22 = .ok (.getfield 10, 3) := by decide +kernel
theorem dX9_taken_25 : decode cX9_taken 25 = .ok (.getfield 112, 3) := by decide +kernel
theorem dX9_taken_28 : decode cX9_taken 28 = .ok (.iload_n 1, 1) := by decide +kernel
theorem dX9_taken_29 : decode cX9_taken 29 = .ok (.aaload, 1) := by decide +kernel
theorem dX9_taken_30 : decode cX9_taken 30 = .ok (.getfield 134, 3) := by decide +kernel
theorem dX9_taken_33 : decode cX9_taken 33 = .ok (.iload_n 2, 1) := by decide +kernel
theorem dX9_taken_34 : decode cX9_taken 34 = .ok (.invokestatic 364, 3) := by decide +kernel
theorem dX9_taken_37 : decode cX9_taken 37 = .ok (.ifCond .eq 18, 3) := by decide +kernel
theorem dX9_taken_40 : decode cX9_taken 40 = .ok (.aload_n 0, 1) := by decide +kernel
theorem dX9_taken_41 : decode cX9_taken 41 = .ok (.getfield 10, 3) := by decide +kernel
theorem dX9_taken_44 : decode cX9_taken 44 = .ok (.getfield 112, 3) := by decide +kernel
theorem dX9_taken_47 : decode cX9_taken 47 = .ok (.iload_n 1, 1) := by decide +kernel
theorem dX9_taken_48 : decode cX9_taken 48 = .ok (.aaload, 1) := by decide +kernel
theorem dX9_taken_49 : decode cX9_taken 49 = .ok (.getfield 116, 3) := by decide +kernel
theorem dX9_taken_52 : decode cX9_taken 52 = .ok (.goto 5, 3) := by decide +kernel
theorem dX9_taken_55 : decode cX9_taken 55 = .ok (.bipush (-13), 2) := by decide +kernel
theorem dX9_taken_57 : decode cX9_taken 57 = .ok (.ireturn, 1) := by decide +kernel
theorem dX9_isUnder_0 : decode cX9_isUnder 0 = .ok (.iload_n 0, 1) := by decide +kernel
theorem dX9_isUnder_1 : decode cX9_isUnder 1 = .ok (.istore_n 2, 1) := by decide +kernel
theorem dX9_isUnder_2 : decode cX9_isUnder 2 = .ok (.iconst 0, 1) := by decide +kernel
theorem dX9_isUnder_3 : decode cX9_isUnder 3 = .ok (.istore_n 3, 1) := by decide +kernel
theorem dX9_isUnder_4 : decode cX9_isUnder 4 = .ok (.iload_n 3, 1) := by decide +kernel
theorem dX9_isUnder_5 : decode cX9_isUnder 5 = .ok (.bipush 6, 2) := by decide +kernel
theorem dX9_isUnder_7 : decode cX9_isUnder 7 = .ok (.if_icmp .ge 29, 3) := by decide +kernel
theorem dX9_isUnder_10 : decode cX9_isUnder 10 = .ok (.iload_n 2, 1) := by decide +kernel
theorem dX9_isUnder_11 : decode cX9_isUnder 11 = .ok (.invokestatic 127, 3) := by decide +kernel
theorem dX9_isUnder_14 : decode cX9_isUnder 14 = .ok (.ifCond .eq 22, 3) := by decide +kernel
theorem dX9_isUnder_17 : decode cX9_isUnder 17 = .ok (.iload_n 2, 1) := by decide +kernel
theorem dX9_isUnder_18 : decode cX9_isUnder 18 = .ok (.iload_n 1, 1) := by decide +kernel
theorem dX9_isUnder_19 : decode cX9_isUnder 19 = .ok (.if_icmp .ne 5, 3) := by decide +kernel
theorem dX9_isUnder_22 : decode cX9_isUnder 22 = .ok (.iconst 1, 1) := by decide +kernel
theorem dX9_isUnder_23 : decode cX9_isUnder 23 = .ok (.ireturn, 1) := by decide +kernel
theorem dX9_isUnder_24 : decode cX9_isUnder 24 = .ok (.getstatic 367, 3) := by decide +kernel
theorem dX9_isUnder_27 : decode cX9_isUnder 27 = .ok (.iload_n 2, 1) := by decide +kernel
theorem dX9_isUnder_28 : decode cX9_isUnder 28 = .ok (.iaload, 1) := by decide +kernel
theorem dX9_isUnder_29 : decode cX9_isUnder 29 = .ok (.istore_n 2, 1) := by decide +kernel
theorem dX9_isUnder_30 : decode cX9_isUnder 30 = .ok (.iinc 3 1, 3) := by decide +kernel
theorem dX9_isUnder_33 : decode cX9_isUnder 33 = .ok (.goto (-29), 3) := by decide +kernel
theorem dX9_isUnder_36 : decode cX9_isUnder 36 = .ok (.iconst 0, 1) := by decide +kernel
theorem dX9_isUnder_37 : decode cX9_isUnder 37 = .ok (.ireturn, 1) := by decide +kernel
theorem dX9_isSheet_0 : decode cX9_isSheet 0 = .ok (.iload_n 0, 1) := by decide +kernel
theorem dX9_isSheet_1 : decode cX9_isSheet 1 = .ok (.ifCond .lt 12, 3) := by decide +kernel
theorem dX9_isSheet_4 : decode cX9_isSheet 4 = .ok (.iload_n 0, 1) := by decide +kernel
theorem dX9_isSheet_5 : decode cX9_isSheet 5 = .ok (.iconst 4, 1) := by decide +kernel
theorem dX9_isSheet_6 : decode cX9_isSheet 6 = .ok (.if_icmp .ge 7, 3) := by decide +kernel
theorem dX9_isSheet_9 : decode cX9_isSheet 9 = .ok (.iconst 1, 1) := by decide +kernel
theorem dX9_isSheet_10 : decode cX9_isSheet 10 = .ok (.goto 4, 3) := by decide +kernel
theorem dX9_isSheet_13 : decode cX9_isSheet 13 = .ok (.iconst 0, 1) := by decide +kernel
theorem dX9_isSheet_14 : decode cX9_isSheet 14 = .ok (.ireturn, 1) := by decide +kernel
theorem dX9_isSort_0 : decode cX9_isSort 0 = .ok (.iload_n 0, 1) := by decide +kernel
theorem dX9_isSort_1 : decode cX9_isSort 1 = .ok (.ifCond .lt 12, 3) := by decide +kernel
theorem dX9_isSort_4 : decode cX9_isSort 4 = .ok (.iload_n 0, 1) := by decide +kernel
theorem dX9_isSort_5 : decode cX9_isSort 5 = .ok (.iconst 2, 1) := by decide +kernel
theorem dX9_isSort_6 : decode cX9_isSort 6 = .ok (.if_icmp .gt 7, 3) := by decide +kernel
theorem dX9_isSort_9 : decode cX9_isSort 9 = .ok (.iconst 1, 1) := by decide +kernel
theorem dX9_isSort_10 : decode cX9_isSort 10 = .ok (.goto 4, 3) := by decide +kernel
theorem dX9_isSort_13 : decode cX9_isSort 13 = .ok (.iconst 0, 1) := by decide +kernel
theorem dX9_isSort_14 : decode cX9_isSort 14 = .ok (.ireturn, 1) := by decide +kernel
theorem dX9_within_0 : decode cX9_within 0 = .ok (.iload_n 0, 1) := by decide +kernel
theorem dX9_within_1 : decode cX9_within 1 = .ok (.ifCond .ge 7, 3) := by decide +kernel
theorem dX9_within_4 : decode cX9_within 4 = .ok (.iconst 0, 1) := by decide +kernel
theorem dX9_within_5 : decode cX9_within 5 = .ok (.goto 15, 3) := by decide +kernel
theorem dX9_within_8 : decode cX9_within 8 = .ok (.iload_n 0, 1) := by decide +kernel
theorem dX9_within_9 : decode cX9_within 9 = .ok (.bipush 99, 2) := by decide +kernel
theorem dX9_within_11 : decode cX9_within 11 = .ok (.if_icmp .le 8, 3) := by decide +kernel
theorem dX9_within_14 : decode cX9_within 14 = .ok (.bipush 99, 2) := by decide +kernel
theorem dX9_within_16 : decode cX9_within 16 = .ok (.goto 4, 3) := by decide +kernel
theorem dX9_within_19 : decode cX9_within 19 = .ok (.iload_n 0, 1) := by decide +kernel
theorem dX9_within_20 : decode cX9_within 20 = .ok (.ireturn, 1) := by decide +kernel
