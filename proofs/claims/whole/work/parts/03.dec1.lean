theorem dX0_init_0 : decode cX0_init 0 = .ok (.aload_n 0, 1) := by decide +kernel
theorem dX0_init_1 : decode cX0_init 1 = .ok (.invokespecial 1, 3) := by decide +kernel
theorem dX0_init_4 : decode cX0_init 4 = .ok (.aload_n 0, 1) := by decide +kernel
theorem dX0_init_5 : decode cX0_init 5 = .ok (.iconst 0, 1) := by decide +kernel
theorem dX0_init_6 : decode cX0_init 6 = .ok (.putfield 7, 3) := by decide +kernel
theorem dX0_init_9 : decode cX0_init 9 = .ok (.aload_n 0, 1) := by decide +kernel
theorem dX0_init_10 : decode cX0_init 10 = .ok (.iconst 0, 1) := by decide +kernel
theorem dX0_init_11 : decode cX0_init 11 = .ok (.putfield 13, 3) := by decide +kernel
theorem dX0_init_14 : decode cX0_init 14 = .ok (.aload_n 0, 1) := by decide +kernel
theorem dX0_init_15 : decode cX0_init 15 = .ok (.iconst 0, 1) := by decide +kernel
theorem dX0_init_16 : decode cX0_init 16 = .ok (.putfield 16, 3) := by decide +kernel
theorem dX0_init_19 : decode cX0_init 19 = .ok (.aload_n 0, 1) := by decide +kernel
theorem dX0_init_20 : decode cX0_init 20 = .ok (.iconst 0, 1) := by decide +kernel
theorem dX0_init_21 : decode cX0_init 21 = .ok (.putfield 19, 3) := by decide +kernel
theorem dX0_init_24 : decode cX0_init 24 = .ok (.aload_n 0, 1) := by decide +kernel
theorem dX0_init_25 : decode cX0_init 25 = .ok (.iconst 0, 1) := by decide +kernel
theorem dX0_init_26 : decode cX0_init 26 = .ok (.putfield 22, 3) := by decide +kernel
theorem dX0_init_29 : decode cX0_init 29 = .ok (.return_, 1) := by decide +kernel
theorem dX0_become_0 : decode cX0_become 0 = .ok (.aload_n 0, 1) := by decide +kernel
theorem dX0_become_1 : decode cX0_become 1 = .ok (.aload_n 1, 1) := by decide +kernel
theorem dX0_become_2 : decode cX0_become 2 = .ok (.getfield 7, 3) := by decide +kernel
theorem dX0_become_5 : decode cX0_become 5 = .ok (.putfield 7, 3) := by decide +kernel
theorem dX0_become_8 : decode cX0_become 8 = .ok (.aload_n 0, 1) := by decide +kernel
theorem dX0_become_9 : decode cX0_become 9 = .ok (.aload_n 1, 1) := by decide +kernel
theorem dX0_become_10 : decode cX0_become 10 = .ok (.getfield 13, 3) := by decide +kernel
theorem dX0_become_13 : decode cX0_become 13 = .ok (.putfield 13, 3) := by decide +kernel
theorem dX0_become_16 : decode cX0_become 16 = .ok (.aload_n 0, 1) := by decide +kernel
theorem dX0_become_17 : decode cX0_become 17 = .ok (.aload_n 1, 1) := by decide +kernel
theorem dX0_become_18 : decode cX0_become 18 = .ok (.getfield 16, 3) := by decide +kernel
theorem dX0_become_21 : decode cX0_become 21 = .ok (.putfield 16, 3) := by decide +kernel
theorem dX0_become_24 : decode cX0_become 24 = .ok (.aload_n 0, 1) := by decide +kernel
theorem dX0_become_25 : decode cX0_become 25 = .ok (.aload_n 1, 1) := by decide +kernel
theorem dX0_become_26 : decode cX0_become 26 = .ok (.getfield 19, 3) := by decide +kernel
theorem dX0_become_29 : decode cX0_become 29 = .ok (.putfield 19, 3) := by decide +kernel
theorem dX0_become_32 : decode cX0_become 32 = .ok (.aload_n 0, 1) := by decide +kernel
theorem dX0_become_33 : decode cX0_become 33 = .ok (.aload_n 1, 1) := by decide +kernel
theorem dX0_become_34 : decode cX0_become 34 = .ok (.getfield 22, 3) := by decide +kernel
theorem dX0_become_37 : decode cX0_become 37 = .ok (.putfield 22, 3) := by decide +kernel
theorem dX0_become_40 : decode cX0_become 40 = .ok (.return_, 1) := by decide +kernel
theorem dX1_init_0 : decode cX1_init 0 = .ok (.aload_n 0, 1) := by decide +kernel
theorem dX1_init_1 : decode cX1_init 1 = .ok (.invokespecial 3, 3) := by decide +kernel
theorem dX1_init_4 : decode cX1_init 4 = .ok (.aload_n 0, 1) := by decide +kernel
theorem dX1_init_5 : decode cX1_init 5 = .ok (.iconst 0, 1) := by decide +kernel
theorem dX1_init_6 : decode cX1_init 6 = .ok (.putfield 9, 3) := by decide +kernel
theorem dX1_init_9 : decode cX1_init 9 = .ok (.aload_n 0, 1) := by decide +kernel
theorem dX1_init_10 : decode cX1_init 10 = .ok (.bipush 60, 2) := by decide +kernel
theorem dX1_init_12 : decode cX1_init 12 = .ok (.putfield 15, 3) := by decide +kernel
theorem dX1_init_15 : decode cX1_init 15 = .ok (.aload_n 0, 1) := by decide +kernel
theorem dX1_init_16 : decode cX1_init 16 = .ok (.iconst 0, 1) := by decide +kernel
theorem dX1_init_17 : decode cX1_init 17 = .ok (.putfield 18, 3) := by decide +kernel
theorem dX1_init_20 : decode cX1_init 20 = .ok (.aload_n 0, 1) := by decide +kernel
theorem dX1_init_21 : decode cX1_init 21 = .ok (.iconst 0, 1) := by decide +kernel
theorem dX1_init_22 : decode cX1_init 22 = .ok (.putfield 21, 3) := by decide +kernel
theorem dX1_init_25 : decode cX1_init 25 = .ok (.aload_n 0, 1) := by decide +kernel
theorem dX1_init_26 : decode cX1_init 26 = .ok (.bipush 6, 2) := by decide +kernel
theorem dX1_init_28 : decode cX1_init 28 = .ok (.anewarray 24, 3) := by decide +kernel
theorem dX1_init_31 : decode cX1_init 31 = .ok (.putfield 26, 3) := by decide +kernel
theorem dX1_init_34 : decode cX1_init 34 = .ok (.iconst 0, 1) := by decide +kernel
theorem dX1_init_35 : decode cX1_init 35 = .ok (.istore_n 1, 1) := by decide +kernel
theorem dX1_init_36 : decode cX1_init 36 = .ok (.iload_n 1, 1) := by decide +kernel
theorem dX1_init_37 : decode cX1_init 37 = .ok (.bipush 6, 2) := by decide +kernel
theorem dX1_init_39 : decode cX1_init 39 = .ok (.if_icmp .ge 22, 3) := by decide +kernel
theorem dX1_init_42 : decode cX1_init 42 = .ok (.aload_n 0, 1) := by decide +kernel
theorem dX1_init_43 : decode cX1_init 43 = .ok (.getfield 26, 3) := by decide +kernel
theorem dX1_init_46 : decode cX1_init 46 = .ok (.iload_n 1, 1) := by decide +kernel
theorem dX1_init_47 : decode cX1_init 47 = .ok (.new 24, 3) := by decide +kernel
theorem dX1_init_50 : decode cX1_init 50 = .ok (.dup, 1) := by decide +kernel
theorem dX1_init_51 : decode cX1_init 51 = .ok (.invokespecial 30, 3) := by decide +kernel
theorem dX1_init_54 : decode cX1_init 54 = .ok (.aastore, 1) := by decide +kernel
theorem dX1_init_55 : decode cX1_init 55 = .ok (.iinc 1 1, 3) := by decide +kernel
theorem dX1_init_58 : decode cX1_init 58 = .ok (.goto (-22), 3) := by decide +kernel
theorem dX1_init_61 : decode cX1_init 61 = .ok (.return_, 1) := by decide +kernel
theorem dX1_become_0 : decode cX1_become 0 = .ok (.aload_n 0, 1) := by decide +kernel
theorem dX1_become_1 : decode cX1_become 1 = .ok (.aload_n 1, 1) := by decide +kernel
theorem dX1_become_2 : decode cX1_become 2 = .ok (.getfield 9, 3) := by decide +kernel
theorem dX1_become_5 : decode cX1_become 5 = .ok (.putfield 9, 3) := by decide +kernel
theorem dX1_become_8 : decode cX1_become 8 = .ok (.aload_n 0, 1) := by decide +kernel
theorem dX1_become_9 : decode cX1_become 9 = .ok (.aload_n 1, 1) := by decide +kernel
theorem dX1_become_10 : decode cX1_become 10 = .ok (.getfield 15, 3) := by decide +kernel
theorem dX1_become_13 : decode cX1_become 13 = .ok (.putfield 15, 3) := by decide +kernel
theorem dX1_become_16 : decode cX1_become 16 = .ok (.aload_n 0, 1) := by decide +kernel
theorem dX1_become_17 : decode cX1_become 17 = .ok (.aload_n 1, 1) := by decide +kernel
theorem dX1_become_18 : decode cX1_become 18 = .ok (.getfield 18, 3) := by decide +kernel
theorem dX1_become_21 : decode cX1_become 21 = .ok (.putfield 18, 3) := by decide +kernel
theorem dX1_become_24 : decode cX1_become 24 = .ok (.aload_n 0, 1) := by decide +kernel
theorem dX1_become_25 : decode cX1_become 25 = .ok (.aload_n 1, 1) := by decide +kernel
theorem dX1_become_26 : decode cX1_become 26 = .ok (.getfield 21, 3) := by decide +kernel
theorem dX1_become_29 : decode cX1_become 29 = .ok (.putfield 21, 3) := by decide +kernel
theorem dX1_become_32 : decode cX1_become 32 = .ok (.iconst 0, 1) := by decide +kernel
theorem dX1_become_33 : decode cX1_become 33 = .ok (.istore_n 2, 1) := by decide +kernel
theorem dX1_become_34 : decode cX1_become 34 = .ok (.iload_n 2, 1) := by decide +kernel
theorem dX1_become_35 : decode cX1_become 35 = .ok (.aload_n 0, 1) := by decide +kernel
theorem dX1_become_36 : decode cX1_become 36 = .ok (.getfield 21, 3) := by decide +kernel
theorem dX1_become_39 : decode cX1_become 39 = .ok (.if_icmp .ge 24, 3) := by decide +kernel
theorem dX1_become_42 : decode cX1_become 42 = .ok (.aload_n 0, 1) := by decide +kernel
theorem dX1_become_43 : decode cX1_become 43 = .ok (.getfield 26, 3) := by decide +kernel
theorem dX1_become_46 : decode cX1_become 46 = .ok (.iload_n 2, 1) := by decide +kernel
theorem dX1_become_47 : decode cX1_become 47 = .ok (.aaload, 1) := by decide +kernel
theorem dX1_become_48 : decode cX1_become 48 = .ok (.aload_n 1, 1) := by decide +kernel
theorem dX1_become_49 : decode cX1_become 49 = .ok (.getfield 26, 3) := by decide +kernel
theorem dX1_become_52 : decode cX1_become 52 = .ok (.iload_n 2, 1) := by decide +kernel
theorem dX1_become_53 : decode cX1_become 53 = .ok (.aaload, 1) := by decide +kernel
theorem dX1_become_54 : decode cX1_become 54 = .ok (.invokevirtual 31, 3) := by decide +kernel
theorem dX1_become_57 : decode cX1_become 57 = .ok (.iinc 2 1, 3) := by decide +kernel
theorem dX1_become_60 : decode cX1_become 60 = .ok (.goto (-26), 3) := by decide +kernel
theorem dX1_become_63 : decode cX1_become 63 = .ok (.return_, 1) := by decide +kernel
theorem dX1_warm_0 : decode cX1_warm 0 = .ok (.iconst 0, 1) := by decide +kernel
theorem dX1_warm_1 : decode cX1_warm 1 = .ok (.istore_n 1, 1) := by decide +kernel
theorem dX1_warm_2 : decode cX1_warm 2 = .ok (.iconst 0, 1) := by decide +kernel
theorem dX1_warm_3 : decode cX1_warm 3 = .ok (.istore_n 2, 1) := by decide +kernel
theorem dX1_warm_4 : decode cX1_warm 4 = .ok (.iload_n 2, 1) := by decide +kernel
theorem dX1_warm_5 : decode cX1_warm 5 = .ok (.aload_n 0, 1) := by decide +kernel
theorem dX1_warm_6 : decode cX1_warm 6 = .ok (.getfield 21, 3) := by decide +kernel
theorem dX1_warm_9 : decode cX1_warm 9 = .ok (.if_icmp .ge 21, 3) := by decide +kernel
theorem dX1_warm_12 : decode cX1_warm 12 = .ok (.iload_n 1, 1) := by decide +kernel
theorem dX1_warm_13 : decode cX1_warm 13 = .ok (.aload_n 0, 1) := by decide +kernel
theorem dX1_warm_14 : decode cX1_warm 14 = .ok (.getfield 26, 3) := by decide +kernel
theorem dX1_warm_17 : decode cX1_warm 17 = .ok (.iload_n 2, 1) := by decide +kernel
theorem dX1_warm_18 : decode cX1_warm 18 = .ok (.aaload, 1) := by decide +kernel
theorem dX1_warm_19 : decode cX1_warm 19 = .ok (.getfield 35, 3) := by decide +kernel
theorem dX1_warm_22 : decode cX1_warm 22 = .ok (.iadd, 1) := by decide +kernel
theorem dX1_warm_23 : decode cX1_warm 23 = .ok (.istore_n 1, 1) := by decide +kernel
theorem dX1_warm_24 : decode cX1_warm 24 = .ok (.iinc 2 1, 3) := by decide +kernel
theorem dX1_warm_27 : decode cX1_warm 27 = .ok (.goto (-23), 3) := by decide +kernel
theorem dX1_warm_30 : decode cX1_warm 30 = .ok (.iload_n 1, 1) := by decide +kernel
theorem dX1_warm_31 : decode cX1_warm 31 = .ok (.ireturn, 1) := by decide +kernel
theorem dX1_boiling_0 : decode cX1_boiling 0 = .ok (.iconst 0, 1) := by decide +kernel
theorem dX1_boiling_1 : decode cX1_boiling 1 = .ok (.istore_n 1, 1) := by decide +kernel
theorem dX1_boiling_2 : decode cX1_boiling 2 = .ok (.iconst 0, 1) := by decide +kernel
theorem dX1_boiling_3 : decode cX1_boiling 3 = .ok (.istore_n 2, 1) := by decide +kernel
theorem dX1_boiling_4 : decode cX1_boiling 4 = .ok (.iload_n 2, 1) := by decide +kernel
theorem dX1_boiling_5 : decode cX1_boiling 5 = .ok (.aload_n 0, 1) := by decide +kernel
theorem dX1_boiling_6 : decode cX1_boiling 6 = .ok (.getfield 21, 3) := by decide +kernel
theorem dX1_boiling_9 : decode cX1_boiling 9 = .ok (.if_icmp .ge 28, 3) := by decide +kernel
theorem dX1_boiling_12 : decode cX1_boiling 12 = .ok (.aload_n 0, 1) := by decide +kernel
theorem dX1_boiling_13 : decode cX1_boiling 13 = .ok (.getfield 26, 3) := by decide +kernel
theorem dX1_boiling_16 : decode cX1_boiling 16 = .ok (.iload_n 2, 1) := by decide +kernel
theorem dX1_boiling_17 : decode cX1_boiling 17 = .ok (.aaload, 1) := by decide +kernel
theorem dX1_boiling_18 : decode cX1_boiling 18 = .ok (.getfield 35, 3) := by decide +kernel
theorem dX1_boiling_21 : decode cX1_boiling 21 = .ok (.aload_n 0, 1) := by decide +kernel
theorem dX1_boiling_22 : decode cX1_boiling 22 = .ok (.getfield 15, 3) := by decide +kernel
theorem dX1_boiling_25 : decode cX1_boiling 25 = .ok (.if_icmp .lt 6, 3) := by decide +kernel
theorem dX1_boiling_28 : decode cX1_boiling 28 = .ok (.iinc 1 1, 3) := by decide +kernel
theorem dX1_boiling_31 : decode cX1_boiling 31 = .ok (.iinc 2 1, 3) := by decide +kernel
theorem dX1_boiling_34 : decode cX1_boiling 34 = .ok (.goto (-30), 3) := by decide +kernel
theorem dX1_boiling_37 : decode cX1_boiling 37 = .ok (.iload_n 1, 1) := by decide +kernel
theorem dX1_boiling_38 : decode cX1_boiling 38 = .ok (.ireturn, 1) := by decide +kernel
theorem dX2_init_0 : decode cX2_init 0 = .ok (.aload_n 0, 1) := by decide +kernel
theorem dX2_init_1 : decode cX2_init 1 = .ok (.invokespecial 3, 3) := by decide +kernel
theorem dX2_init_4 : decode cX2_init 4 = .ok (.aload_n 0, 1) := by decide +kernel
theorem dX2_init_5 : decode cX2_init 5 = .ok (.iconst 0, 1) := by decide +kernel
theorem dX2_init_6 : decode cX2_init 6 = .ok (.putfield 9, 3) := by decide +kernel
theorem dX2_init_9 : decode cX2_init 9 = .ok (.aload_n 0, 1) := by decide +kernel
theorem dX2_init_10 : decode cX2_init 10 = .ok (.iconst 0, 1) := by decide +kernel
theorem dX2_init_11 : decode cX2_init 11 = .ok (.putfield 15, 3) := by decide +kernel
theorem dX2_init_14 : decode cX2_init 14 = .ok (.aload_n 0, 1) := by decide +kernel
theorem dX2_init_15 : decode cX2_init 15 = .ok (.iconst 0, 1) := by decide +kernel
theorem dX2_init_16 : decode cX2_init 16 = .ok (.putfield 18, 3) := by decide +kernel
theorem dX2_init_19 : decode cX2_init 19 = .ok (.aload_n 0, 1) := by decide +kernel
theorem dX2_init_20 : decode cX2_init 20 = .ok (.iconst 0, 1) := by decide +kernel
theorem dX2_init_21 : decode cX2_init 21 = .ok (.putfield 21, 3) := by decide +kernel
theorem dX2_init_24 : decode cX2_init 24 = .ok (.aload_n 0, 1) := by decide +kernel
theorem dX2_init_25 : decode cX2_init 25 = .ok (.iconst 0, 1) := by decide +kernel
theorem dX2_init_26 : decode cX2_init 26 = .ok (.putfield 24, 3) := by decide +kernel
theorem dX2_init_29 : decode cX2_init 29 = .ok (.aload_n 0, 1) := by decide +kernel
theorem dX2_init_30 : decode cX2_init 30 = .ok (.iconst 0, 1) := by decide +kernel
theorem dX2_init_31 : decode cX2_init 31 = .ok (.putfield 27, 3) := by decide +kernel
theorem dX2_init_34 : decode cX2_init 34 = .ok (.aload_n 0, 1) := by decide +kernel
theorem dX2_init_35 : decode cX2_init 35 = .ok (.iconst 0, 1) := by decide +kernel
theorem dX2_init_36 : decode cX2_init 36 = .ok (.putfield 30, 3) := by decide +kernel
theorem dX2_init_39 : decode cX2_init 39 = .ok (.aload_n 0, 1) := by decide +kernel
theorem dX2_init_40 : decode cX2_init 40 = .ok (.iconst 0, 1) := by decide +kernel
theorem dX2_init_41 : decode cX2_init 41 = .ok (.putfield 33, 3) := by decide +kernel
theorem dX2_init_44 : decode cX2_init 44 = .ok (.aload_n 0, 1) := by decide +kernel
theorem dX2_init_45 : decode cX2_init 45 = .ok (.iconst (-1), 1) := by decide +kernel
theorem dX2_init_46 : decode cX2_init 46 = .ok (.putfield 36, 3) := by decide +kernel
theorem dX2_init_49 : decode cX2_init 49 = .ok (.aload_n 0, 1) := by decide +kernel
theorem dX2_init_50 : decode cX2_init 50 = .ok (.bipush 6, 2) := by decide +kernel
theorem dX2_init_52 : decode cX2_init 52 = .ok (.newarray .int, 2) := by decide +kernel
theorem dX2_init_54 : decode cX2_init 54 = .ok (.putfield 39, 3) := by decide +kernel
theorem dX2_init_57 : decode cX2_init 57 = .ok (.return_, 1) := by decide +kernel
theorem dX2_heats_0 : decode cX2_heats 0 = .ok (.aload_n 0, 1) := by decide +kernel
theorem dX2_heats_1 : decode cX2_heats 1 = .ok (.invokevirtual 43, 3) := by decide +kernel
theorem dX2_heats_4 : decode cX2_heats 4 = .ok (.aload_n 1, 1) := by decide +kernel
theorem dX2_heats_5 : decode cX2_heats 5 = .ok (.iconst 0, 1) := by decide +kernel
theorem dX2_heats_6 : decode cX2_heats 6 = .ok (.aload_n 0, 1) := by decide +kernel
theorem dX2_heats_7 : decode cX2_heats 7 = .ok (.getfield 39, 3) := by decide +kernel
theorem dX2_heats_10 : decode cX2_heats 10 = .ok (.invokevirtual 46, 3) := by decide +kernel
theorem dX2_heats_13 : decode cX2_heats 13 = .ok (.invokestatic 52, 3) := by decide +kernel
theorem dX2_heats_16 : decode cX2_heats 16 = .ok (.istore_n 2, 1) := by decide +kernel
theorem dX2_heats_17 : decode cX2_heats 17 = .ok (.aload_n 0, 1) := by decide +kernel
theorem dX2_heats_18 : decode cX2_heats 18 = .ok (.getfield 9, 3) := by decide +kernel
theorem dX2_heats_21 : decode cX2_heats 21 = .ok (.tableswitch 86 1 5 #[35, 42, 46, 67, 79], 35) := by decide +kernel
theorem dX2_heats_56 : decode cX2_heats 56 = .ok (.iload_n 2, 1) := by decide +kernel
theorem dX2_heats_57 : decode cX2_heats 57 = .ok (.iconst 3, 1) := by decide +kernel
theorem dX2_heats_58 : decode cX2_heats 58 = .ok (.iadd, 1) := by decide +kernel
theorem dX2_heats_59 : decode cX2_heats 59 = .ok (.invokestatic 52, 3) := by decide +kernel
theorem dX2_heats_62 : decode cX2_heats 62 = .ok (.ireturn, 1) := by decide +kernel
theorem dX2_heats_63 : decode cX2_heats 63 = .ok (.iload_n 2, 1) := by decide +kernel
theorem dX2_heats_64 : decode cX2_heats 64 = .ok (.iconst 2, 1) := by decide +kernel
theorem dX2_heats_65 : decode cX2_heats 65 = .ok (.idiv, 1) := by decide +kernel
theorem dX2_heats_66 : decode cX2_heats 66 = .ok (.ireturn, 1) := by decide +kernel
theorem dX2_heats_67 : decode cX2_heats 67 = .ok (.aload_n 0, 1) := by decide +kernel
theorem dX2_heats_68 : decode cX2_heats 68 = .ok (.getfield 24, 3) := by decide +kernel
theorem dX2_heats_71 : decode cX2_heats 71 = .ok (.iconst 4, 1) := by decide +kernel
theorem dX2_heats_72 : decode cX2_heats 72 = .ok (.irem, 1) := by decide +kernel
theorem dX2_heats_73 : decode cX2_heats 73 = .ok (.iconst 1, 1) := by decide +kernel
theorem dX2_heats_74 : decode cX2_heats 74 = .ok (.if_icmp .ne 7, 3) := by decide +kernel
theorem dX2_heats_77 : decode cX2_heats 77 = .ok (.iconst 0, 1) := by decide +kernel
theorem dX2_heats_78 : decode cX2_heats 78 = .ok (.goto 9, 3) := by decide +kernel
theorem dX2_heats_81 : decode cX2_heats 81 = .ok (.iload_n 2, 1) := by decide +kernel
theorem dX2_heats_82 : decode cX2_heats 82 = .ok (.iconst 3, 1) := by decide +kernel
theorem dX2_heats_83 : decode cX2_heats 83 = .ok (.iadd, 1) := by decide +kernel
theorem dX2_heats_84 : decode cX2_heats 84 = .ok (.invokestatic 52, 3) := by decide +kernel
theorem dX2_heats_87 : decode cX2_heats 87 = .ok (.ireturn, 1) := by decide +kernel
theorem dX2_heats_88 : decode cX2_heats 88 = .ok (.iload_n 2, 1) := by decide +kernel
theorem dX2_heats_89 : decode cX2_heats 89 = .ok (.iconst 2, 1) := by decide +kernel
theorem dX2_heats_90 : decode cX2_heats 90 = .ok (.idiv, 1) := by decide +kernel
theorem dX2_heats_91 : decode cX2_heats 91 = .ok (.aload_n 0, 1) := by decide +kernel
theorem dX2_heats_92 : decode cX2_heats 92 = .ok (.getfield 15, 3) := by decide +kernel
theorem dX2_heats_95 : decode cX2_heats 95 = .ok (.isub, 1) := by decide +kernel
theorem dX2_heats_96 : decode cX2_heats 96 = .ok (.invokestatic 52, 3) := by decide +kernel
theorem dX2_heats_99 : decode cX2_heats 99 = .ok (.ireturn, 1) := by decide +kernel
theorem dX2_heats_100 : decode cX2_heats 100 = .ok (.iconst 2, 1) := by decide +kernel
theorem dX2_heats_101 : decode cX2_heats 101 = .ok (.iload_n 2, 1) := by decide +kernel
theorem dX2_heats_102 : decode cX2_heats 102 = .ok (.imul, 1) := by decide +kernel
theorem dX2_heats_103 : decode cX2_heats 103 = .ok (.invokestatic 52, 3) := by decide +kernel
theorem dX2_heats_106 : decode cX2_heats 106 = .ok (.ireturn, 1) := by decide +kernel
theorem dX2_heats_107 : decode cX2_heats 107 = .ok (.iload_n 2, 1) := by decide +kernel
theorem dX2_heats_108 : decode cX2_heats 108 = .ok (.ireturn, 1) := by decide +kernel
theorem dX2_calms_0 : decode cX2_calms 0 = .ok (.aload_n 0, 1) := by decide +kernel
theorem dX2_calms_1 : decode cX2_calms 1 = .ok (.invokevirtual 43, 3) := by decide +kernel
theorem dX2_calms_4 : decode cX2_calms 4 = .ok (.aload_n 1, 1) := by decide +kernel
theorem dX2_calms_5 : decode cX2_calms 5 = .ok (.iconst 1, 1) := by decide +kernel
theorem dX2_calms_6 : decode cX2_calms 6 = .ok (.aload_n 0, 1) := by decide +kernel
theorem dX2_calms_7 : decode cX2_calms 7 = .ok (.getfield 39, 3) := by decide +kernel
theorem dX2_calms_10 : decode cX2_calms 10 = .ok (.invokevirtual 46, 3) := by decide +kernel
theorem dX2_calms_13 : decode cX2_calms 13 = .ok (.invokestatic 52, 3) := by decide +kernel
theorem dX2_calms_16 : decode cX2_calms 16 = .ok (.istore_n 2, 1) := by decide +kernel
theorem dX2_calms_17 : decode cX2_calms 17 = .ok (.aload_n 0, 1) := by decide +kernel
theorem dX2_calms_18 : decode cX2_calms 18 = .ok (.getfield 18, 3) := by decide +kernel
theorem dX2_calms_21 : decode cX2_calms 21 = .ok (.iconst 2, 1) := by decide +kernel
theorem dX2_calms_22 : decode cX2_calms 22 = .ok (.irem, 1) := by decide +kernel
theorem dX2_calms_23 : decode cX2_calms 23 = .ok (.ifCond .ne 7, 3) := by decide +kernel
theorem dX2_calms_26 : decode cX2_calms 26 = .ok (.iload_n 2, 1) := by decide +kernel
theorem dX2_calms_27 : decode cX2_calms 27 = .ok (.goto 6, 3) := by decide +kernel
theorem dX2_calms_30 : decode cX2_calms 30 = .ok (.iload_n 2, 1) := by decide +kernel
theorem dX2_calms_31 : decode cX2_calms 31 = .ok (.iconst 2, 1) := by decide +kernel
theorem dX2_calms_32 : decode cX2_calms 32 = .ok (.idiv, 1) := by decide +kernel
theorem dX2_calms_33 : decode cX2_calms 33 = .ok (.istore_n 3, 1) := by decide +kernel
theorem dX2_calms_34 : decode cX2_calms 34 = .ok (.aload_n 0, 1) := by decide +kernel
theorem dX2_calms_35 : decode cX2_calms 35 = .ok (.getfield 9, 3) := by decide +kernel
theorem dX2_calms_38 : decode cX2_calms 38 = .ok (.tableswitch 87 1 5 #[34, 36, 43, 53, 82], 34) := by decide +kernel
theorem dX2_calms_72 : decode cX2_calms 72 = .ok (.iload_n 3, 1) := by decide +kernel
theorem dX2_calms_73 : decode cX2_calms 73 = .ok (.ireturn, 1) := by decide +kernel
theorem dX2_calms_74 : decode cX2_calms 74 = .ok (.iload_n 2, 1) := by decide +kernel
theorem dX2_calms_75 : decode cX2_calms 75 = .ok (.iconst 2, 1) := by decide +kernel
theorem dX2_calms_76 : decode cX2_calms 76 = .ok (.iadd, 1) := by decide +kernel
theorem dX2_calms_77 : decode cX2_calms 77 = .ok (.invokestatic 52, 3) := by decide +kernel
theorem dX2_calms_80 : decode cX2_calms 80 = .ok (.ireturn, 1) := by decide +kernel
theorem dX2_calms_81 : decode cX2_calms 81 = .ok (.iload_n 3, 1) := by decide +kernel
theorem dX2_calms_82 : decode cX2_calms 82 = .ok (.aload_n 0, 1) := by decide +kernel
theorem dX2_calms_83 : decode cX2_calms 83 = .ok (.getfield 15, 3) := by decide +kernel
theorem dX2_calms_86 : decode cX2_calms 86 = .ok (.iadd, 1) := by decide +kernel
theorem dX2_calms_87 : decode cX2_calms 87 = .ok (.invokestatic 52, 3) := by decide +kernel
theorem dX2_calms_90 : decode cX2_calms 90 = .ok (.ireturn, 1) := by decide +kernel
theorem dX2_calms_91 : decode cX2_calms 91 = .ok (.aload_n 0, 1) := by decide +kernel
theorem dX2_calms_92 : decode cX2_calms 92 = .ok (.getfield 18, 3) := by decide +kernel
theorem dX2_calms_95 : decode cX2_calms 95 = .ok (.bipush 7, 2) := by decide +kernel
theorem dX2_calms_97 : decode cX2_calms 97 = .ok (.if_icmp .eq 12, 3) := by decide +kernel
theorem dX2_calms_100 : decode cX2_calms 100 = .ok (.aload_n 0, 1) := by decide +kernel
theorem dX2_calms_101 : decode cX2_calms 101 = .ok (.getfield 18, 3) := by decide +kernel
theorem dX2_calms_104 : decode cX2_calms 104 = .ok (.bipush 13, 2) := by decide +kernel
theorem dX2_calms_106 : decode cX2_calms 106 = .ok (.if_icmp .ne 7, 3) := by decide +kernel
theorem dX2_calms_109 : decode cX2_calms 109 = .ok (.iconst 0, 1) := by decide +kernel
theorem dX2_calms_110 : decode cX2_calms 110 = .ok (.goto 9, 3) := by decide +kernel
theorem dX2_calms_113 : decode cX2_calms 113 = .ok (.iload_n 2, 1) := by decide +kernel
theorem dX2_calms_114 : decode cX2_calms 114 = .ok (.iconst 2, 1) := by decide +kernel
theorem dX2_calms_115 : decode cX2_calms 115 = .ok (.iadd, 1) := by decide +kernel
theorem dX2_calms_116 : decode cX2_calms 116 = .ok (.invokestatic 52, 3) := by decide +kernel
theorem dX2_calms_119 : decode cX2_calms 119 = .ok (.ireturn, 1) := by decide +kernel
theorem dX2_calms_120 : decode cX2_calms 120 = .ok (.aload_n 0, 1) := by decide +kernel
theorem dX2_calms_121 : decode cX2_calms 121 = .ok (.getfield 18, 3) := by decide +kernel
theorem dX2_calms_124 : decode cX2_calms 124 = .ok (.ireturn, 1) := by decide +kernel
theorem dX2_calms_125 : decode cX2_calms 125 = .ok (.iload_n 2, 1) := by decide +kernel
theorem dX2_calms_126 : decode cX2_calms 126 = .ok (.ireturn, 1) := by decide +kernel
theorem dX2_feels_0 : decode cX2_feels 0 = .ok (.aload_n 0, 1) := by decide +kernel
theorem dX2_feels_1 : decode cX2_feels 1 = .ok (.invokevirtual 56, 3) := by decide +kernel
theorem dX2_feels_4 : decode cX2_feels 4 = .ok (.aload_n 0, 1) := by decide +kernel
theorem dX2_feels_5 : decode cX2_feels 5 = .ok (.getfield 39, 3) := by decide +kernel
theorem dX2_feels_8 : decode cX2_feels 8 = .ok (.iconst 0, 1) := by decide +kernel
theorem dX2_feels_9 : decode cX2_feels 9 = .ok (.aload_n 0, 1) := by decide +kernel
theorem dX2_feels_10 : decode cX2_feels 10 = .ok (.getfield 18, 3) := by decide +kernel
theorem dX2_feels_13 : decode cX2_feels 13 = .ok (.iastore, 1) := by decide +kernel
theorem dX2_feels_14 : decode cX2_feels 14 = .ok (.aload_n 0, 1) := by decide +kernel
theorem dX2_feels_15 : decode cX2_feels 15 = .ok (.getfield 39, 3) := by decide +kernel
theorem dX2_feels_18 : decode cX2_feels 18 = .ok (.iconst 2, 1) := by decide +kernel
theorem dX2_feels_19 : decode cX2_feels 19 = .ok (.aload_n 0, 1) := by decide +kernel
theorem dX2_feels_20 : decode cX2_feels 20 = .ok (.getfield 15, 3) := by decide +kernel
theorem dX2_feels_23 : decode cX2_feels 23 = .ok (.iastore, 1) := by decide +kernel
theorem dX2_feels_24 : decode cX2_feels 24 = .ok (.aload_n 1, 1) := by decide +kernel
theorem dX2_feels_25 : decode cX2_feels 25 = .ok (.iconst 2, 1) := by decide +kernel
theorem dX2_feels_26 : decode cX2_feels 26 = .ok (.aload_n 0, 1) := by decide +kernel
theorem dX2_feels_27 : decode cX2_feels 27 = .ok (.getfield 39, 3) := by decide +kernel
theorem dX2_feels_30 : decode cX2_feels 30 = .ok (.invokevirtual 46, 3) := by decide +kernel
theorem dX2_feels_33 : decode cX2_feels 33 = .ok (.invokestatic 52, 3) := by decide +kernel
theorem dX2_feels_36 : decode cX2_feels 36 = .ok (.istore_n 2, 1) := by decide +kernel
theorem dX2_feels_37 : decode cX2_feels 37 = .ok (.aload_n 0, 1) := by decide +kernel
theorem dX2_feels_38 : decode cX2_feels 38 = .ok (.getfield 9, 3) := by decide +kernel
theorem dX2_feels_41 : decode cX2_feels 41 = .ok (.tableswitch 61 2 5 #[31, 36, 43, 50], 31) := by decide +kernel
theorem dX2_feels_72 : decode cX2_feels 72 = .ok (.iload_n 2, 1) := by decide +kernel
theorem dX2_feels_73 : decode cX2_feels 73 = .ok (.bipush 10, 2) := by decide +kernel
theorem dX2_feels_75 : decode cX2_feels 75 = .ok (.irem, 1) := by decide +kernel
theorem dX2_feels_76 : decode cX2_feels 76 = .ok (.ireturn, 1) := by decide +kernel
theorem dX2_feels_77 : decode cX2_feels 77 = .ok (.iconst 2, 1) := by decide +kernel
theorem dX2_feels_78 : decode cX2_feels 78 = .ok (.iload_n 2, 1) := by decide +kernel
theorem dX2_feels_79 : decode cX2_feels 79 = .ok (.imul, 1) := by decide +kernel
theorem dX2_feels_80 : decode cX2_feels 80 = .ok (.invokestatic 52, 3) := by decide +kernel
theorem dX2_feels_83 : decode cX2_feels 83 = .ok (.ireturn, 1) := by decide +kernel
theorem dX2_feels_84 : decode cX2_feels 84 = .ok (.iload_n 2, 1) := by decide +kernel
theorem dX2_feels_85 : decode cX2_feels 85 = .ok (.bipush 10, 2) := by decide +kernel
theorem dX2_feels_87 : decode cX2_feels 87 = .ok (.irem, 1) := by decide +kernel
theorem dX2_feels_88 : decode cX2_feels 88 = .ok (.iconst 1, 1) := by decide +kernel
theorem dX2_feels_89 : decode cX2_feels 89 = .ok (.iadd, 1) := by decide +kernel
theorem dX2_feels_90 : decode cX2_feels 90 = .ok (.ireturn, 1) := by decide +kernel
theorem dX2_feels_91 : decode cX2_feels 91 = .ok (.iload_n 2, 1) := by decide +kernel
theorem dX2_feels_92 : decode cX2_feels 92 = .ok (.iconst 5, 1) := by decide +kernel
theorem dX2_feels_93 : decode cX2_feels 93 = .ok (.if_icmp .ge 7, 3) := by decide +kernel
theorem dX2_feels_96 : decode cX2_feels 96 = .ok (.iconst 0, 1) := by decide +kernel
theorem dX2_feels_97 : decode cX2_feels 97 = .ok (.goto 4, 3) := by decide +kernel
theorem dX2_feels_100 : decode cX2_feels 100 = .ok (.iload_n 2, 1) := by decide +kernel
theorem dX2_feels_101 : decode cX2_feels 101 = .ok (.ireturn, 1) := by decide +kernel
theorem dX2_feels_102 : decode cX2_feels 102 = .ok (.iload_n 2, 1) := by decide +kernel
theorem dX2_feels_103 : decode cX2_feels 103 = .ok (.ireturn, 1) := by decide +kernel
theorem dX2_boilsInADay_0 : decode cX2_boilsInADay 0 = .ok (.aload_n 0, 1) := by decide +kernel
theorem dX2_boilsInADay_1 : decode cX2_boilsInADay 1 = .ok (.bipush 99, 2) := by decide +kernel
theorem dX2_boilsInADay_3 : decode cX2_boilsInADay 3 = .ok (.aload_n 0, 1) := by decide +kernel
theorem dX2_boilsInADay_4 : decode cX2_boilsInADay 4 = .ok (.getfield 21, 3) := by decide +kernel
theorem dX2_boilsInADay_7 : decode cX2_boilsInADay 7 = .ok (.aload_n 0, 1) := by decide +kernel
theorem dX2_boilsInADay_8 : decode cX2_boilsInADay 8 = .ok (.aload_n 1, 1) := by decide +kernel
theorem dX2_boilsInADay_9 : decode cX2_boilsInADay 9 = .ok (.invokevirtual 59, 3) := by decide +kernel
theorem dX2_boilsInADay_12 : decode cX2_boilsInADay 12 = .ok (.iadd, 1) := by decide +kernel
theorem dX2_boilsInADay_13 : decode cX2_boilsInADay 13 = .ok (.invokestatic 63, 3) := by decide +kernel
theorem dX2_boilsInADay_16 : decode cX2_boilsInADay 16 = .ok (.putfield 21, 3) := by decide +kernel
theorem dX2_boilsInADay_19 : decode cX2_boilsInADay 19 = .ok (.aload_n 0, 1) := by decide +kernel
theorem dX2_boilsInADay_20 : decode cX2_boilsInADay 20 = .ok (.getfield 21, 3) := by decide +kernel
theorem dX2_boilsInADay_23 : decode cX2_boilsInADay 23 = .ok (.iload_n 2, 1) := by decide +kernel
theorem dX2_boilsInADay_24 : decode cX2_boilsInADay 24 = .ok (.if_icmp .lt 7, 3) := by decide +kernel
theorem dX2_boilsInADay_27 : decode cX2_boilsInADay 27 = .ok (.iconst 1, 1) := by decide +kernel
theorem dX2_boilsInADay_28 : decode cX2_boilsInADay 28 = .ok (.goto 4, 3) := by decide +kernel
theorem dX2_boilsInADay_31 : decode cX2_boilsInADay 31 = .ok (.iconst 0, 1) := by decide +kernel
theorem dX2_boilsInADay_32 : decode cX2_boilsInADay 32 = .ok (.istore_n 3, 1) := by decide +kernel
theorem dX2_boilsInADay_33 : decode cX2_boilsInADay 33 = .ok (.aload_n 0, 1) := by decide +kernel
theorem dX2_boilsInADay_34 : decode cX2_boilsInADay 34 = .ok (.iconst 0, 1) := by decide +kernel
theorem dX2_boilsInADay_35 : decode cX2_boilsInADay 35 = .ok (.aload_n 0, 1) := by decide +kernel
theorem dX2_boilsInADay_36 : decode cX2_boilsInADay 36 = .ok (.getfield 21, 3) := by decide +kernel
theorem dX2_boilsInADay_39 : decode cX2_boilsInADay 39 = .ok (.aload_n 0, 1) := by decide +kernel
theorem dX2_boilsInADay_40 : decode cX2_boilsInADay 40 = .ok (.aload_n 1, 1) := by decide +kernel
theorem dX2_boilsInADay_41 : decode cX2_boilsInADay 41 = .ok (.invokevirtual 69, 3) := by decide +kernel
theorem dX2_boilsInADay_44 : decode cX2_boilsInADay 44 = .ok (.isub, 1) := by decide +kernel
theorem dX2_boilsInADay_45 : decode cX2_boilsInADay 45 = .ok (.invokestatic 72, 3) := by decide +kernel
theorem dX2_boilsInADay_48 : decode cX2_boilsInADay 48 = .ok (.putfield 21, 3) := by decide +kernel
theorem dX2_boilsInADay_51 : decode cX2_boilsInADay 51 = .ok (.aload_n 0, 1) := by decide +kernel
theorem dX2_boilsInADay_52 : decode cX2_boilsInADay 52 = .ok (.dup, 1) := by decide +kernel
theorem dX2_boilsInADay_53 : decode cX2_boilsInADay 53 = .ok (.getfield 24, 3) := by decide +kernel
theorem dX2_boilsInADay_56 : decode cX2_boilsInADay 56 = .ok (.iconst 1, 1) := by decide +kernel
theorem dX2_boilsInADay_57 : decode cX2_boilsInADay 57 = .ok (.iadd, 1) := by decide +kernel
theorem dX2_boilsInADay_58 : decode cX2_boilsInADay 58 = .ok (.putfield 24, 3) := by decide +kernel
theorem dX2_boilsInADay_61 : decode cX2_boilsInADay 61 = .ok (.iload_n 3, 1) := by decide +kernel
theorem dX2_boilsInADay_62 : decode cX2_boilsInADay 62 = .ok (.ireturn, 1) := by decide +kernel
theorem dX2_lives_0 : decode cX2_lives 0 = .ok (.aload_n 0, 1) := by decide +kernel
theorem dX2_lives_1 : decode cX2_lives 1 = .ok (.iconst 0, 1) := by decide +kernel
theorem dX2_lives_2 : decode cX2_lives 2 = .ok (.putfield 33, 3) := by decide +kernel
theorem dX2_lives_5 : decode cX2_lives 5 = .ok (.aload_n 0, 1) := by decide +kernel
theorem dX2_lives_6 : decode cX2_lives 6 = .ok (.iconst (-1), 1) := by decide +kernel
theorem dX2_lives_7 : decode cX2_lives 7 = .ok (.putfield 36, 3) := by decide +kernel
theorem dX2_lives_10 : decode cX2_lives 10 = .ok (.iconst 0, 1) := by decide +kernel
theorem dX2_lives_11 : decode cX2_lives 11 = .ok (.istore 4, 2) := by decide +kernel
theorem dX2_lives_13 : decode cX2_lives 13 = .ok (.iload 4, 2) := by decide +kernel
theorem dX2_lives_15 : decode cX2_lives 15 = .ok (.iload_n 3, 1) := by decide +kernel
theorem dX2_lives_16 : decode cX2_lives 16 = .ok (.if_icmp .ge 49, 3) := by decide +kernel
theorem dX2_lives_19 : decode cX2_lives 19 = .ok (.aload_n 0, 1) := by decide +kernel
theorem dX2_lives_20 : decode cX2_lives 20 = .ok (.aload_n 1, 1) := by decide +kernel
theorem dX2_lives_21 : decode cX2_lives 21 = .ok (.iload_n 2, 1) := by decide +kernel
theorem dX2_lives_22 : decode cX2_lives 22 = .ok (.invokevirtual 75, 3) := by decide +kernel
theorem dX2_lives_25 : decode cX2_lives 25 = .ok (.ifCond .eq 34, 3) := by decide +kernel
theorem dX2_lives_28 : decode cX2_lives 28 = .ok (.aload_n 0, 1) := by decide +kernel
theorem dX2_lives_29 : decode cX2_lives 29 = .ok (.dup, 1) := by decide +kernel
theorem dX2_lives_30 : decode cX2_lives 30 = .ok (.getfield 33, 3) := by decide +kernel
theorem dX2_lives_33 : decode cX2_lives 33 = .ok (.iconst 1, 1) := by decide +kernel
theorem dX2_lives_34 : decode cX2_lives 34 = .ok (.iadd, 1) := by decide +kernel
theorem dX2_lives_35 : decode cX2_lives 35 = .ok (.putfield 33, 3) := by decide +kernel
theorem dX2_lives_38 : decode cX2_lives 38 = .ok (.aload_n 0, 1) := by decide +kernel
theorem dX2_lives_39 : decode cX2_lives 39 = .ok (.aload_n 0, 1) := by decide +kernel
theorem dX2_lives_40 : decode cX2_lives 40 = .ok (.getfield 36, 3) := by decide +kernel
theorem dX2_lives_43 : decode cX2_lives 43 = .ok (.iconst (-1), 1) := by decide +kernel
theorem dX2_lives_44 : decode cX2_lives 44 = .ok (.if_icmp .ne 8, 3) := by decide +kernel
theorem dX2_lives_47 : decode cX2_lives 47 = .ok (.iload 4, 2) := by decide +kernel
theorem dX2_lives_49 : decode cX2_lives 49 = .ok (.goto 7, 3) := by decide +kernel
theorem dX2_lives_52 : decode cX2_lives 52 = .ok (.aload_n 0, 1) := by decide +kernel
theorem dX2_lives_53 : decode cX2_lives 53 = .ok (.getfield 36, 3) := by decide +kernel
theorem dX2_lives_56 : decode cX2_lives 56 = .ok (.putfield 36, 3) := by decide +kernel
theorem dX2_lives_59 : decode cX2_lives 59 = .ok (.iinc 4 1, 3) := by decide +kernel
theorem dX2_lives_62 : decode cX2_lives 62 = .ok (.goto (-49), 3) := by decide +kernel
theorem dX2_lives_65 : decode cX2_lives 65 = .ok (.return_, 1) := by decide +kernel
theorem dX2_nameAll_0 : decode cX2_nameAll 0 = .ok (.aload_n 0, 1) := by decide +kernel
theorem dX2_nameAll_1 : decode cX2_nameAll 1 = .ok (.getfield 39, 3) := by decide +kernel
theorem dX2_nameAll_4 : decode cX2_nameAll 4 = .ok (.iconst 0, 1) := by decide +kernel
theorem dX2_nameAll_5 : decode cX2_nameAll 5 = .ok (.aload_n 0, 1) := by decide +kernel
theorem dX2_nameAll_6 : decode cX2_nameAll 6 = .ok (.getfield 18, 3) := by decide +kernel
theorem dX2_nameAll_9 : decode cX2_nameAll 9 = .ok (.iastore, 1) := by decide +kernel
theorem dX2_nameAll_10 : decode cX2_nameAll 10 = .ok (.aload_n 0, 1) := by decide +kernel
theorem dX2_nameAll_11 : decode cX2_nameAll 11 = .ok (.getfield 39, 3) := by decide +kernel
theorem dX2_nameAll_14 : decode cX2_nameAll 14 = .ok (.iconst 1, 1) := by decide +kernel
theorem dX2_nameAll_15 : decode cX2_nameAll 15 = .ok (.aload_n 0, 1) := by decide +kernel
theorem dX2_nameAll_16 : decode cX2_nameAll 16 = .ok (.getfield 21, 3) := by decide +kernel
theorem dX2_nameAll_19 : decode cX2_nameAll 19 = .ok (.iastore, 1) := by decide +kernel
theorem dX2_nameAll_20 : decode cX2_nameAll 20 = .ok (.aload_n 0, 1) := by decide +kernel
theorem dX2_nameAll_21 : decode cX2_nameAll 21 = .ok (.getfield 39, 3) := by decide +kernel
theorem dX2_nameAll_24 : decode cX2_nameAll 24 = .ok (.iconst 2, 1) := by decide +kernel
theorem dX2_nameAll_25 : decode cX2_nameAll 25 = .ok (.aload_n 0, 1) := by decide +kernel
theorem dX2_nameAll_26 : decode cX2_nameAll 26 = .ok (.getfield 15, 3) := by decide +kernel
theorem dX2_nameAll_29 : decode cX2_nameAll 29 = .ok (.iastore, 1) := by decide +kernel
theorem dX2_nameAll_30 : decode cX2_nameAll 30 = .ok (.aload_n 0, 1) := by decide +kernel
theorem dX2_nameAll_31 : decode cX2_nameAll 31 = .ok (.getfield 39, 3) := by decide +kernel
theorem dX2_nameAll_34 : decode cX2_nameAll 34 = .ok (.iconst 3, 1) := by decide +kernel
theorem dX2_nameAll_35 : decode cX2_nameAll 35 = .ok (.aload_n 0, 1) := by decide +kernel
theorem dX2_nameAll_36 : decode cX2_nameAll 36 = .ok (.getfield 24, 3) := by decide +kernel
theorem dX2_nameAll_39 : decode cX2_nameAll 39 = .ok (.iastore, 1) := by decide +kernel
theorem dX2_nameAll_40 : decode cX2_nameAll 40 = .ok (.aload_n 0, 1) := by decide +kernel
theorem dX2_nameAll_41 : decode cX2_nameAll 41 = .ok (.getfield 39, 3) := by decide +kernel
theorem dX2_nameAll_44 : decode cX2_nameAll 44 = .ok (.iconst 4, 1) := by decide +kernel
theorem dX2_nameAll_45 : decode cX2_nameAll 45 = .ok (.aload_n 0, 1) := by decide +kernel
theorem dX2_nameAll_46 : decode cX2_nameAll 46 = .ok (.getfield 27, 3) := by decide +kernel
theorem dX2_nameAll_49 : decode cX2_nameAll 49 = .ok (.iastore, 1) := by decide +kernel
theorem dX2_nameAll_50 : decode cX2_nameAll 50 = .ok (.aload_n 0, 1) := by decide +kernel
theorem dX2_nameAll_51 : decode cX2_nameAll 51 = .ok (.getfield 39, 3) := by decide +kernel
theorem dX2_nameAll_54 : decode cX2_nameAll 54 = .ok (.iconst 5, 1) := by decide +kernel
theorem dX2_nameAll_55 : decode cX2_nameAll 55 = .ok (.aload_n 0, 1) := by decide +kernel
theorem dX2_nameAll_56 : decode cX2_nameAll 56 = .ok (.getfield 30, 3) := by decide +kernel
theorem dX2_nameAll_59 : decode cX2_nameAll 59 = .ok (.iastore, 1) := by decide +kernel
theorem dX2_nameAll_60 : decode cX2_nameAll 60 = .ok (.return_, 1) := by decide +kernel
theorem dX2_nameNone_0 : decode cX2_nameNone 0 = .ok (.iconst 0, 1) := by decide +kernel
theorem dX2_nameNone_1 : decode cX2_nameNone 1 = .ok (.istore_n 1, 1) := by decide +kernel
theorem dX2_nameNone_2 : decode cX2_nameNone 2 = .ok (.iload_n 1, 1) := by decide +kernel
theorem dX2_nameNone_3 : decode cX2_nameNone 3 = .ok (.bipush 6, 2) := by decide +kernel
theorem dX2_nameNone_5 : decode cX2_nameNone 5 = .ok (.if_icmp .ge 16, 3) := by decide +kernel
theorem dX2_nameNone_8 : decode cX2_nameNone 8 = .ok (.aload_n 0, 1) := by decide +kernel
theorem dX2_nameNone_9 : decode cX2_nameNone 9 = .ok (.getfield 39, 3) := by decide +kernel
theorem dX2_nameNone_12 : decode cX2_nameNone 12 = .ok (.iload_n 1, 1) := by decide +kernel
theorem dX2_nameNone_13 : decode cX2_nameNone 13 = .ok (.iconst 0, 1) := by decide +kernel
theorem dX2_nameNone_14 : decode cX2_nameNone 14 = .ok (.iastore, 1) := by decide +kernel
theorem dX2_nameNone_15 : decode cX2_nameNone 15 = .ok (.iinc 1 1, 3) := by decide +kernel
theorem dX2_nameNone_18 : decode cX2_nameNone 18 = .ok (.goto (-16), 3) := by decide +kernel
theorem dX2_nameNone_21 : decode cX2_nameNone 21 = .ok (.return_, 1) := by decide +kernel
theorem dX3_init_0 : decode cX3_init 0 = .ok (.aload_n 0, 1) := by decide +kernel
theorem dX3_init_1 : decode cX3_init 1 = .ok (.invokespecial 3, 3) := by decide +kernel
theorem dX3_init_4 : decode cX3_init 4 = .ok (.aload_n 0, 1) := by decide +kernel
theorem dX3_init_5 : decode cX3_init 5 = .ok (.iconst 0, 1) := by decide +kernel
theorem dX3_init_6 : decode cX3_init 6 = .ok (.putfield 9, 3) := by decide +kernel
theorem dX3_init_9 : decode cX3_init 9 = .ok (.aload_n 0, 1) := by decide +kernel
theorem dX3_init_10 : decode cX3_init 10 = .ok (.bipush 6, 2) := by decide +kernel
theorem dX3_init_12 : decode cX3_init 12 = .ok (.newarray .int, 2) := by decide +kernel
theorem dX3_init_14 : decode cX3_init 14 = .ok (.putfield 15, 3) := by decide +kernel
theorem dX3_init_17 : decode cX3_init 17 = .ok (.aload_n 0, 1) := by decide +kernel
theorem dX3_init_18 : decode cX3_init 18 = .ok (.bipush 6, 2) := by decide +kernel
theorem dX3_init_20 : decode cX3_init 20 = .ok (.newarray .int, 2) := by decide +kernel
theorem dX3_init_22 : decode cX3_init 22 = .ok (.putfield 19, 3) := by decide +kernel
theorem dX3_init_25 : decode cX3_init 25 = .ok (.aload_n 0, 1) := by decide +kernel
theorem dX3_init_26 : decode cX3_init 26 = .ok (.bipush 6, 2) := by decide +kernel
theorem dX3_init_28 : decode cX3_init 28 = .ok (.newarray .int, 2) := by decide +kernel
theorem dX3_init_30 : decode cX3_init 30 = .ok (.putfield 22, 3) := by decide +kernel
theorem dX3_init_33 : decode cX3_init 33 = .ok (.return_, 1) := by decide +kernel
theorem dX3_draw_0 : decode cX3_draw 0 = .ok (.iload_n 1, 1) := by decide +kernel
theorem dX3_draw_1 : decode cX3_draw 1 = .ok (.istore_n 2, 1) := by decide +kernel
theorem dX3_draw_2 : decode cX3_draw 2 = .ok (.iconst 0, 1) := by decide +kernel
theorem dX3_draw_3 : decode cX3_draw 3 = .ok (.istore_n 3, 1) := by decide +kernel
theorem dX3_draw_4 : decode cX3_draw 4 = .ok (.iload_n 3, 1) := by decide +kernel
theorem dX3_draw_5 : decode cX3_draw 5 = .ok (.aload_n 0, 1) := by decide +kernel
theorem dX3_draw_6 : decode cX3_draw 6 = .ok (.getfield 9, 3) := by decide +kernel
theorem dX3_draw_9 : decode cX3_draw 9 = .ok (.if_icmp .ge 31, 3) := by decide +kernel
theorem dX3_draw_12 : decode cX3_draw 12 = .ok (.iload_n 2, 1) := by decide +kernel
theorem dX3_draw_13 : decode cX3_draw 13 = .ok (.ldc 25, 2) := by decide +kernel
theorem dX3_draw_15 : decode cX3_draw 15 = .ok (.imul, 1) := by decide +kernel
theorem dX3_draw_16 : decode cX3_draw 16 = .ok (.sipush 12345, 3) := by decide +kernel
theorem dX3_draw_19 : decode cX3_draw 19 = .ok (.iadd, 1) := by decide +kernel
theorem dX3_draw_20 : decode cX3_draw 20 = .ok (.istore_n 2, 1) := by decide +kernel
theorem dX3_draw_21 : decode cX3_draw 21 = .ok (.aload_n 0, 1) := by decide +kernel
theorem dX3_draw_22 : decode cX3_draw 22 = .ok (.getfield 19, 3) := by decide +kernel
theorem dX3_draw_25 : decode cX3_draw 25 = .ok (.iload_n 3, 1) := by decide +kernel
theorem dX3_draw_26 : decode cX3_draw 26 = .ok (.iload_n 2, 1) := by decide +kernel
theorem dX3_draw_27 : decode cX3_draw 27 = .ok (.bipush 9, 2) := by decide +kernel
theorem dX3_draw_29 : decode cX3_draw 29 = .ok (.iushr, 1) := by decide +kernel
theorem dX3_draw_30 : decode cX3_draw 30 = .ok (.bipush 16, 2) := by decide +kernel
theorem dX3_draw_32 : decode cX3_draw 32 = .ok (.irem, 1) := by decide +kernel
theorem dX3_draw_33 : decode cX3_draw 33 = .ok (.iastore, 1) := by decide +kernel
theorem dX3_draw_34 : decode cX3_draw 34 = .ok (.iinc 3 1, 3) := by decide +kernel
theorem dX3_draw_37 : decode cX3_draw 37 = .ok (.goto (-33), 3) := by decide +kernel
theorem dX3_draw_40 : decode cX3_draw 40 = .ok (.return_, 1) := by decide +kernel
theorem dX3_open_0 : decode cX3_open 0 = .ok (.iconst 0, 1) := by decide +kernel
theorem dX3_open_1 : decode cX3_open 1 = .ok (.istore_n 1, 1) := by decide +kernel
theorem dX3_open_2 : decode cX3_open 2 = .ok (.iload_n 1, 1) := by decide +kernel
theorem dX3_open_3 : decode cX3_open 3 = .ok (.aload_n 0, 1) := by decide +kernel
theorem dX3_open_4 : decode cX3_open 4 = .ok (.getfield 9, 3) := by decide +kernel
theorem dX3_open_7 : decode cX3_open 7 = .ok (.if_icmp .ge 29, 3) := by decide +kernel
theorem dX3_open_10 : decode cX3_open 10 = .ok (.aload_n 0, 1) := by decide +kernel
theorem dX3_open_11 : decode cX3_open 11 = .ok (.getfield 22, 3) := by decide +kernel
theorem dX3_open_14 : decode cX3_open 14 = .ok (.iload_n 1, 1) := by decide +kernel
theorem dX3_open_15 : decode cX3_open 15 = .ok (.iconst 1, 1) := by decide +kernel
theorem dX3_open_16 : decode cX3_open 16 = .ok (.iload_n 1, 1) := by decide +kernel
theorem dX3_open_17 : decode cX3_open 17 = .ok (.ishl, 1) := by decide +kernel
theorem dX3_open_18 : decode cX3_open 18 = .ok (.aload_n 0, 1) := by decide +kernel
theorem dX3_open_19 : decode cX3_open 19 = .ok (.aload_n 0, 1) := by decide +kernel
theorem dX3_open_20 : decode cX3_open 20 = .ok (.getfield 19, 3) := by decide +kernel
theorem dX3_open_23 : decode cX3_open 23 = .ok (.iload_n 1, 1) := by decide +kernel
theorem dX3_open_24 : decode cX3_open 24 = .ok (.iaload, 1) := by decide +kernel
theorem dX3_open_25 : decode cX3_open 25 = .ok (.invokevirtual 26, 3) := by decide +kernel
theorem dX3_open_28 : decode cX3_open 28 = .ok (.ior, 1) := by decide +kernel
theorem dX3_open_29 : decode cX3_open 29 = .ok (.iastore, 1) := by decide +kernel
theorem dX3_open_30 : decode cX3_open 30 = .ok (.iinc 1 1, 3) := by decide +kernel
theorem dX3_open_33 : decode cX3_open 33 = .ok (.goto (-31), 3) := by decide +kernel
theorem dX3_open_36 : decode cX3_open 36 = .ok (.iconst 0, 1) := by decide +kernel
theorem dX3_open_37 : decode cX3_open 37 = .ok (.istore_n 1, 1) := by decide +kernel
theorem dX3_open_38 : decode cX3_open 38 = .ok (.iload_n 1, 1) := by decide +kernel
theorem dX3_open_39 : decode cX3_open 39 = .ok (.aload_n 0, 1) := by decide +kernel
theorem dX3_open_40 : decode cX3_open 40 = .ok (.getfield 9, 3) := by decide +kernel
theorem dX3_open_43 : decode cX3_open 43 = .ok (.if_icmp .ge 41, 3) := by decide +kernel
theorem dX3_open_46 : decode cX3_open 46 = .ok (.iconst 0, 1) := by decide +kernel
theorem dX3_open_47 : decode cX3_open 47 = .ok (.istore_n 2, 1) := by decide +kernel
theorem dX3_open_48 : decode cX3_open 48 = .ok (.iload_n 2, 1) := by decide +kernel
theorem dX3_open_49 : decode cX3_open 49 = .ok (.aload_n 0, 1) := by decide +kernel
theorem dX3_open_50 : decode cX3_open 50 = .ok (.getfield 9, 3) := by decide +kernel
theorem dX3_open_53 : decode cX3_open 53 = .ok (.if_icmp .ge 25, 3) := by decide +kernel
theorem dX3_open_56 : decode cX3_open 56 = .ok (.aload_n 0, 1) := by decide +kernel
theorem dX3_open_57 : decode cX3_open 57 = .ok (.getfield 22, 3) := by decide +kernel
theorem dX3_open_60 : decode cX3_open 60 = .ok (.iload_n 2, 1) := by decide +kernel
theorem dX3_open_61 : decode cX3_open 61 = .ok (.aload_n 0, 1) := by decide +kernel
theorem dX3_open_62 : decode cX3_open 62 = .ok (.aload_n 0, 1) := by decide +kernel
theorem dX3_open_63 : decode cX3_open 63 = .ok (.getfield 22, 3) := by decide +kernel
theorem dX3_open_66 : decode cX3_open 66 = .ok (.iload_n 2, 1) := by decide +kernel
theorem dX3_open_67 : decode cX3_open 67 = .ok (.iaload, 1) := by decide +kernel
theorem dX3_open_68 : decode cX3_open 68 = .ok (.invokevirtual 30, 3) := by decide +kernel
theorem dX3_open_71 : decode cX3_open 71 = .ok (.iastore, 1) := by decide +kernel
theorem dX3_open_72 : decode cX3_open 72 = .ok (.iinc 2 1, 3) := by decide +kernel
theorem dX3_open_75 : decode cX3_open 75 = .ok (.goto (-27), 3) := by decide +kernel
theorem dX3_open_78 : decode cX3_open 78 = .ok (.iinc 1 1, 3) := by decide +kernel
theorem dX3_open_81 : decode cX3_open 81 = .ok (.goto (-43), 3) := by decide +kernel
theorem dX3_open_84 : decode cX3_open 84 = .ok (.return_, 1) := by decide +kernel
theorem dX3_openedBy_0 : decode cX3_openedBy 0 = .ok (.iconst 0, 1) := by decide +kernel
theorem dX3_openedBy_1 : decode cX3_openedBy 1 = .ok (.istore_n 2, 1) := by decide +kernel
theorem dX3_openedBy_2 : decode cX3_openedBy 2 = .ok (.iconst 0, 1) := by decide +kernel
theorem dX3_openedBy_3 : decode cX3_openedBy 3 = .ok (.istore_n 3, 1) := by decide +kernel
theorem dX3_openedBy_4 : decode cX3_openedBy 4 = .ok (.iload_n 3, 1) := by decide +kernel
theorem dX3_openedBy_5 : decode cX3_openedBy 5 = .ok (.aload_n 0, 1) := by decide +kernel
theorem dX3_openedBy_6 : decode cX3_openedBy 6 = .ok (.getfield 9, 3) := by decide +kernel
theorem dX3_openedBy_9 : decode cX3_openedBy 9 = .ok (.if_icmp .ge 37, 3) := by decide +kernel
theorem dX3_openedBy_12 : decode cX3_openedBy 12 = .ok (.iload_n 1, 1) := by decide +kernel
theorem dX3_openedBy_13 : decode cX3_openedBy 13 = .ok (.bipush 8, 2) := by decide +kernel
theorem dX3_openedBy_15 : decode cX3_openedBy 15 = .ok (.if_icmp .lt 25, 3) := by decide +kernel
theorem dX3_openedBy_18 : decode cX3_openedBy 18 = .ok (.iload_n 1, 1) := by decide +kernel
theorem dX3_openedBy_19 : decode cX3_openedBy 19 = .ok (.bipush 8, 2) := by decide +kernel
theorem dX3_openedBy_21 : decode cX3_openedBy 21 = .ok (.irem, 1) := by decide +kernel
theorem dX3_openedBy_22 : decode cX3_openedBy 22 = .ok (.aload_n 0, 1) := by decide +kernel
theorem dX3_openedBy_23 : decode cX3_openedBy 23 = .ok (.getfield 15, 3) := by decide +kernel
theorem dX3_openedBy_26 : decode cX3_openedBy 26 = .ok (.iload_n 3, 1) := by decide +kernel
theorem dX3_openedBy_27 : decode cX3_openedBy 27 = .ok (.iaload, 1) := by decide +kernel
theorem dX3_openedBy_28 : decode cX3_openedBy 28 = .ok (.bipush 8, 2) := by decide +kernel
theorem dX3_openedBy_30 : decode cX3_openedBy 30 = .ok (.irem, 1) := by decide +kernel
theorem dX3_openedBy_31 : decode cX3_openedBy 31 = .ok (.if_icmp .ne 9, 3) := by decide +kernel
theorem dX3_openedBy_34 : decode cX3_openedBy 34 = .ok (.iload_n 2, 1) := by decide +kernel
theorem dX3_openedBy_35 : decode cX3_openedBy 35 = .ok (.iconst 1, 1) := by decide +kernel
theorem dX3_openedBy_36 : decode cX3_openedBy 36 = .ok (.iload_n 3, 1) := by decide +kernel
theorem dX3_openedBy_37 : decode cX3_openedBy 37 = .ok (.ishl, 1) := by decide +kernel
theorem dX3_openedBy_38 : decode cX3_openedBy 38 = .ok (.ior, 1) := by decide +kernel
theorem dX3_openedBy_39 : decode cX3_openedBy 39 = .ok (.istore_n 2, 1) := by decide +kernel
theorem dX3_openedBy_40 : decode cX3_openedBy 40 = .ok (.iinc 3 1, 3) := by decide +kernel
theorem dX3_openedBy_43 : decode cX3_openedBy 43 = .ok (.goto (-39), 3) := by decide +kernel
theorem dX3_openedBy_46 : decode cX3_openedBy 46 = .ok (.iload_n 2, 1) := by decide +kernel
theorem dX3_openedBy_47 : decode cX3_openedBy 47 = .ok (.ireturn, 1) := by decide +kernel
theorem dX3_openedFrom_0 : decode cX3_openedFrom 0 = .ok (.iconst 0, 1) := by decide +kernel
theorem dX3_openedFrom_1 : decode cX3_openedFrom 1 = .ok (.istore_n 2, 1) := by decide +kernel
theorem dX3_openedFrom_2 : decode cX3_openedFrom 2 = .ok (.iconst 0, 1) := by decide +kernel
theorem dX3_openedFrom_3 : decode cX3_openedFrom 3 = .ok (.istore_n 3, 1) := by decide +kernel
theorem dX3_openedFrom_4 : decode cX3_openedFrom 4 = .ok (.iload_n 3, 1) := by decide +kernel
theorem dX3_openedFrom_5 : decode cX3_openedFrom 5 = .ok (.aload_n 0, 1) := by decide +kernel
theorem dX3_openedFrom_6 : decode cX3_openedFrom 6 = .ok (.getfield 9, 3) := by decide +kernel
theorem dX3_openedFrom_9 : decode cX3_openedFrom 9 = .ok (.if_icmp .ge 27, 3) := by decide +kernel
theorem dX3_openedFrom_12 : decode cX3_openedFrom 12 = .ok (.iload_n 1, 1) := by decide +kernel
theorem dX3_openedFrom_13 : decode cX3_openedFrom 13 = .ok (.iload_n 3, 1) := by decide +kernel
theorem dX3_openedFrom_14 : decode cX3_openedFrom 14 = .ok (.ishr, 1) := by decide +kernel
theorem dX3_openedFrom_15 : decode cX3_openedFrom 15 = .ok (.iconst 1, 1) := by decide +kernel
theorem dX3_openedFrom_16 : decode cX3_openedFrom 16 = .ok (.iand, 1) := by decide +kernel
theorem dX3_openedFrom_17 : decode cX3_openedFrom 17 = .ok (.iconst 1, 1) := by decide +kernel
theorem dX3_openedFrom_18 : decode cX3_openedFrom 18 = .ok (.if_icmp .ne 12, 3) := by decide +kernel
theorem dX3_openedFrom_21 : decode cX3_openedFrom 21 = .ok (.iload_n 2, 1) := by decide +kernel
theorem dX3_openedFrom_22 : decode cX3_openedFrom 22 = .ok (.aload_n 0, 1) := by decide +kernel
theorem dX3_openedFrom_23 : decode cX3_openedFrom 23 = .ok (.getfield 22, 3) := by decide +kernel
theorem dX3_openedFrom_26 : decode cX3_openedFrom 26 = .ok (.iload_n 3, 1) := by decide +kernel
theorem dX3_openedFrom_27 : decode cX3_openedFrom 27 = .ok (.iaload, 1) := by decide +kernel
theorem dX3_openedFrom_28 : decode cX3_openedFrom 28 = .ok (.ior, 1) := by decide +kernel
theorem dX3_openedFrom_29 : decode cX3_openedFrom 29 = .ok (.istore_n 2, 1) := by decide +kernel
theorem dX3_openedFrom_30 : decode cX3_openedFrom 30 = .ok (.iinc 3 1, 3) := by decide +kernel
theorem dX3_openedFrom_33 : decode cX3_openedFrom 33 = .ok (.goto (-29), 3) := by decide +kernel
theorem dX3_openedFrom_36 : decode cX3_openedFrom 36 = .ok (.iload_n 2, 1) := by decide +kernel
theorem dX3_openedFrom_37 : decode cX3_openedFrom 37 = .ok (.ireturn, 1) := by decide +kernel
theorem dX3_key_0 : decode cX3_key 0 = .ok (.iconst (-1), 1) := by decide +kernel
theorem dX3_key_1 : decode cX3_key 1 = .ok (.istore_n 1, 1) := by decide +kernel
theorem dX3_key_2 : decode cX3_key 2 = .ok (.iconst 0, 1) := by decide +kernel
theorem dX3_key_3 : decode cX3_key 3 = .ok (.istore_n 2, 1) := by decide +kernel
theorem dX3_key_4 : decode cX3_key 4 = .ok (.iconst 0, 1) := by decide +kernel
theorem dX3_key_5 : decode cX3_key 5 = .ok (.istore_n 3, 1) := by decide +kernel
theorem dX3_key_6 : decode cX3_key 6 = .ok (.iload_n 3, 1) := by decide +kernel
theorem dX3_key_7 : decode cX3_key 7 = .ok (.aload_n 0, 1) := by decide +kernel
theorem dX3_key_8 : decode cX3_key 8 = .ok (.getfield 9, 3) := by decide +kernel
theorem dX3_key_11 : decode cX3_key 11 = .ok (.if_icmp .ge 31, 3) := by decide +kernel
theorem dX3_key_14 : decode cX3_key 14 = .ok (.aload_n 0, 1) := by decide +kernel
theorem dX3_key_15 : decode cX3_key 15 = .ok (.getfield 22, 3) := by decide +kernel
theorem dX3_key_18 : decode cX3_key 18 = .ok (.iload_n 3, 1) := by decide +kernel
theorem dX3_key_19 : decode cX3_key 19 = .ok (.iaload, 1) := by decide +kernel
theorem dX3_key_20 : decode cX3_key 20 = .ok (.invokestatic 33, 3) := by decide +kernel
theorem dX3_key_23 : decode cX3_key 23 = .ok (.istore 4, 2) := by decide +kernel
theorem dX3_key_25 : decode cX3_key 25 = .ok (.iload 4, 2) := by decide +kernel
theorem dX3_key_27 : decode cX3_key 27 = .ok (.iload_n 2, 1) := by decide +kernel
theorem dX3_key_28 : decode cX3_key 28 = .ok (.if_icmp .le 8, 3) := by decide +kernel
theorem dX3_key_31 : decode cX3_key 31 = .ok (.iload 4, 2) := by decide +kernel
theorem dX3_key_33 : decode cX3_key 33 = .ok (.istore_n 2, 1) := by decide +kernel
theorem dX3_key_34 : decode cX3_key 34 = .ok (.iload_n 3, 1) := by decide +kernel
theorem dX3_key_35 : decode cX3_key 35 = .ok (.istore_n 1, 1) := by decide +kernel
theorem dX3_key_36 : decode cX3_key 36 = .ok (.iinc 3 1, 3) := by decide +kernel
theorem dX3_key_39 : decode cX3_key 39 = .ok (.goto (-33), 3) := by decide +kernel
theorem dX3_key_42 : decode cX3_key 42 = .ok (.iload_n 1, 1) := by decide +kernel
theorem dX3_key_43 : decode cX3_key 43 = .ok (.ireturn, 1) := by decide +kernel
theorem dX3_mostOpened_0 : decode cX3_mostOpened 0 = .ok (.iconst 0, 1) := by decide +kernel
theorem dX3_mostOpened_1 : decode cX3_mostOpened 1 = .ok (.istore_n 1, 1) := by decide +kernel
theorem dX3_mostOpened_2 : decode cX3_mostOpened 2 = .ok (.iconst 0, 1) := by decide +kernel
theorem dX3_mostOpened_3 : decode cX3_mostOpened 3 = .ok (.istore_n 2, 1) := by decide +kernel
theorem dX3_mostOpened_4 : decode cX3_mostOpened 4 = .ok (.iload_n 2, 1) := by decide +kernel
theorem dX3_mostOpened_5 : decode cX3_mostOpened 5 = .ok (.aload_n 0, 1) := by decide +kernel
theorem dX3_mostOpened_6 : decode cX3_mostOpened 6 = .ok (.getfield 9, 3) := by decide +kernel
theorem dX3_mostOpened_9 : decode cX3_mostOpened 9 = .ok (.if_icmp .ge 23, 3) := by decide +kernel
theorem dX3_mostOpened_12 : decode cX3_mostOpened 12 = .ok (.iload_n 1, 1) := by decide +kernel
theorem dX3_mostOpened_13 : decode cX3_mostOpened 13 = .ok (.aload_n 0, 1) := by decide +kernel
theorem dX3_mostOpened_14 : decode cX3_mostOpened 14 = .ok (.getfield 22, 3) := by decide +kernel
theorem dX3_mostOpened_17 : decode cX3_mostOpened 17 = .ok (.iload_n 2, 1) := by decide +kernel
theorem dX3_mostOpened_18 : decode cX3_mostOpened 18 = .ok (.iaload, 1) := by decide +kernel
theorem dX3_mostOpened_19 : decode cX3_mostOpened 19 = .ok (.invokestatic 33, 3) := by decide +kernel
theorem dX3_mostOpened_22 : decode cX3_mostOpened 22 = .ok (.invokestatic 38, 3) := by decide +kernel
theorem dX3_mostOpened_25 : decode cX3_mostOpened 25 = .ok (.istore_n 1, 1) := by decide +kernel
theorem dX3_mostOpened_26 : decode cX3_mostOpened 26 = .ok (.iinc 2 1, 3) := by decide +kernel
theorem dX3_mostOpened_29 : decode cX3_mostOpened 29 = .ok (.goto (-25), 3) := by decide +kernel
theorem dX3_mostOpened_32 : decode cX3_mostOpened 32 = .ok (.iload_n 1, 1) := by decide +kernel
theorem dX3_mostOpened_33 : decode cX3_mostOpened 33 = .ok (.ireturn, 1) := by decide +kernel
theorem dX3_areAllFromOne_0 : decode cX3_areAllFromOne 0 = .ok (.aload_n 0, 1) := by decide +kernel
theorem dX3_areAllFromOne_1 : decode cX3_areAllFromOne 1 = .ok (.getfield 9, 3) := by decide +kernel
theorem dX3_areAllFromOne_4 : decode cX3_areAllFromOne 4 = .ok (.ifCond .le 18, 3) := by decide +kernel
theorem dX3_areAllFromOne_7 : decode cX3_areAllFromOne 7 = .ok (.aload_n 0, 1) := by decide +kernel
theorem dX3_areAllFromOne_8 : decode cX3_areAllFromOne 8 = .ok (.invokevirtual 44, 3) := by decide +kernel
theorem dX3_areAllFromOne_11 : decode cX3_areAllFromOne 11 = .ok (.aload_n 0, 1) := by decide +kernel
theorem dX3_areAllFromOne_12 : decode cX3_areAllFromOne 12 = .ok (.getfield 9, 3) := by decide +kernel
theorem dX3_areAllFromOne_15 : decode cX3_areAllFromOne 15 = .ok (.if_icmp .ne 7, 3) := by decide +kernel
theorem dX3_areAllFromOne_18 : decode cX3_areAllFromOne 18 = .ok (.iconst 1, 1) := by decide +kernel
theorem dX3_areAllFromOne_19 : decode cX3_areAllFromOne 19 = .ok (.goto 4, 3) := by decide +kernel
theorem dX3_areAllFromOne_22 : decode cX3_areAllFromOne 22 = .ok (.iconst 0, 1) := by decide +kernel
theorem dX3_areAllFromOne_23 : decode cX3_areAllFromOne 23 = .ok (.ireturn, 1) := by decide +kernel
theorem dX3_fewest_0 : decode cX3_fewest 0 = .ok (.iconst 1, 1) := by decide +kernel
theorem dX3_fewest_1 : decode cX3_fewest 1 = .ok (.aload_n 0, 1) := by decide +kernel
theorem dX3_fewest_2 : decode cX3_fewest 2 = .ok (.getfield 9, 3) := by decide +kernel
theorem dX3_fewest_5 : decode cX3_fewest 5 = .ok (.ishl, 1) := by decide +kernel
theorem dX3_fewest_6 : decode cX3_fewest 6 = .ok (.iconst 1, 1) := by decide +kernel
theorem dX3_fewest_7 : decode cX3_fewest 7 = .ok (.isub, 1) := by decide +kernel
theorem dX3_fewest_8 : decode cX3_fewest 8 = .ok (.istore_n 1, 1) := by decide +kernel
theorem dX3_fewest_9 : decode cX3_fewest 9 = .ok (.iload_n 1, 1) := by decide +kernel
theorem dX3_fewest_10 : decode cX3_fewest 10 = .ok (.istore_n 2, 1) := by decide +kernel
theorem dX3_fewest_11 : decode cX3_fewest 11 = .ok (.iconst 0, 1) := by decide +kernel
theorem dX3_fewest_12 : decode cX3_fewest 12 = .ok (.istore_n 3, 1) := by decide +kernel
theorem dX3_fewest_13 : decode cX3_fewest 13 = .ok (.iload_n 3, 1) := by decide +kernel
theorem dX3_fewest_14 : decode cX3_fewest 14 = .ok (.iload_n 1, 1) := by decide +kernel
theorem dX3_fewest_15 : decode cX3_fewest 15 = .ok (.if_icmp .ge 31, 3) := by decide +kernel
theorem dX3_fewest_18 : decode cX3_fewest 18 = .ok (.iload_n 3, 1) := by decide +kernel
theorem dX3_fewest_19 : decode cX3_fewest 19 = .ok (.invokestatic 33, 3) := by decide +kernel
theorem dX3_fewest_22 : decode cX3_fewest 22 = .ok (.iload_n 2, 1) := by decide +kernel
theorem dX3_fewest_23 : decode cX3_fewest 23 = .ok (.invokestatic 33, 3) := by decide +kernel
theorem dX3_fewest_26 : decode cX3_fewest 26 = .ok (.if_icmp .ge 14, 3) := by decide +kernel
theorem dX3_fewest_29 : decode cX3_fewest 29 = .ok (.aload_n 0, 1) := by decide +kernel
theorem dX3_fewest_30 : decode cX3_fewest 30 = .ok (.iload_n 3, 1) := by decide +kernel
theorem dX3_fewest_31 : decode cX3_fewest 31 = .ok (.invokevirtual 30, 3) := by decide +kernel
theorem dX3_fewest_34 : decode cX3_fewest 34 = .ok (.iload_n 1, 1) := by decide +kernel
theorem dX3_fewest_35 : decode cX3_fewest 35 = .ok (.if_icmp .ne 5, 3) := by decide +kernel
theorem dX3_fewest_38 : decode cX3_fewest 38 = .ok (.iload_n 3, 1) := by decide +kernel
theorem dX3_fewest_39 : decode cX3_fewest 39 = .ok (.istore_n 2, 1) := by decide +kernel
theorem dX3_fewest_40 : decode cX3_fewest 40 = .ok (.iinc 3 1, 3) := by decide +kernel
theorem dX3_fewest_43 : decode cX3_fewest 43 = .ok (.goto (-30), 3) := by decide +kernel
theorem dX3_fewest_46 : decode cX3_fewest 46 = .ok (.iload_n 2, 1) := by decide +kernel
theorem dX3_fewest_47 : decode cX3_fewest 47 = .ok (.ireturn, 1) := by decide +kernel
theorem dX4_init_0 : decode cX4_init 0 = .ok (.aload_n 0, 1) := by decide +kernel
theorem dX4_init_1 : decode cX4_init 1 = .ok (.invokespecial 3, 3) := by decide +kernel
theorem dX4_init_4 : decode cX4_init 4 = .ok (.aload_n 0, 1) := by decide +kernel
theorem dX4_init_5 : decode cX4_init 5 = .ok (.new 9, 3) := by decide +kernel
theorem dX4_init_8 : decode cX4_init 8 = .ok (.dup, 1) := by decide +kernel
theorem dX4_init_9 : decode cX4_init 9 = .ok (.invokespecial 11, 3) := by decide +kernel
theorem dX4_init_12 : decode cX4_init 12 = .ok (.putfield 12, 3) := by decide +kernel
theorem dX4_init_15 : decode cX4_init 15 = .ok (.aload_n 0, 1) := by decide +kernel
theorem dX4_init_16 : decode cX4_init 16 = .ok (.aconst_null, 1) := by decide +kernel
theorem dX4_init_17 : decode cX4_init 17 = .ok (.putfield 18, 3) := by decide +kernel
theorem dX4_init_20 : decode cX4_init 20 = .ok (.aload_n 0, 1) := by decide +kernel
theorem dX4_init_21 : decode cX4_init 21 = .ok (.iconst 0, 1) := by decide +kernel
theorem dX4_init_22 : decode cX4_init 22 = .ok (.putfield 22, 3) := by decide +kernel
theorem dX4_init_25 : decode cX4_init 25 = .ok (.aload_n 0, 1) := by decide +kernel
theorem dX4_init_26 : decode cX4_init 26 = .ok (.iconst 0, 1) := by decide +kernel
theorem dX4_init_27 : decode cX4_init 27 = .ok (.putfield 26, 3) := by decide +kernel
theorem dX4_init_30 : decode cX4_init 30 = .ok (.aload_n 0, 1) := by decide +kernel
theorem dX4_init_31 : decode cX4_init 31 = .ok (.bipush 13, 2) := by decide +kernel
theorem dX4_init_33 : decode cX4_init 33 = .ok (.putfield 29, 3) := by decide +kernel
theorem dX4_init_36 : decode cX4_init 36 = .ok (.return_, 1) := by decide +kernel
theorem dX4_read_0 : decode cX4_read 0 = .ok (.aload_n 0, 1) := by decide +kernel
theorem dX4_read_1 : decode cX4_read 1 = .ok (.aload_n 1, 1) := by decide +kernel
theorem dX4_read_2 : decode cX4_read 2 = .ok (.putfield 18, 3) := by decide +kernel
theorem dX4_read_5 : decode cX4_read 5 = .ok (.aload_n 0, 1) := by decide +kernel
theorem dX4_read_6 : decode cX4_read 6 = .ok (.iconst 0, 1) := by decide +kernel
theorem dX4_read_7 : decode cX4_read 7 = .ok (.putfield 22, 3) := by decide +kernel
theorem dX4_read_10 : decode cX4_read 10 = .ok (.aload_n 0, 1) := by decide +kernel
theorem dX4_read_11 : decode cX4_read 11 = .ok (.iconst 0, 1) := by decide +kernel
theorem dX4_read_12 : decode cX4_read 12 = .ok (.putfield 26, 3) := by decide +kernel
theorem dX4_read_15 : decode cX4_read 15 = .ok (.aload_n 0, 1) := by decide +kernel
theorem dX4_read_16 : decode cX4_read 16 = .ok (.getfield 12, 3) := by decide +kernel
theorem dX4_read_19 : decode cX4_read 19 = .ok (.invokevirtual 32, 3) := by decide +kernel
theorem dX4_read_22 : decode cX4_read 22 = .ok (.aload_n 0, 1) := by decide +kernel
theorem dX4_read_23 : decode cX4_read 23 = .ok (.aload_n 0, 1) := by decide +kernel
theorem dX4_read_24 : decode cX4_read 24 = .ok (.getfield 12, 3) := by decide +kernel
theorem dX4_read_27 : decode cX4_read 27 = .ok (.getfield 35, 3) := by decide +kernel
theorem dX4_read_30 : decode cX4_read 30 = .ok (.iconst 0, 1) := by decide +kernel
theorem dX4_read_31 : decode cX4_read 31 = .ok (.iaload, 1) := by decide +kernel
theorem dX4_read_32 : decode cX4_read 32 = .ok (.putfield 29, 3) := by decide +kernel
theorem dX4_read_35 : decode cX4_read 35 = .ok (.aload_n 0, 1) := by decide +kernel
theorem dX4_read_36 : decode cX4_read 36 = .ok (.invokevirtual 39, 3) := by decide +kernel
theorem dX4_read_39 : decode cX4_read 39 = .ok (.ifCond .eq 16, 3) := by decide +kernel
theorem dX4_read_42 : decode cX4_read 42 = .ok (.aload_n 0, 1) := by decide +kernel
theorem dX4_read_43 : decode cX4_read 43 = .ok (.getfield 29, 3) := by decide +kernel
theorem dX4_read_46 : decode cX4_read 46 = .ok (.bipush 13, 2) := by decide +kernel
theorem dX4_read_48 : decode cX4_read 48 = .ok (.if_icmp .ne 7, 3) := by decide +kernel
theorem dX4_read_51 : decode cX4_read 51 = .ok (.iconst 1, 1) := by decide +kernel
theorem dX4_read_52 : decode cX4_read 52 = .ok (.goto 4, 3) := by decide +kernel
theorem dX4_read_55 : decode cX4_read 55 = .ok (.iconst 0, 1) := by decide +kernel
theorem dX4_read_56 : decode cX4_read 56 = .ok (.istore_n 2, 1) := by decide +kernel
theorem dX4_read_57 : decode cX4_read 57 = .ok (.aload_n 0, 1) := by decide +kernel
theorem dX4_read_58 : decode cX4_read 58 = .ok (.getfield 12, 3) := by decide +kernel
theorem dX4_read_61 : decode cX4_read 61 = .ok (.iconst 0, 1) := by decide +kernel
theorem dX4_read_62 : decode cX4_read 62 = .ok (.putfield 43, 3) := by decide +kernel
theorem dX4_read_65 : decode cX4_read 65 = .ok (.iload_n 2, 1) := by decide +kernel
theorem dX4_read_66 : decode cX4_read 66 = .ok (.ifCond .eq 7, 3) := by decide +kernel
theorem dX4_read_69 : decode cX4_read 69 = .ok (.iconst (-1), 1) := by decide +kernel
theorem dX4_read_70 : decode cX4_read 70 = .ok (.goto 15, 3) := by decide +kernel
theorem dX4_read_73 : decode cX4_read 73 = .ok (.aload_n 0, 1) := by decide +kernel
theorem dX4_read_74 : decode cX4_read 74 = .ok (.getfield 12, 3) := by decide +kernel
theorem dX4_read_77 : decode cX4_read 77 = .ok (.getfield 46, 3) := by decide +kernel
theorem dX4_read_80 : decode cX4_read 80 = .ok (.aload_n 0, 1) := by decide +kernel
theorem dX4_read_81 : decode cX4_read 81 = .ok (.getfield 26, 3) := by decide +kernel
theorem dX4_read_84 : decode cX4_read 84 = .ok (.iaload, 1) := by decide +kernel
theorem dX4_read_85 : decode cX4_read 85 = .ok (.ireturn, 1) := by decide +kernel
theorem dX4_readsParts_0 : decode cX4_readsParts 0 = .ok (.iconst 0, 1) := by decide +kernel
theorem dX4_readsParts_1 : decode cX4_readsParts 1 = .ok (.istore_n 1, 1) := by decide +kernel
theorem dX4_readsParts_2 : decode cX4_readsParts 2 = .ok (.iload_n 1, 1) := by decide +kernel
theorem dX4_readsParts_3 : decode cX4_readsParts 3 = .ok (.iconst 3, 1) := by decide +kernel
theorem dX4_readsParts_4 : decode cX4_readsParts 4 = .ok (.if_icmp .ge 44, 3) := by decide +kernel
theorem dX4_readsParts_7 : decode cX4_readsParts 7 = .ok (.aload_n 0, 1) := by decide +kernel
theorem dX4_readsParts_8 : decode cX4_readsParts 8 = .ok (.iload_n 1, 1) := by decide +kernel
theorem dX4_readsParts_9 : decode cX4_readsParts 9 = .ok (.invokevirtual 49, 3) := by decide +kernel
theorem dX4_readsParts_12 : decode cX4_readsParts 12 = .ok (.aload_n 0, 1) := by decide +kernel
theorem dX4_readsParts_13 : decode cX4_readsParts 13 = .ok (.bipush 6, 2) := by decide +kernel
theorem dX4_readsParts_15 : decode cX4_readsParts 15 = .ok (.iload_n 1, 1) := by decide +kernel
theorem dX4_readsParts_16 : decode cX4_readsParts 16 = .ok (.iadd, 1) := by decide +kernel
theorem dX4_readsParts_17 : decode cX4_readsParts 17 = .ok (.invokevirtual 53, 3) := by decide +kernel
theorem dX4_readsParts_20 : decode cX4_readsParts 20 = .ok (.ifCond .eq 20, 3) := by decide +kernel
theorem dX4_readsParts_23 : decode cX4_readsParts 23 = .ok (.aload_n 0, 1) := by decide +kernel
theorem dX4_readsParts_24 : decode cX4_readsParts 24 = .ok (.iconst 0, 1) := by decide +kernel
theorem dX4_readsParts_25 : decode cX4_readsParts 25 = .ok (.invokevirtual 57, 3) := by decide +kernel
theorem dX4_readsParts_28 : decode cX4_readsParts 28 = .ok (.ifCond .eq 12, 3) := by decide +kernel
theorem dX4_readsParts_31 : decode cX4_readsParts 31 = .ok (.aload_n 0, 1) := by decide +kernel
theorem dX4_readsParts_32 : decode cX4_readsParts 32 = .ok (.bipush 59, 2) := by decide +kernel
theorem dX4_readsParts_34 : decode cX4_readsParts 34 = .ok (.invokevirtual 53, 3) := by decide +kernel
theorem dX4_readsParts_37 : decode cX4_readsParts 37 = .ok (.ifCond .ne 5, 3) := by decide +kernel
theorem dX4_readsParts_40 : decode cX4_readsParts 40 = .ok (.iconst 0, 1) := by decide +kernel
theorem dX4_readsParts_41 : decode cX4_readsParts 41 = .ok (.ireturn, 1) := by decide +kernel
theorem dX4_readsParts_42 : decode cX4_readsParts 42 = .ok (.iinc 1 1, 3) := by decide +kernel
theorem dX4_readsParts_45 : decode cX4_readsParts 45 = .ok (.goto (-43), 3) := by decide +kernel
theorem dX4_readsParts_48 : decode cX4_readsParts 48 = .ok (.aload_n 0, 1) := by decide +kernel
theorem dX4_readsParts_49 : decode cX4_readsParts 49 = .ok (.iconst 3, 1) := by decide +kernel
theorem dX4_readsParts_50 : decode cX4_readsParts 50 = .ok (.invokevirtual 49, 3) := by decide +kernel
theorem dX4_readsParts_53 : decode cX4_readsParts 53 = .ok (.iconst 1, 1) := by decide +kernel
theorem dX4_readsParts_54 : decode cX4_readsParts 54 = .ok (.ireturn, 1) := by decide +kernel
theorem dX4_readsAny_0 : decode cX4_readsAny 0 = .ok (.aload_n 0, 1) := by decide +kernel
theorem dX4_readsAny_1 : decode cX4_readsAny 1 = .ok (.iload_n 1, 1) := by decide +kernel
theorem dX4_readsAny_2 : decode cX4_readsAny 2 = .ok (.invokevirtual 60, 3) := by decide +kernel
theorem dX4_readsAny_5 : decode cX4_readsAny 5 = .ok (.ifCond .ne 5, 3) := by decide +kernel
theorem dX4_readsAny_8 : decode cX4_readsAny 8 = .ok (.iconst 0, 1) := by decide +kernel
theorem dX4_readsAny_9 : decode cX4_readsAny 9 = .ok (.ireturn, 1) := by decide +kernel
theorem dX4_readsAny_10 : decode cX4_readsAny 10 = .ok (.iconst 0, 1) := by decide +kernel
theorem dX4_readsAny_11 : decode cX4_readsAny 11 = .ok (.istore_n 2, 1) := by decide +kernel
theorem dX4_readsAny_12 : decode cX4_readsAny 12 = .ok (.iload_n 2, 1) := by decide +kernel
theorem dX4_readsAny_13 : decode cX4_readsAny 13 = .ok (.sipush 160, 3) := by decide +kernel
theorem dX4_readsAny_16 : decode cX4_readsAny 16 = .ok (.if_icmp .ge 38, 3) := by decide +kernel
theorem dX4_readsAny_19 : decode cX4_readsAny 19 = .ok (.aload_n 0, 1) := by decide +kernel
theorem dX4_readsAny_20 : decode cX4_readsAny 20 = .ok (.getfield 29, 3) := by decide +kernel
theorem dX4_readsAny_23 : decode cX4_readsAny 23 = .ok (.bipush 9, 2) := by decide +kernel
theorem dX4_readsAny_25 : decode cX4_readsAny 25 = .ok (.if_icmp .ne 29, 3) := by decide +kernel
theorem dX4_readsAny_28 : decode cX4_readsAny 28 = .ok (.aload_n 0, 1) := by decide +kernel
theorem dX4_readsAny_29 : decode cX4_readsAny 29 = .ok (.invokevirtual 63, 3) := by decide +kernel
theorem dX4_readsAny_32 : decode cX4_readsAny 32 = .ok (.aload_n 0, 1) := by decide +kernel
theorem dX4_readsAny_33 : decode cX4_readsAny 33 = .ok (.iload_n 1, 1) := by decide +kernel
theorem dX4_readsAny_34 : decode cX4_readsAny 34 = .ok (.invokevirtual 60, 3) := by decide +kernel
theorem dX4_readsAny_37 : decode cX4_readsAny 37 = .ok (.ifCond .ne 5, 3) := by decide +kernel
theorem dX4_readsAny_40 : decode cX4_readsAny 40 = .ok (.iconst 0, 1) := by decide +kernel
theorem dX4_readsAny_41 : decode cX4_readsAny 41 = .ok (.ireturn, 1) := by decide +kernel
theorem dX4_readsAny_42 : decode cX4_readsAny 42 = .ok (.aload_n 0, 1) := by decide +kernel
theorem dX4_readsAny_43 : decode cX4_readsAny 43 = .ok (.bipush (-9), 2) := by decide +kernel
theorem dX4_readsAny_45 : decode cX4_readsAny 45 = .ok (.invokevirtual 66, 3) := by decide +kernel
theorem dX4_readsAny_48 : decode cX4_readsAny 48 = .ok (.iinc 2 1, 3) := by decide +kernel
theorem dX4_readsAny_51 : decode cX4_readsAny 51 = .ok (.goto (-39), 3) := by decide +kernel
theorem dX4_readsAny_54 : decode cX4_readsAny 54 = .ok (.iconst 1, 1) := by decide +kernel
theorem dX4_readsAny_55 : decode cX4_readsAny 55 = .ok (.ireturn, 1) := by decide +kernel
theorem dX4_readsAll_0 : decode cX4_readsAll 0 = .ok (.aload_n 0, 1) := by decide +kernel
theorem dX4_readsAll_1 : decode cX4_readsAll 1 = .ok (.iload_n 1, 1) := by decide +kernel
theorem dX4_readsAll_2 : decode cX4_readsAll 2 = .ok (.invokevirtual 69, 3) := by decide +kernel
theorem dX4_readsAll_5 : decode cX4_readsAll 5 = .ok (.ifCond .ne 5, 3) := by decide +kernel
theorem dX4_readsAll_8 : decode cX4_readsAll 8 = .ok (.iconst 0, 1) := by decide +kernel
theorem dX4_readsAll_9 : decode cX4_readsAll 9 = .ok (.ireturn, 1) := by decide +kernel
theorem dX4_readsAll_10 : decode cX4_readsAll 10 = .ok (.iconst 0, 1) := by decide +kernel
theorem dX4_readsAll_11 : decode cX4_readsAll 11 = .ok (.istore_n 2, 1) := by decide +kernel
theorem dX4_readsAll_12 : decode cX4_readsAll 12 = .ok (.iload_n 2, 1) := by decide +kernel
theorem dX4_readsAll_13 : decode cX4_readsAll 13 = .ok (.sipush 160, 3) := by decide +kernel
theorem dX4_readsAll_16 : decode cX4_readsAll 16 = .ok (.if_icmp .ge 38, 3) := by decide +kernel
theorem dX4_readsAll_19 : decode cX4_readsAll 19 = .ok (.aload_n 0, 1) := by decide +kernel
theorem dX4_readsAll_20 : decode cX4_readsAll 20 = .ok (.getfield 29, 3) := by decide +kernel
theorem dX4_readsAll_23 : decode cX4_readsAll 23 = .ok (.bipush 10, 2) := by decide +kernel
theorem dX4_readsAll_25 : decode cX4_readsAll 25 = .ok (.if_icmp .ne 29, 3) := by decide +kernel
theorem dX4_readsAll_28 : decode cX4_readsAll 28 = .ok (.aload_n 0, 1) := by decide +kernel
theorem dX4_readsAll_29 : decode cX4_readsAll 29 = .ok (.invokevirtual 63, 3) := by decide +kernel
theorem dX4_readsAll_32 : decode cX4_readsAll 32 = .ok (.aload_n 0, 1) := by decide +kernel
theorem dX4_readsAll_33 : decode cX4_readsAll 33 = .ok (.iload_n 1, 1) := by decide +kernel
theorem dX4_readsAll_34 : decode cX4_readsAll 34 = .ok (.invokevirtual 69, 3) := by decide +kernel
theorem dX4_readsAll_37 : decode cX4_readsAll 37 = .ok (.ifCond .ne 5, 3) := by decide +kernel
theorem dX4_readsAll_40 : decode cX4_readsAll 40 = .ok (.iconst 0, 1) := by decide +kernel
theorem dX4_readsAll_41 : decode cX4_readsAll 41 = .ok (.ireturn, 1) := by decide +kernel
theorem dX4_readsAll_42 : decode cX4_readsAll 42 = .ok (.aload_n 0, 1) := by decide +kernel
theorem dX4_readsAll_43 : decode cX4_readsAll 43 = .ok (.bipush (-10), 2) := by decide +kernel
theorem dX4_readsAll_45 : decode cX4_readsAll 45 = .ok (.invokevirtual 66, 3) := by decide +kernel
theorem dX4_readsAll_48 : decode cX4_readsAll 48 = .ok (.iinc 2 1, 3) := by decide +kernel
theorem dX4_readsAll_51 : decode cX4_readsAll 51 = .ok (.goto (-39), 3) := by decide +kernel
theorem dX4_readsAll_54 : decode cX4_readsAll 54 = .ok (.iconst 1, 1) := by decide +kernel
theorem dX4_readsAll_55 : decode cX4_readsAll 55 = .ok (.ireturn, 1) := by decide +kernel
theorem dX4_readsNot_0 : decode cX4_readsNot 0 = .ok (.aload_n 0, 1) := by decide +kernel
theorem dX4_readsNot_1 : decode cX4_readsNot 1 = .ok (.getfield 29, 3) := by decide +kernel
theorem dX4_readsNot_4 : decode cX4_readsNot 4 = .ok (.bipush 11, 2) := by decide +kernel
theorem dX4_readsNot_6 : decode cX4_readsNot 6 = .ok (.if_icmp .eq 9, 3) := by decide +kernel
theorem dX4_readsNot_9 : decode cX4_readsNot 9 = .ok (.aload_n 0, 1) := by decide +kernel
theorem dX4_readsNot_10 : decode cX4_readsNot 10 = .ok (.iload_n 1, 1) := by decide +kernel
theorem dX4_readsNot_11 : decode cX4_readsNot 11 = .ok (.invokevirtual 72, 3) := by decide +kernel
theorem dX4_readsNot_14 : decode cX4_readsNot 14 = .ok (.ireturn, 1) := by decide +kernel
theorem dX4_readsNot_15 : decode cX4_readsNot 15 = .ok (.iload_n 1, 1) := by decide +kernel
theorem dX4_readsNot_16 : decode cX4_readsNot 16 = .ok (.iconst 5, 1) := by decide +kernel
theorem dX4_readsNot_17 : decode cX4_readsNot 17 = .ok (.if_icmp .lt 5, 3) := by decide +kernel
theorem dX4_readsNot_20 : decode cX4_readsNot 20 = .ok (.iconst 0, 1) := by decide +kernel
theorem dX4_readsNot_21 : decode cX4_readsNot 21 = .ok (.ireturn, 1) := by decide +kernel
theorem dX4_readsNot_22 : decode cX4_readsNot 22 = .ok (.aload_n 0, 1) := by decide +kernel
theorem dX4_readsNot_23 : decode cX4_readsNot 23 = .ok (.invokevirtual 63, 3) := by decide +kernel
theorem dX4_readsNot_26 : decode cX4_readsNot 26 = .ok (.aload_n 0, 1) := by decide +kernel
theorem dX4_readsNot_27 : decode cX4_readsNot 27 = .ok (.iload_n 1, 1) := by decide +kernel
theorem dX4_readsNot_28 : decode cX4_readsNot 28 = .ok (.iconst 1, 1) := by decide +kernel
theorem dX4_readsNot_29 : decode cX4_readsNot 29 = .ok (.iadd, 1) := by decide +kernel
theorem dX4_readsNot_30 : decode cX4_readsNot 30 = .ok (.invokevirtual 69, 3) := by decide +kernel
theorem dX4_readsNot_33 : decode cX4_readsNot 33 = .ok (.ifCond .ne 5, 3) := by decide +kernel
theorem dX4_readsNot_36 : decode cX4_readsNot 36 = .ok (.iconst 0, 1) := by decide +kernel
theorem dX4_readsNot_37 : decode cX4_readsNot 37 = .ok (.ireturn, 1) := by decide +kernel
theorem dX4_readsNot_38 : decode cX4_readsNot 38 = .ok (.aload_n 0, 1) := by decide +kernel
theorem dX4_readsNot_39 : decode cX4_readsNot 39 = .ok (.bipush (-11), 2) := by decide +kernel
theorem dX4_readsNot_41 : decode cX4_readsNot 41 = .ok (.invokevirtual 66, 3) := by decide +kernel
theorem dX4_readsNot_44 : decode cX4_readsNot 44 = .ok (.iconst 1, 1) := by decide +kernel
theorem dX4_readsNot_45 : decode cX4_readsNot 45 = .ok (.ireturn, 1) := by decide +kernel
theorem dX4_readsLess_0 : decode cX4_readsLess 0 = .ok (.aload_n 0, 1) := by decide +kernel
theorem dX4_readsLess_1 : decode cX4_readsLess 1 = .ok (.iload_n 1, 1) := by decide +kernel
theorem dX4_readsLess_2 : decode cX4_readsLess 2 = .ok (.invokevirtual 75, 3) := by decide +kernel
theorem dX4_readsLess_5 : decode cX4_readsLess 5 = .ok (.ifCond .ne 5, 3) := by decide +kernel
theorem dX4_readsLess_8 : decode cX4_readsLess 8 = .ok (.iconst 0, 1) := by decide +kernel
theorem dX4_readsLess_9 : decode cX4_readsLess 9 = .ok (.ireturn, 1) := by decide +kernel
theorem dX4_readsLess_10 : decode cX4_readsLess 10 = .ok (.aload_n 0, 1) := by decide +kernel
theorem dX4_readsLess_11 : decode cX4_readsLess 11 = .ok (.getfield 29, 3) := by decide +kernel
theorem dX4_readsLess_14 : decode cX4_readsLess 14 = .ok (.istore_n 2, 1) := by decide +kernel
theorem dX4_readsLess_15 : decode cX4_readsLess 15 = .ok (.iload_n 2, 1) := by decide +kernel
theorem dX4_readsLess_16 : decode cX4_readsLess 16 = .ok (.bipush 60, 2) := by decide +kernel
theorem dX4_readsLess_18 : decode cX4_readsLess 18 = .ok (.if_icmp .eq 11, 3) := by decide +kernel
theorem dX4_readsLess_21 : decode cX4_readsLess 21 = .ok (.iload_n 2, 1) := by decide +kernel
theorem dX4_readsLess_22 : decode cX4_readsLess 22 = .ok (.bipush 61, 2) := by decide +kernel
theorem dX4_readsLess_24 : decode cX4_readsLess 24 = .ok (.if_icmp .eq 5, 3) := by decide +kernel
theorem dX4_readsLess_27 : decode cX4_readsLess 27 = .ok (.iconst 1, 1) := by decide +kernel
theorem dX4_readsLess_28 : decode cX4_readsLess 28 = .ok (.ireturn, 1) := by decide +kernel
theorem dX4_readsLess_29 : decode cX4_readsLess 29 = .ok (.aload_n 0, 1) := by decide +kernel
theorem dX4_readsLess_30 : decode cX4_readsLess 30 = .ok (.invokevirtual 63, 3) := by decide +kernel
theorem dX4_readsLess_33 : decode cX4_readsLess 33 = .ok (.aload_n 0, 1) := by decide +kernel
theorem dX4_readsLess_34 : decode cX4_readsLess 34 = .ok (.iload_n 1, 1) := by decide +kernel
theorem dX4_readsLess_35 : decode cX4_readsLess 35 = .ok (.invokevirtual 75, 3) := by decide +kernel
theorem dX4_readsLess_38 : decode cX4_readsLess 38 = .ok (.ifCond .ne 5, 3) := by decide +kernel
theorem dX4_readsLess_41 : decode cX4_readsLess 41 = .ok (.iconst 0, 1) := by decide +kernel
theorem dX4_readsLess_42 : decode cX4_readsLess 42 = .ok (.ireturn, 1) := by decide +kernel
theorem dX4_readsLess_43 : decode cX4_readsLess 43 = .ok (.aload_n 0, 1) := by decide +kernel
theorem dX4_readsLess_44 : decode cX4_readsLess 44 = .ok (.iload_n 2, 1) := by decide +kernel
theorem dX4_readsLess_45 : decode cX4_readsLess 45 = .ok (.ineg, 1) := by decide +kernel
theorem dX4_readsLess_46 : decode cX4_readsLess 46 = .ok (.invokevirtual 66, 3) := by decide +kernel
theorem dX4_readsLess_49 : decode cX4_readsLess 49 = .ok (.iconst 1, 1) := by decide +kernel
theorem dX4_readsLess_50 : decode cX4_readsLess 50 = .ok (.ireturn, 1) := by decide +kernel
theorem dX4_readsSum_0 : decode cX4_readsSum 0 = .ok (.aload_n 0, 1) := by decide +kernel
theorem dX4_readsSum_1 : decode cX4_readsSum 1 = .ok (.iload_n 1, 1) := by decide +kernel
theorem dX4_readsSum_2 : decode cX4_readsSum 2 = .ok (.invokevirtual 78, 3) := by decide +kernel
theorem dX4_readsSum_5 : decode cX4_readsSum 5 = .ok (.ifCond .ne 5, 3) := by decide +kernel
theorem dX4_readsSum_8 : decode cX4_readsSum 8 = .ok (.iconst 0, 1) := by decide +kernel
theorem dX4_readsSum_9 : decode cX4_readsSum 9 = .ok (.ireturn, 1) := by decide +kernel
theorem dX4_readsSum_10 : decode cX4_readsSum 10 = .ok (.iconst 0, 1) := by decide +kernel
theorem dX4_readsSum_11 : decode cX4_readsSum 11 = .ok (.istore_n 2, 1) := by decide +kernel
theorem dX4_readsSum_12 : decode cX4_readsSum 12 = .ok (.iload_n 2, 1) := by decide +kernel
theorem dX4_readsSum_13 : decode cX4_readsSum 13 = .ok (.sipush 160, 3) := by decide +kernel
theorem dX4_readsSum_16 : decode cX4_readsSum 16 = .ok (.if_icmp .ge 52, 3) := by decide +kernel
theorem dX4_readsSum_19 : decode cX4_readsSum 19 = .ok (.aload_n 0, 1) := by decide +kernel
theorem dX4_readsSum_20 : decode cX4_readsSum 20 = .ok (.getfield 29, 3) := by decide +kernel
theorem dX4_readsSum_23 : decode cX4_readsSum 23 = .ok (.bipush 43, 2) := by decide +kernel
theorem dX4_readsSum_25 : decode cX4_readsSum 25 = .ok (.if_icmp .eq 12, 3) := by decide +kernel
theorem dX4_readsSum_28 : decode cX4_readsSum 28 = .ok (.aload_n 0, 1) := by decide +kernel
theorem dX4_readsSum_29 : decode cX4_readsSum 29 = .ok (.getfield 29, 3) := by decide +kernel
theorem dX4_readsSum_32 : decode cX4_readsSum 32 = .ok (.bipush 45, 2) := by decide +kernel
theorem dX4_readsSum_34 : decode cX4_readsSum 34 = .ok (.if_icmp .ne 34, 3) := by decide +kernel
theorem dX4_readsSum_37 : decode cX4_readsSum 37 = .ok (.aload_n 0, 1) := by decide +kernel
theorem dX4_readsSum_38 : decode cX4_readsSum 38 = .ok (.getfield 29, 3) := by decide +kernel
theorem dX4_readsSum_41 : decode cX4_readsSum 41 = .ok (.istore_n 3, 1) := by decide +kernel
theorem dX4_readsSum_42 : decode cX4_readsSum 42 = .ok (.aload_n 0, 1) := by decide +kernel
theorem dX4_readsSum_43 : decode cX4_readsSum 43 = .ok (.invokevirtual 63, 3) := by decide +kernel
theorem dX4_readsSum_46 : decode cX4_readsSum 46 = .ok (.aload_n 0, 1) := by decide +kernel
theorem dX4_readsSum_47 : decode cX4_readsSum 47 = .ok (.iload_n 1, 1) := by decide +kernel
theorem dX4_readsSum_48 : decode cX4_readsSum 48 = .ok (.invokevirtual 78, 3) := by decide +kernel
theorem dX4_readsSum_51 : decode cX4_readsSum 51 = .ok (.ifCond .ne 5, 3) := by decide +kernel
theorem dX4_readsSum_54 : decode cX4_readsSum 54 = .ok (.iconst 0, 1) := by decide +kernel
theorem dX4_readsSum_55 : decode cX4_readsSum 55 = .ok (.ireturn, 1) := by decide +kernel
theorem dX4_readsSum_56 : decode cX4_readsSum 56 = .ok (.aload_n 0, 1) := by decide +kernel
theorem dX4_readsSum_57 : decode cX4_readsSum 57 = .ok (.iload_n 3, 1) := by decide +kernel
theorem dX4_readsSum_58 : decode cX4_readsSum 58 = .ok (.ineg, 1) := by decide +kernel
theorem dX4_readsSum_59 : decode cX4_readsSum 59 = .ok (.invokevirtual 66, 3) := by decide +kernel
theorem dX4_readsSum_62 : decode cX4_readsSum 62 = .ok (.iinc 2 1, 3) := by decide +kernel
theorem dX4_readsSum_65 : decode cX4_readsSum 65 = .ok (.goto (-53), 3) := by decide +kernel
theorem dX4_readsSum_68 : decode cX4_readsSum 68 = .ok (.iconst 1, 1) := by decide +kernel
theorem dX4_readsSum_69 : decode cX4_readsSum 69 = .ok (.ireturn, 1) := by decide +kernel
theorem dX4_readsTerm_0 : decode cX4_readsTerm 0 = .ok (.aload_n 0, 1) := by decide +kernel
theorem dX4_readsTerm_1 : decode cX4_readsTerm 1 = .ok (.iload_n 1, 1) := by decide +kernel
theorem dX4_readsTerm_2 : decode cX4_readsTerm 2 = .ok (.invokevirtual 81, 3) := by decide +kernel
theorem dX4_readsTerm_5 : decode cX4_readsTerm 5 = .ok (.ifCond .ne 5, 3) := by decide +kernel
theorem dX4_readsTerm_8 : decode cX4_readsTerm 8 = .ok (.iconst 0, 1) := by decide +kernel
theorem dX4_readsTerm_9 : decode cX4_readsTerm 9 = .ok (.ireturn, 1) := by decide +kernel
theorem dX4_readsTerm_10 : decode cX4_readsTerm 10 = .ok (.iconst 0, 1) := by decide +kernel
theorem dX4_readsTerm_11 : decode cX4_readsTerm 11 = .ok (.istore_n 2, 1) := by decide +kernel
theorem dX4_readsTerm_12 : decode cX4_readsTerm 12 = .ok (.iload_n 2, 1) := by decide +kernel
theorem dX4_readsTerm_13 : decode cX4_readsTerm 13 = .ok (.sipush 160, 3) := by decide +kernel
theorem dX4_readsTerm_16 : decode cX4_readsTerm 16 = .ok (.if_icmp .ge 38, 3) := by decide +kernel
theorem dX4_readsTerm_19 : decode cX4_readsTerm 19 = .ok (.aload_n 0, 1) := by decide +kernel
theorem dX4_readsTerm_20 : decode cX4_readsTerm 20 = .ok (.getfield 29, 3) := by decide +kernel
theorem dX4_readsTerm_23 : decode cX4_readsTerm 23 = .ok (.bipush 42, 2) := by decide +kernel
theorem dX4_readsTerm_25 : decode cX4_readsTerm 25 = .ok (.if_icmp .ne 29, 3) := by decide +kernel
theorem dX4_readsTerm_28 : decode cX4_readsTerm 28 = .ok (.aload_n 0, 1) := by decide +kernel
theorem dX4_readsTerm_29 : decode cX4_readsTerm 29 = .ok (.invokevirtual 63, 3) := by decide +kernel
theorem dX4_readsTerm_32 : decode cX4_readsTerm 32 = .ok (.aload_n 0, 1) := by decide +kernel
theorem dX4_readsTerm_33 : decode cX4_readsTerm 33 = .ok (.iload_n 1, 1) := by decide +kernel
theorem dX4_readsTerm_34 : decode cX4_readsTerm 34 = .ok (.invokevirtual 81, 3) := by decide +kernel
theorem dX4_readsTerm_37 : decode cX4_readsTerm 37 = .ok (.ifCond .ne 5, 3) := by decide +kernel
theorem dX4_readsTerm_40 : decode cX4_readsTerm 40 = .ok (.iconst 0, 1) := by decide +kernel
theorem dX4_readsTerm_41 : decode cX4_readsTerm 41 = .ok (.ireturn, 1) := by decide +kernel
theorem dX4_readsTerm_42 : decode cX4_readsTerm 42 = .ok (.aload_n 0, 1) := by decide +kernel
theorem dX4_readsTerm_43 : decode cX4_readsTerm 43 = .ok (.bipush (-42), 2) := by decide +kernel
theorem dX4_readsTerm_45 : decode cX4_readsTerm 45 = .ok (.invokevirtual 66, 3) := by decide +kernel
theorem dX4_readsTerm_48 : decode cX4_readsTerm 48 = .ok (.iinc 2 1, 3) := by decide +kernel
theorem dX4_readsTerm_51 : decode cX4_readsTerm 51 = .ok (.goto (-39), 3) := by decide +kernel
theorem dX4_readsTerm_54 : decode cX4_readsTerm 54 = .ok (.iconst 1, 1) := by decide +kernel
theorem dX4_readsTerm_55 : decode cX4_readsTerm 55 = .ok (.ireturn, 1) := by decide +kernel
theorem dX4_readsOne_0 : decode cX4_readsOne 0 = .ok (.aload_n 0, 1) := by decide +kernel
theorem dX4_readsOne_1 : decode cX4_readsOne 1 = .ok (.getfield 29, 3) := by decide +kernel
theorem dX4_readsOne_4 : decode cX4_readsOne 4 = .ok (.bipush 12, 2) := by decide +kernel
theorem dX4_readsOne_6 : decode cX4_readsOne 6 = .ok (.if_icmp .eq 12, 3) := by decide +kernel
theorem dX4_readsOne_9 : decode cX4_readsOne 9 = .ok (.aload_n 0, 1) := by decide +kernel
theorem dX4_readsOne_10 : decode cX4_readsOne 10 = .ok (.getfield 29, 3) := by decide +kernel
theorem dX4_readsOne_13 : decode cX4_readsOne 13 = .ok (.bipush 6, 2) := by decide +kernel
theorem dX4_readsOne_15 : decode cX4_readsOne 15 = .ok (.if_icmp .ge 43, 3) := by decide +kernel
theorem dX4_readsOne_18 : decode cX4_readsOne 18 = .ok (.aload_n 0, 1) := by decide +kernel
theorem dX4_readsOne_19 : decode cX4_readsOne 19 = .ok (.aload_n 0, 1) := by decide +kernel
theorem dX4_readsOne_20 : decode cX4_readsOne 20 = .ok (.getfield 29, 3) := by decide +kernel
theorem dX4_readsOne_23 : decode cX4_readsOne 23 = .ok (.bipush 12, 2) := by decide +kernel
theorem dX4_readsOne_25 : decode cX4_readsOne 25 = .ok (.if_icmp .ne 18, 3) := by decide +kernel
theorem dX4_readsOne_28 : decode cX4_readsOne 28 = .ok (.aload_n 0, 1) := by decide +kernel
theorem dX4_readsOne_29 : decode cX4_readsOne 29 = .ok (.getfield 12, 3) := by decide +kernel
theorem dX4_readsOne_32 : decode cX4_readsOne 32 = .ok (.getfield 84, 3) := by decide +kernel
theorem dX4_readsOne_35 : decode cX4_readsOne 35 = .ok (.aload_n 0, 1) := by decide +kernel
theorem dX4_readsOne_36 : decode cX4_readsOne 36 = .ok (.getfield 26, 3) := by decide +kernel
theorem dX4_readsOne_39 : decode cX4_readsOne 39 = .ok (.iaload, 1) := by decide +kernel
theorem dX4_readsOne_40 : decode cX4_readsOne 40 = .ok (.goto 9, 3) := by decide +kernel
theorem dX4_readsOne_43 : decode cX4_readsOne 43 = .ok (.iconst (-1), 1) := by decide +kernel
theorem dX4_readsOne_44 : decode cX4_readsOne 44 = .ok (.aload_n 0, 1) := by decide +kernel
theorem dX4_readsOne_45 : decode cX4_readsOne 45 = .ok (.getfield 29, 3) := by decide +kernel
theorem dX4_readsOne_48 : decode cX4_readsOne 48 = .ok (.isub, 1) := by decide +kernel
theorem dX4_readsOne_49 : decode cX4_readsOne 49 = .ok (.invokevirtual 66, 3) := by decide +kernel
theorem dX4_readsOne_52 : decode cX4_readsOne 52 = .ok (.aload_n 0, 1) := by decide +kernel
theorem dX4_readsOne_53 : decode cX4_readsOne 53 = .ok (.invokevirtual 63, 3) := by decide +kernel
theorem dX4_readsOne_56 : decode cX4_readsOne 56 = .ok (.iconst 1, 1) := by decide +kernel
theorem dX4_readsOne_57 : decode cX4_readsOne 57 = .ok (.ireturn, 1) := by decide +kernel
theorem dX4_readsOne_58 : decode cX4_readsOne 58 = .ok (.aload_n 0, 1) := by decide +kernel
theorem dX4_readsOne_59 : decode cX4_readsOne 59 = .ok (.getfield 29, 3) := by decide +kernel
theorem dX4_readsOne_62 : decode cX4_readsOne 62 = .ok (.bipush 45, 2) := by decide +kernel
theorem dX4_readsOne_64 : decode cX4_readsOne 64 = .ok (.if_icmp .eq 12, 3) := by decide +kernel
theorem dX4_readsOne_67 : decode cX4_readsOne 67 = .ok (.aload_n 0, 1) := by decide +kernel
theorem dX4_readsOne_68 : decode cX4_readsOne 68 = .ok (.getfield 29, 3) := by decide +kernel
theorem dX4_readsOne_71 : decode cX4_readsOne 71 = .ok (.bipush 40, 2) := by decide +kernel
theorem dX4_readsOne_73 : decode cX4_readsOne 73 = .ok (.if_icmp .ne 8, 3) := by decide +kernel
theorem dX4_readsOne_76 : decode cX4_readsOne 76 = .ok (.iload_n 1, 1) := by decide +kernel
theorem dX4_readsOne_77 : decode cX4_readsOne 77 = .ok (.iconst 5, 1) := by decide +kernel
theorem dX4_readsOne_78 : decode cX4_readsOne 78 = .ok (.if_icmp .lt 5, 3) := by decide +kernel
theorem dX4_readsOne_81 : decode cX4_readsOne 81 = .ok (.iconst 0, 1) := by decide +kernel
theorem dX4_readsOne_82 : decode cX4_readsOne 82 = .ok (.ireturn, 1) := by decide +kernel
theorem dX4_readsOne_83 : decode cX4_readsOne 83 = .ok (.aload_n 0, 1) := by decide +kernel
theorem dX4_readsOne_84 : decode cX4_readsOne 84 = .ok (.bipush 40, 2) := by decide +kernel
theorem dX4_readsOne_86 : decode cX4_readsOne 86 = .ok (.invokevirtual 53, 3) := by decide +kernel
theorem dX4_readsOne_89 : decode cX4_readsOne 89 = .ok (.ifCond .eq 28, 3) := by decide +kernel
theorem dX4_readsOne_92 : decode cX4_readsOne 92 = .ok (.aload_n 0, 1) := by decide +kernel
theorem dX4_readsOne_93 : decode cX4_readsOne 93 = .ok (.iload_n 1, 1) := by decide +kernel
theorem dX4_readsOne_94 : decode cX4_readsOne 94 = .ok (.iconst 1, 1) := by decide +kernel
theorem dX4_readsOne_95 : decode cX4_readsOne 95 = .ok (.iadd, 1) := by decide +kernel
theorem dX4_readsOne_96 : decode cX4_readsOne 96 = .ok (.invokevirtual 57, 3) := by decide +kernel
theorem dX4_readsOne_99 : decode cX4_readsOne 99 = .ok (.ifCond .eq 16, 3) := by decide +kernel
theorem dX4_readsOne_102 : decode cX4_readsOne 102 = .ok (.aload_n 0, 1) := by decide +kernel
theorem dX4_readsOne_103 : decode cX4_readsOne 103 = .ok (.bipush 41, 2) := by decide +kernel
theorem dX4_readsOne_105 : decode cX4_readsOne 105 = .ok (.invokevirtual 53, 3) := by decide +kernel
theorem dX4_readsOne_108 : decode cX4_readsOne 108 = .ok (.ifCond .eq 7, 3) := by decide +kernel
theorem dX4_readsOne_111 : decode cX4_readsOne 111 = .ok (.iconst 1, 1) := by decide +kernel
theorem dX4_readsOne_112 : decode cX4_readsOne 112 = .ok (.goto 4, 3) := by decide +kernel
theorem dX4_readsOne_115 : decode cX4_readsOne 115 = .ok (.iconst 0, 1) := by decide +kernel
theorem dX4_readsOne_116 : decode cX4_readsOne 116 = .ok (.ireturn, 1) := by decide +kernel
theorem dX4_readsOne_117 : decode cX4_readsOne 117 = .ok (.aload_n 0, 1) := by decide +kernel
theorem dX4_readsOne_118 : decode cX4_readsOne 118 = .ok (.invokevirtual 63, 3) := by decide +kernel
theorem dX4_readsOne_121 : decode cX4_readsOne 121 = .ok (.aload_n 0, 1) := by decide +kernel
theorem dX4_readsOne_122 : decode cX4_readsOne 122 = .ok (.iload_n 1, 1) := by decide +kernel
theorem dX4_readsOne_123 : decode cX4_readsOne 123 = .ok (.iconst 1, 1) := by decide +kernel
theorem dX4_readsOne_124 : decode cX4_readsOne 124 = .ok (.iadd, 1) := by decide +kernel
theorem dX4_readsOne_125 : decode cX4_readsOne 125 = .ok (.invokevirtual 81, 3) := by decide +kernel
theorem dX4_readsOne_128 : decode cX4_readsOne 128 = .ok (.ifCond .ne 5, 3) := by decide +kernel
theorem dX4_readsOne_131 : decode cX4_readsOne 131 = .ok (.iconst 0, 1) := by decide +kernel
theorem dX4_readsOne_132 : decode cX4_readsOne 132 = .ok (.ireturn, 1) := by decide +kernel
theorem dX4_readsOne_133 : decode cX4_readsOne 133 = .ok (.aload_n 0, 1) := by decide +kernel
theorem dX4_readsOne_134 : decode cX4_readsOne 134 = .ok (.bipush (-100), 2) := by decide +kernel
theorem dX4_readsOne_136 : decode cX4_readsOne 136 = .ok (.invokevirtual 66, 3) := by decide +kernel
theorem dX4_readsOne_139 : decode cX4_readsOne 139 = .ok (.iconst 1, 1) := by decide +kernel
theorem dX4_readsOne_140 : decode cX4_readsOne 140 = .ok (.ireturn, 1) := by decide +kernel
theorem dX4_eats_0 : decode cX4_eats 0 = .ok (.aload_n 0, 1) := by decide +kernel
theorem dX4_eats_1 : decode cX4_eats 1 = .ok (.getfield 29, 3) := by decide +kernel
theorem dX4_eats_4 : decode cX4_eats 4 = .ok (.iload_n 1, 1) := by decide +kernel
theorem dX4_eats_5 : decode cX4_eats 5 = .ok (.if_icmp .eq 5, 3) := by decide +kernel
theorem dX4_eats_8 : decode cX4_eats 8 = .ok (.iconst 0, 1) := by decide +kernel
theorem dX4_eats_9 : decode cX4_eats 9 = .ok (.ireturn, 1) := by decide +kernel
theorem dX4_eats_10 : decode cX4_eats 10 = .ok (.aload_n 0, 1) := by decide +kernel
theorem dX4_eats_11 : decode cX4_eats 11 = .ok (.invokevirtual 63, 3) := by decide +kernel
theorem dX4_eats_14 : decode cX4_eats 14 = .ok (.iconst 1, 1) := by decide +kernel
theorem dX4_eats_15 : decode cX4_eats 15 = .ok (.ireturn, 1) := by decide +kernel
theorem dX4_pass_0 : decode cX4_pass 0 = .ok (.aload_n 0, 1) := by decide +kernel
theorem dX4_pass_1 : decode cX4_pass 1 = .ok (.getfield 26, 3) := by decide +kernel
theorem dX4_pass_4 : decode cX4_pass 4 = .ok (.sipush 160, 3) := by decide +kernel
theorem dX4_pass_7 : decode cX4_pass 7 = .ok (.if_icmp .ge 13, 3) := by decide +kernel
theorem dX4_pass_10 : decode cX4_pass 10 = .ok (.aload_n 0, 1) := by decide +kernel
theorem dX4_pass_11 : decode cX4_pass 11 = .ok (.dup, 1) := by decide +kernel
theorem dX4_pass_12 : decode cX4_pass 12 = .ok (.getfield 26, 3) := by decide +kernel
theorem dX4_pass_15 : decode cX4_pass 15 = .ok (.iconst 1, 1) := by decide +kernel
theorem dX4_pass_16 : decode cX4_pass 16 = .ok (.iadd, 1) := by decide +kernel
theorem dX4_pass_17 : decode cX4_pass 17 = .ok (.putfield 26, 3) := by decide +kernel
theorem dX4_pass_20 : decode cX4_pass 20 = .ok (.aload_n 0, 1) := by decide +kernel
theorem dX4_pass_21 : decode cX4_pass 21 = .ok (.aload_n 0, 1) := by decide +kernel
theorem dX4_pass_22 : decode cX4_pass 22 = .ok (.getfield 12, 3) := by decide +kernel
theorem dX4_pass_25 : decode cX4_pass 25 = .ok (.getfield 35, 3) := by decide +kernel
theorem dX4_pass_28 : decode cX4_pass 28 = .ok (.aload_n 0, 1) := by decide +kernel
theorem dX4_pass_29 : decode cX4_pass 29 = .ok (.getfield 26, 3) := by decide +kernel
theorem dX4_pass_32 : decode cX4_pass 32 = .ok (.iaload, 1) := by decide +kernel
theorem dX4_pass_33 : decode cX4_pass 33 = .ok (.putfield 29, 3) := by decide +kernel
theorem dX4_pass_36 : decode cX4_pass 36 = .ok (.return_, 1) := by decide +kernel
theorem dX4_begin_0 : decode cX4_begin 0 = .ok (.aload_n 0, 1) := by decide +kernel
theorem dX4_begin_1 : decode cX4_begin 1 = .ok (.getfield 18, 3) := by decide +kernel
theorem dX4_begin_4 : decode cX4_begin 4 = .ok (.ifnull 16, 3) := by decide +kernel
theorem dX4_begin_7 : decode cX4_begin 7 = .ok (.aload_n 0, 1) := by decide +kernel
theorem dX4_begin_8 : decode cX4_begin 8 = .ok (.getfield 18, 3) := by decide +kernel
theorem dX4_begin_11 : decode cX4_begin 11 = .ok (.getfield 87, 3) := by decide +kernel
theorem dX4_begin_14 : decode cX4_begin 14 = .ok (.iload_n 1, 1) := by decide +kernel
theorem dX4_begin_15 : decode cX4_begin 15 = .ok (.aload_n 0, 1) := by decide +kernel
theorem dX4_begin_16 : decode cX4_begin 16 = .ok (.getfield 22, 3) := by decide +kernel
theorem dX4_begin_19 : decode cX4_begin 19 = .ok (.iastore, 1) := by decide +kernel
theorem dX4_begin_20 : decode cX4_begin 20 = .ok (.return_, 1) := by decide +kernel
theorem dX4_put_0 : decode cX4_put 0 = .ok (.aload_n 0, 1) := by decide +kernel
theorem dX4_put_1 : decode cX4_put 1 = .ok (.getfield 18, 3) := by decide +kernel
theorem dX4_put_4 : decode cX4_put 4 = .ok (.ifnull 36, 3) := by decide +kernel
theorem dX4_put_7 : decode cX4_put 7 = .ok (.aload_n 0, 1) := by decide +kernel
theorem dX4_put_8 : decode cX4_put 8 = .ok (.getfield 22, 3) := by decide +kernel
theorem dX4_put_11 : decode cX4_put 11 = .ok (.sipush 160, 3) := by decide +kernel
theorem dX4_put_14 : decode cX4_put 14 = .ok (.if_icmp .ge 26, 3) := by decide +kernel
theorem dX4_put_17 : decode cX4_put 17 = .ok (.aload_n 0, 1) := by decide +kernel
theorem dX4_put_18 : decode cX4_put 18 = .ok (.getfield 18, 3) := by decide +kernel
theorem dX4_put_21 : decode cX4_put 21 = .ok (.getfield 92, 3) := by decide +kernel
theorem dX4_put_24 : decode cX4_put 24 = .ok (.aload_n 0, 1) := by decide +kernel
theorem dX4_put_25 : decode cX4_put 25 = .ok (.getfield 22, 3) := by decide +kernel
theorem dX4_put_28 : decode cX4_put 28 = .ok (.iload_n 1, 1) := by decide +kernel
theorem dX4_put_29 : decode cX4_put 29 = .ok (.iastore, 1) := by decide +kernel
theorem dX4_put_30 : decode cX4_put 30 = .ok (.aload_n 0, 1) := by decide +kernel
theorem dX4_put_31 : decode cX4_put 31 = .ok (.dup, 1) := by decide +kernel
theorem dX4_put_32 : decode cX4_put 32 = .ok (.getfield 22, 3) := by decide +kernel
theorem dX4_put_35 : decode cX4_put 35 = .ok (.iconst 1, 1) := by decide +kernel
theorem dX4_put_36 : decode cX4_put 36 = .ok (.iadd, 1) := by decide +kernel
theorem dX4_put_37 : decode cX4_put 37 = .ok (.putfield 22, 3) := by decide +kernel
theorem dX4_put_40 : decode cX4_put 40 = .ok (.return_, 1) := by decide +kernel
theorem dX5_init_0 : decode cX5_init 0 = .ok (.aload_n 0, 1) := by decide +kernel
theorem dX5_init_1 : decode cX5_init 1 = .ok (.invokespecial 3, 3) := by decide +kernel
theorem dX5_init_4 : decode cX5_init 4 = .ok (.aload_n 0, 1) := by decide +kernel
theorem dX5_init_5 : decode cX5_init 5 = .ok (.iconst (-1), 1) := by decide +kernel
theorem dX5_init_6 : decode cX5_init 6 = .ok (.putfield 9, 3) := by decide +kernel
theorem dX5_init_9 : decode cX5_init 9 = .ok (.aload_n 0, 1) := by decide +kernel
theorem dX5_init_10 : decode cX5_init 10 = .ok (.iconst 0, 1) := by decide +kernel
theorem dX5_init_11 : decode cX5_init 11 = .ok (.putfield 15, 3) := by decide +kernel
theorem dX5_init_14 : decode cX5_init 14 = .ok (.aload_n 0, 1) := by decide +kernel
theorem dX5_init_15 : decode cX5_init 15 = .ok (.bipush 40, 2) := by decide +kernel
theorem dX5_init_17 : decode cX5_init 17 = .ok (.newarray .int, 2) := by decide +kernel
theorem dX5_init_19 : decode cX5_init 19 = .ok (.putfield 18, 3) := by decide +kernel
theorem dX5_init_22 : decode cX5_init 22 = .ok (.return_, 1) := by decide +kernel
theorem dX5_isMissing_0 : decode cX5_isMissing 0 = .ok (.aload_n 0, 1) := by decide +kernel
theorem dX5_isMissing_1 : decode cX5_isMissing 1 = .ok (.getfield 9, 3) := by decide +kernel
theorem dX5_isMissing_4 : decode cX5_isMissing 4 = .ok (.iconst (-1), 1) := by decide +kernel
theorem dX5_isMissing_5 : decode cX5_isMissing 5 = .ok (.if_icmp .ne 7, 3) := by decide +kernel
theorem dX5_isMissing_8 : decode cX5_isMissing 8 = .ok (.iconst 1, 1) := by decide +kernel
theorem dX5_isMissing_9 : decode cX5_isMissing 9 = .ok (.goto 4, 3) := by decide +kernel
theorem dX5_isMissing_12 : decode cX5_isMissing 12 = .ok (.iconst 0, 1) := by decide +kernel
theorem dX5_isMissing_13 : decode cX5_isMissing 13 = .ok (.ireturn, 1) := by decide +kernel
theorem dX5_become_0 : decode cX5_become 0 = .ok (.aload_n 0, 1) := by decide +kernel
theorem dX5_become_1 : decode cX5_become 1 = .ok (.iload_n 1, 1) := by decide +kernel
theorem dX5_become_2 : decode cX5_become 2 = .ok (.putfield 9, 3) := by decide +kernel
theorem dX5_become_5 : decode cX5_become 5 = .ok (.aload_n 0, 1) := by decide +kernel
theorem dX5_become_6 : decode cX5_become 6 = .ok (.iload_n 2, 1) := by decide +kernel
theorem dX5_become_7 : decode cX5_become 7 = .ok (.putfield 15, 3) := by decide +kernel
theorem dX5_become_10 : decode cX5_become 10 = .ok (.iconst 0, 1) := by decide +kernel
theorem dX5_become_11 : decode cX5_become 11 = .ok (.istore_n 3, 1) := by decide +kernel
theorem dX5_become_12 : decode cX5_become 12 = .ok (.iload_n 3, 1) := by decide +kernel
theorem dX5_become_13 : decode cX5_become 13 = .ok (.aload_n 0, 1) := by decide +kernel
theorem dX5_become_14 : decode cX5_become 14 = .ok (.getfield 15, 3) := by decide +kernel
theorem dX5_become_17 : decode cX5_become 17 = .ok (.if_icmp .ge 16, 3) := by decide +kernel
theorem dX5_become_20 : decode cX5_become 20 = .ok (.aload_n 0, 1) := by decide +kernel
theorem dX5_become_21 : decode cX5_become 21 = .ok (.getfield 18, 3) := by decide +kernel
theorem dX5_become_24 : decode cX5_become 24 = .ok (.iload_n 3, 1) := by decide +kernel
theorem dX5_become_25 : decode cX5_become 25 = .ok (.iconst 0, 1) := by decide +kernel
theorem dX5_become_26 : decode cX5_become 26 = .ok (.iastore, 1) := by decide +kernel
theorem dX5_become_27 : decode cX5_become 27 = .ok (.iinc 3 1, 3) := by decide +kernel
theorem dX5_become_30 : decode cX5_become 30 = .ok (.goto (-18), 3) := by decide +kernel
theorem dX5_become_33 : decode cX5_become 33 = .ok (.return_, 1) := by decide +kernel
theorem dX5_put_0 : decode cX5_put 0 = .ok (.aload_n 0, 1) := by decide +kernel
theorem dX5_put_1 : decode cX5_put 1 = .ok (.getfield 9, 3) := by decide +kernel
theorem dX5_put_4 : decode cX5_put 4 = .ok (.lookupswitch 50 #[(0, 28), (1, 39)], 28) := by decide +kernel
theorem dX5_put_32 : decode cX5_put 32 = .ok (.aload_n 0, 1) := by decide +kernel
theorem dX5_put_33 : decode cX5_put 33 = .ok (.getfield 18, 3) := by decide +kernel
theorem dX5_put_36 : decode cX5_put 36 = .ok (.iload_n 1, 1) := by decide +kernel
theorem dX5_put_37 : decode cX5_put 37 = .ok (.iload_n 2, 1) := by decide +kernel
theorem dX5_put_38 : decode cX5_put 38 = .ok (.i2b, 1) := by decide +kernel
theorem dX5_put_39 : decode cX5_put 39 = .ok (.iastore, 1) := by decide +kernel
theorem dX5_put_40 : decode cX5_put 40 = .ok (.goto 21, 3) := by decide +kernel
theorem dX5_put_43 : decode cX5_put 43 = .ok (.aload_n 0, 1) := by decide +kernel
theorem dX5_put_44 : decode cX5_put 44 = .ok (.getfield 18, 3) := by decide +kernel
theorem dX5_put_47 : decode cX5_put 47 = .ok (.iload_n 1, 1) := by decide +kernel
theorem dX5_put_48 : decode cX5_put 48 = .ok (.iload_n 2, 1) := by decide +kernel
theorem dX5_put_49 : decode cX5_put 49 = .ok (.i2s, 1) := by decide +kernel
theorem dX5_put_50 : decode cX5_put 50 = .ok (.iastore, 1) := by decide +kernel
theorem dX5_put_51 : decode cX5_put 51 = .ok (.goto 10, 3) := by decide +kernel
theorem dX5_put_54 : decode cX5_put 54 = .ok (.aload_n 0, 1) := by decide +kernel
theorem dX5_put_55 : decode cX5_put 55 = .ok (.getfield 18, 3) := by decide +kernel
theorem dX5_put_58 : decode cX5_put 58 = .ok (.iload_n 1, 1) := by decide +kernel
theorem dX5_put_59 : decode cX5_put 59 = .ok (.iload_n 2, 1) := by decide +kernel
theorem dX5_put_60 : decode cX5_put 60 = .ok (.iastore, 1) := by decide +kernel
theorem dX5_put_61 : decode cX5_put 61 = .ok (.return_, 1) := by decide +kernel
theorem dX5_has_0 : decode cX5_has 0 = .ok (.iload_n 2, 1) := by decide +kernel
theorem dX5_has_1 : decode cX5_has 1 = .ok (.ifCond .lt 21, 3) := by decide +kernel
theorem dX5_has_4 : decode cX5_has 4 = .ok (.iload_n 1, 1) := by decide +kernel
theorem dX5_has_5 : decode cX5_has 5 = .ok (.ifCond .lt 17, 3) := by decide +kernel
theorem dX5_has_8 : decode cX5_has 8 = .ok (.iload_n 1, 1) := by decide +kernel
theorem dX5_has_9 : decode cX5_has 9 = .ok (.aload_n 0, 1) := by decide +kernel
theorem dX5_has_10 : decode cX5_has 10 = .ok (.getfield 15, 3) := by decide +kernel
theorem dX5_has_13 : decode cX5_has 13 = .ok (.iload_n 2, 1) := by decide +kernel
theorem dX5_has_14 : decode cX5_has 14 = .ok (.isub, 1) := by decide +kernel
theorem dX5_has_15 : decode cX5_has 15 = .ok (.if_icmp .gt 7, 3) := by decide +kernel
theorem dX5_has_18 : decode cX5_has 18 = .ok (.iconst 1, 1) := by decide +kernel
theorem dX5_has_19 : decode cX5_has 19 = .ok (.goto 4, 3) := by decide +kernel
theorem dX5_has_22 : decode cX5_has 22 = .ok (.iconst 0, 1) := by decide +kernel
theorem dX5_has_23 : decode cX5_has 23 = .ok (.ireturn, 1) := by decide +kernel
theorem dX6_init_0 : decode cX6_init 0 = .ok (.aload_n 0, 1) := by decide +kernel
theorem dX6_init_1 : decode cX6_init 1 = .ok (.invokespecial 3, 3) := by decide +kernel
theorem dX6_init_4 : decode cX6_init 4 = .ok (.aload_n 0, 1) := by decide +kernel
theorem dX6_init_5 : decode cX6_init 5 = .ok (.sipush 160, 3) := by decide +kernel
theorem dX6_init_8 : decode cX6_init 8 = .ok (.newarray .int, 2) := by decide +kernel
theorem dX6_init_10 : decode cX6_init 10 = .ok (.putfield 9, 3) := by decide +kernel
theorem dX6_init_13 : decode cX6_init 13 = .ok (.aload_n 0, 1) := by decide +kernel
theorem dX6_init_14 : decode cX6_init 14 = .ok (.iconst 0, 1) := by decide +kernel
theorem dX6_init_15 : decode cX6_init 15 = .ok (.putfield 15, 3) := by decide +kernel
theorem dX6_init_18 : decode cX6_init 18 = .ok (.aload_n 0, 1) := by decide +kernel
theorem dX6_init_19 : decode cX6_init 19 = .ok (.sipush 161, 3) := by decide +kernel
theorem dX6_init_22 : decode cX6_init 22 = .ok (.newarray .int, 2) := by decide +kernel
theorem dX6_init_24 : decode cX6_init 24 = .ok (.putfield 19, 3) := by decide +kernel
theorem dX6_init_27 : decode cX6_init 27 = .ok (.aload_n 0, 1) := by decide +kernel
theorem dX6_init_28 : decode cX6_init 28 = .ok (.sipush 161, 3) := by decide +kernel
theorem dX6_init_31 : decode cX6_init 31 = .ok (.newarray .int, 2) := by decide +kernel
theorem dX6_init_33 : decode cX6_init 33 = .ok (.putfield 22, 3) := by decide +kernel
theorem dX6_init_36 : decode cX6_init 36 = .ok (.aload_n 0, 1) := by decide +kernel
theorem dX6_init_37 : decode cX6_init 37 = .ok (.sipush 161, 3) := by decide +kernel
theorem dX6_init_40 : decode cX6_init 40 = .ok (.newarray .int, 2) := by decide +kernel
theorem dX6_init_42 : decode cX6_init 42 = .ok (.putfield 25, 3) := by decide +kernel
theorem dX6_init_45 : decode cX6_init 45 = .ok (.aload_n 0, 1) := by decide +kernel
theorem dX6_init_46 : decode cX6_init 46 = .ok (.iconst 0, 1) := by decide +kernel
theorem dX6_init_47 : decode cX6_init 47 = .ok (.putfield 28, 3) := by decide +kernel
theorem dX6_init_50 : decode cX6_init 50 = .ok (.return_, 1) := by decide +kernel
theorem dX6_write_0 : decode cX6_write 0 = .ok (.aload_n 0, 1) := by decide +kernel
theorem dX6_write_1 : decode cX6_write 1 = .ok (.aload_n 1, 1) := by decide +kernel
theorem dX6_write_2 : decode cX6_write 2 = .ok (.invokevirtual 31, 3) := by decide +kernel
theorem dX6_write_5 : decode cX6_write 5 = .ok (.sipush 160, 3) := by decide +kernel
theorem dX6_write_8 : decode cX6_write 8 = .ok (.invokestatic 37, 3) := by decide +kernel
theorem dX6_write_11 : decode cX6_write 11 = .ok (.putfield 15, 3) := by decide +kernel
theorem dX6_write_14 : decode cX6_write 14 = .ok (.iconst 0, 1) := by decide +kernel
theorem dX6_write_15 : decode cX6_write 15 = .ok (.istore_n 2, 1) := by decide +kernel
theorem dX6_write_16 : decode cX6_write 16 = .ok (.iload_n 2, 1) := by decide +kernel
theorem dX6_write_17 : decode cX6_write 17 = .ok (.aload_n 0, 1) := by decide +kernel
theorem dX6_write_18 : decode cX6_write 18 = .ok (.getfield 15, 3) := by decide +kernel
theorem dX6_write_21 : decode cX6_write 21 = .ok (.if_icmp .ge 20, 3) := by decide +kernel
theorem dX6_write_24 : decode cX6_write 24 = .ok (.aload_n 0, 1) := by decide +kernel
theorem dX6_write_25 : decode cX6_write 25 = .ok (.getfield 9, 3) := by decide +kernel
theorem dX6_write_28 : decode cX6_write 28 = .ok (.iload_n 2, 1) := by decide +kernel
theorem dX6_write_29 : decode cX6_write 29 = .ok (.aload_n 1, 1) := by decide +kernel
theorem dX6_write_30 : decode cX6_write 30 = .ok (.iload_n 2, 1) := by decide +kernel
theorem dX6_write_31 : decode cX6_write 31 = .ok (.invokevirtual 43, 3) := by decide +kernel
theorem dX6_write_34 : decode cX6_write 34 = .ok (.iastore, 1) := by decide +kernel
theorem dX6_write_35 : decode cX6_write 35 = .ok (.iinc 2 1, 3) := by decide +kernel
theorem dX6_write_38 : decode cX6_write 38 = .ok (.goto (-22), 3) := by decide +kernel
theorem dX6_write_41 : decode cX6_write 41 = .ok (.return_, 1) := by decide +kernel
theorem dX6_cut_0 : decode cX6_cut 0 = .ok (.aload_n 0, 1) := by decide +kernel
theorem dX6_cut_1 : decode cX6_cut 1 = .ok (.iconst 0, 1) := by decide +kernel
theorem dX6_cut_2 : decode cX6_cut 2 = .ok (.putfield 28, 3) := by decide +kernel
theorem dX6_cut_5 : decode cX6_cut 5 = .ok (.iconst 1, 1) := by decide +kernel
theorem dX6_cut_6 : decode cX6_cut 6 = .ok (.istore_n 1, 1) := by decide +kernel
theorem dX6_cut_7 : decode cX6_cut 7 = .ok (.iconst 0, 1) := by decide +kernel
theorem dX6_cut_8 : decode cX6_cut 8 = .ok (.istore_n 2, 1) := by decide +kernel
theorem dX6_cut_9 : decode cX6_cut 9 = .ok (.iload_n 2, 1) := by decide +kernel
theorem dX6_cut_10 : decode cX6_cut 10 = .ok (.sipush 160, 3) := by decide +kernel
theorem dX6_cut_13 : decode cX6_cut 13 = .ok (.if_icmp .gt 73, 3) := by decide +kernel
theorem dX6_cut_16 : decode cX6_cut 16 = .ok (.iload_n 1, 1) := by decide +kernel
theorem dX6_cut_17 : decode cX6_cut 17 = .ok (.ifCond .eq 69, 3) := by decide +kernel
theorem dX6_cut_20 : decode cX6_cut 20 = .ok (.aload_n 0, 1) := by decide +kernel
theorem dX6_cut_21 : decode cX6_cut 21 = .ok (.invokevirtual 47, 3) := by decide +kernel
theorem dX6_cut_24 : decode cX6_cut 24 = .ok (.aload_n 0, 1) := by decide +kernel
theorem dX6_cut_25 : decode cX6_cut 25 = .ok (.getfield 22, 3) := by decide +kernel
theorem dX6_cut_28 : decode cX6_cut 28 = .ok (.iload_n 2, 1) := by decide +kernel
theorem dX6_cut_29 : decode cX6_cut 29 = .ok (.aload_n 0, 1) := by decide +kernel
theorem dX6_cut_30 : decode cX6_cut 30 = .ok (.getfield 28, 3) := by decide +kernel
theorem dX6_cut_33 : decode cX6_cut 33 = .ok (.iastore, 1) := by decide +kernel
theorem dX6_cut_34 : decode cX6_cut 34 = .ok (.aload_n 0, 1) := by decide +kernel
theorem dX6_cut_35 : decode cX6_cut 35 = .ok (.getfield 25, 3) := by decide +kernel
theorem dX6_cut_38 : decode cX6_cut 38 = .ok (.iload_n 2, 1) := by decide +kernel
theorem dX6_cut_39 : decode cX6_cut 39 = .ok (.iconst 0, 1) := by decide +kernel
theorem dX6_cut_40 : decode cX6_cut 40 = .ok (.iastore, 1) := by decide +kernel
theorem dX6_cut_41 : decode cX6_cut 41 = .ok (.aload_n 0, 1) := by decide +kernel
theorem dX6_cut_42 : decode cX6_cut 42 = .ok (.getfield 19, 3) := by decide +kernel
theorem dX6_cut_45 : decode cX6_cut 45 = .ok (.iload_n 2, 1) := by decide +kernel
theorem dX6_cut_46 : decode cX6_cut 46 = .ok (.aload_n 0, 1) := by decide +kernel
theorem dX6_cut_47 : decode cX6_cut 47 = .ok (.iload_n 2, 1) := by decide +kernel
theorem dX6_cut_48 : decode cX6_cut 48 = .ok (.invokevirtual 50, 3) := by decide +kernel
theorem dX6_cut_51 : decode cX6_cut 51 = .ok (.iastore, 1) := by decide +kernel
theorem dX6_cut_52 : decode cX6_cut 52 = .ok (.aload_n 0, 1) := by decide +kernel
theorem dX6_cut_53 : decode cX6_cut 53 = .ok (.getfield 19, 3) := by decide +kernel
theorem dX6_cut_56 : decode cX6_cut 56 = .ok (.iload_n 2, 1) := by decide +kernel
theorem dX6_cut_57 : decode cX6_cut 57 = .ok (.iaload, 1) := by decide +kernel
theorem dX6_cut_58 : decode cX6_cut 58 = .ok (.bipush 13, 2) := by decide +kernel
theorem dX6_cut_60 : decode cX6_cut 60 = .ok (.if_icmp .eq 18, 3) := by decide +kernel
theorem dX6_cut_63 : decode cX6_cut 63 = .ok (.aload_n 0, 1) := by decide +kernel
theorem dX6_cut_64 : decode cX6_cut 64 = .ok (.getfield 19, 3) := by decide +kernel
theorem dX6_cut_67 : decode cX6_cut 67 = .ok (.iload_n 2, 1) := by decide +kernel
theorem dX6_cut_68 : decode cX6_cut 68 = .ok (.iaload, 1) := by decide +kernel
theorem dX6_cut_69 : decode cX6_cut 69 = .ok (.bipush 14, 2) := by decide +kernel
theorem dX6_cut_71 : decode cX6_cut 71 = .ok (.if_icmp .eq 7, 3) := by decide +kernel
theorem dX6_cut_74 : decode cX6_cut 74 = .ok (.iconst 1, 1) := by decide +kernel
theorem dX6_cut_75 : decode cX6_cut 75 = .ok (.goto 4, 3) := by decide +kernel
theorem dX6_cut_78 : decode cX6_cut 78 = .ok (.iconst 0, 1) := by decide +kernel
theorem dX6_cut_79 : decode cX6_cut 79 = .ok (.istore_n 1, 1) := by decide +kernel
theorem dX6_cut_80 : decode cX6_cut 80 = .ok (.iinc 2 1, 3) := by decide +kernel
theorem dX6_cut_83 : decode cX6_cut 83 = .ok (.goto (-74), 3) := by decide +kernel
theorem dX6_cut_86 : decode cX6_cut 86 = .ok (.return_, 1) := by decide +kernel
theorem dX6_passBlanks_0 : decode cX6_passBlanks 0 = .ok (.aload_n 0, 1) := by decide +kernel
theorem dX6_passBlanks_1 : decode cX6_passBlanks 1 = .ok (.getfield 28, 3) := by decide +kernel
theorem dX6_passBlanks_4 : decode cX6_passBlanks 4 = .ok (.aload_n 0, 1) := by decide +kernel
theorem dX6_passBlanks_5 : decode cX6_passBlanks 5 = .ok (.getfield 15, 3) := by decide +kernel
theorem dX6_passBlanks_8 : decode cX6_passBlanks 8 = .ok (.if_icmp .ge 44, 3) := by decide +kernel
theorem dX6_passBlanks_11 : decode cX6_passBlanks 11 = .ok (.aload_n 0, 1) := by decide +kernel
theorem dX6_passBlanks_12 : decode cX6_passBlanks 12 = .ok (.getfield 9, 3) := by decide +kernel
theorem dX6_passBlanks_15 : decode cX6_passBlanks 15 = .ok (.aload_n 0, 1) := by decide +kernel
theorem dX6_passBlanks_16 : decode cX6_passBlanks 16 = .ok (.getfield 28, 3) := by decide +kernel
theorem dX6_passBlanks_19 : decode cX6_passBlanks 19 = .ok (.iaload, 1) := by decide +kernel
theorem dX6_passBlanks_20 : decode cX6_passBlanks 20 = .ok (.bipush 32, 2) := by decide +kernel
theorem dX6_passBlanks_22 : decode cX6_passBlanks 22 = .ok (.if_icmp .eq 17, 3) := by decide +kernel
theorem dX6_passBlanks_25 : decode cX6_passBlanks 25 = .ok (.aload_n 0, 1) := by decide +kernel
theorem dX6_passBlanks_26 : decode cX6_passBlanks 26 = .ok (.getfield 9, 3) := by decide +kernel
theorem dX6_passBlanks_29 : decode cX6_passBlanks 29 = .ok (.aload_n 0, 1) := by decide +kernel
theorem dX6_passBlanks_30 : decode cX6_passBlanks 30 = .ok (.getfield 28, 3) := by decide +kernel
theorem dX6_passBlanks_33 : decode cX6_passBlanks 33 = .ok (.iaload, 1) := by decide +kernel
theorem dX6_passBlanks_34 : decode cX6_passBlanks 34 = .ok (.bipush 10, 2) := by decide +kernel
theorem dX6_passBlanks_36 : decode cX6_passBlanks 36 = .ok (.if_icmp .ne 16, 3) := by decide +kernel
theorem dX6_passBlanks_39 : decode cX6_passBlanks 39 = .ok (.aload_n 0, 1) := by decide +kernel
theorem dX6_passBlanks_40 : decode cX6_passBlanks 40 = .ok (.dup, 1) := by decide +kernel
theorem dX6_passBlanks_41 : decode cX6_passBlanks 41 = .ok (.getfield 28, 3) := by decide +kernel
theorem dX6_passBlanks_44 : decode cX6_passBlanks 44 = .ok (.iconst 1, 1) := by decide +kernel
theorem dX6_passBlanks_45 : decode cX6_passBlanks 45 = .ok (.iadd, 1) := by decide +kernel
theorem dX6_passBlanks_46 : decode cX6_passBlanks 46 = .ok (.putfield 28, 3) := by decide +kernel
theorem dX6_passBlanks_49 : decode cX6_passBlanks 49 = .ok (.goto (-49), 3) := by decide +kernel
theorem dX6_passBlanks_52 : decode cX6_passBlanks 52 = .ok (.return_, 1) := by decide +kernel
theorem dX6_cutOne_0 : decode cX6_cutOne 0 = .ok (.aload_n 0, 1) := by decide +kernel
theorem dX6_cutOne_1 : decode cX6_cutOne 1 = .ok (.getfield 28, 3) := by decide +kernel
theorem dX6_cutOne_4 : decode cX6_cutOne 4 = .ok (.aload_n 0, 1) := by decide +kernel
theorem dX6_cutOne_5 : decode cX6_cutOne 5 = .ok (.getfield 15, 3) := by decide +kernel
theorem dX6_cutOne_8 : decode cX6_cutOne 8 = .ok (.if_icmp .lt 6, 3) := by decide +kernel
theorem dX6_cutOne_11 : decode cX6_cutOne 11 = .ok (.bipush 13, 2) := by decide +kernel
theorem dX6_cutOne_13 : decode cX6_cutOne 13 = .ok (.ireturn, 1) := by decide +kernel
theorem dX6_cutOne_14 : decode cX6_cutOne 14 = .ok (.aload_n 0, 1) := by decide +kernel
theorem dX6_cutOne_15 : decode cX6_cutOne 15 = .ok (.aload_n 0, 1) := by decide +kernel
theorem dX6_cutOne_16 : decode cX6_cutOne 16 = .ok (.getfield 28, 3) := by decide +kernel
theorem dX6_cutOne_19 : decode cX6_cutOne 19 = .ok (.invokevirtual 54, 3) := by decide +kernel
theorem dX6_cutOne_22 : decode cX6_cutOne 22 = .ok (.ifCond .eq 8, 3) := by decide +kernel
theorem dX6_cutOne_25 : decode cX6_cutOne 25 = .ok (.aload_n 0, 1) := by decide +kernel
theorem dX6_cutOne_26 : decode cX6_cutOne 26 = .ok (.invokevirtual 58, 3) := by decide +kernel
theorem dX6_cutOne_29 : decode cX6_cutOne 29 = .ok (.ireturn, 1) := by decide +kernel
theorem dX6_cutOne_30 : decode cX6_cutOne 30 = .ok (.aload_n 0, 1) := by decide +kernel
theorem dX6_cutOne_31 : decode cX6_cutOne 31 = .ok (.aload_n 0, 1) := by decide +kernel
theorem dX6_cutOne_32 : decode cX6_cutOne 32 = .ok (.getfield 28, 3) := by decide +kernel
theorem dX6_cutOne_35 : decode cX6_cutOne 35 = .ok (.invokevirtual 61, 3) := by decide +kernel
theorem dX6_cutOne_38 : decode cX6_cutOne 38 = .ok (.ifCond .eq 9, 3) := by decide +kernel
theorem dX6_cutOne_41 : decode cX6_cutOne 41 = .ok (.aload_n 0, 1) := by decide +kernel
theorem dX6_cutOne_42 : decode cX6_cutOne 42 = .ok (.iload_n 1, 1) := by decide +kernel
theorem dX6_cutOne_43 : decode cX6_cutOne 43 = .ok (.invokevirtual 64, 3) := by decide +kernel
theorem dX6_cutOne_46 : decode cX6_cutOne 46 = .ok (.ireturn, 1) := by decide +kernel
theorem dX6_cutOne_47 : decode cX6_cutOne 47 = .ok (.aload_n 0, 1) := by decide +kernel
theorem dX6_cutOne_48 : decode cX6_cutOne 48 = .ok (.dup, 1) := by decide +kernel
theorem dX6_cutOne_49 : decode cX6_cutOne 49 = .ok (.getfield 28, 3) := by decide +kernel
theorem dX6_cutOne_52 : decode cX6_cutOne 52 = .ok (.iconst 1, 1) := by decide +kernel
theorem dX6_cutOne_53 : decode cX6_cutOne 53 = .ok (.iadd, 1) := by decide +kernel
theorem dX6_cutOne_54 : decode cX6_cutOne 54 = .ok (.putfield 28, 3) := by decide +kernel
theorem dX6_cutOne_57 : decode cX6_cutOne 57 = .ok (.aload_n 0, 1) := by decide +kernel
theorem dX6_cutOne_58 : decode cX6_cutOne 58 = .ok (.aload_n 0, 1) := by decide +kernel
theorem dX6_cutOne_59 : decode cX6_cutOne 59 = .ok (.getfield 28, 3) := by decide +kernel
theorem dX6_cutOne_62 : decode cX6_cutOne 62 = .ok (.iconst 1, 1) := by decide +kernel
theorem dX6_cutOne_63 : decode cX6_cutOne 63 = .ok (.isub, 1) := by decide +kernel
theorem dX6_cutOne_64 : decode cX6_cutOne 64 = .ok (.invokevirtual 67, 3) := by decide +kernel
theorem dX6_cutOne_67 : decode cX6_cutOne 67 = .ok (.ireturn, 1) := by decide +kernel
theorem dX6_cutWord_0 : decode cX6_cutWord 0 = .ok (.aload_n 0, 1) := by decide +kernel
theorem dX6_cutWord_1 : decode cX6_cutWord 1 = .ok (.getfield 28, 3) := by decide +kernel
theorem dX6_cutWord_4 : decode cX6_cutWord 4 = .ok (.istore_n 1, 1) := by decide +kernel
theorem dX6_cutWord_5 : decode cX6_cutWord 5 = .ok (.aload_n 0, 1) := by decide +kernel
theorem dX6_cutWord_6 : decode cX6_cutWord 6 = .ok (.getfield 28, 3) := by decide +kernel
theorem dX6_cutWord_9 : decode cX6_cutWord 9 = .ok (.aload_n 0, 1) := by decide +kernel
theorem dX6_cutWord_10 : decode cX6_cutWord 10 = .ok (.getfield 15, 3) := by decide +kernel
theorem dX6_cutWord_13 : decode cX6_cutWord 13 = .ok (.if_icmp .ge 27, 3) := by decide +kernel
theorem dX6_cutWord_16 : decode cX6_cutWord 16 = .ok (.aload_n 0, 1) := by decide +kernel
theorem dX6_cutWord_17 : decode cX6_cutWord 17 = .ok (.aload_n 0, 1) := by decide +kernel
theorem dX6_cutWord_18 : decode cX6_cutWord 18 = .ok (.getfield 28, 3) := by decide +kernel
theorem dX6_cutWord_21 : decode cX6_cutWord 21 = .ok (.invokevirtual 54, 3) := by decide +kernel
theorem dX6_cutWord_24 : decode cX6_cutWord 24 = .ok (.ifCond .eq 16, 3) := by decide +kernel
theorem dX6_cutWord_27 : decode cX6_cutWord 27 = .ok (.aload_n 0, 1) := by decide +kernel
theorem dX6_cutWord_28 : decode cX6_cutWord 28 = .ok (.dup, 1) := by decide +kernel
theorem dX6_cutWord_29 : decode cX6_cutWord 29 = .ok (.getfield 28, 3) := by decide +kernel
theorem dX6_cutWord_32 : decode cX6_cutWord 32 = .ok (.iconst 1, 1) := by decide +kernel
theorem dX6_cutWord_33 : decode cX6_cutWord 33 = .ok (.iadd, 1) := by decide +kernel
theorem dX6_cutWord_34 : decode cX6_cutWord 34 = .ok (.putfield 28, 3) := by decide +kernel
theorem dX6_cutWord_37 : decode cX6_cutWord 37 = .ok (.goto (-32), 3) := by decide +kernel
theorem dX6_cutWord_40 : decode cX6_cutWord 40 = .ok (.iconst 0, 1) := by decide +kernel
theorem dX6_cutWord_41 : decode cX6_cutWord 41 = .ok (.istore_n 2, 1) := by decide +kernel
theorem dX6_cutWord_42 : decode cX6_cutWord 42 = .ok (.iload_n 2, 1) := by decide +kernel
theorem dX6_cutWord_43 : decode cX6_cutWord 43 = .ok (.bipush 12, 2) := by decide +kernel
theorem dX6_cutWord_45 : decode cX6_cutWord 45 = .ok (.if_icmp .ge 23, 3) := by decide +kernel
theorem dX6_cutWord_48 : decode cX6_cutWord 48 = .ok (.aload_n 0, 1) := by decide +kernel
theorem dX6_cutWord_49 : decode cX6_cutWord 49 = .ok (.iload_n 1, 1) := by decide +kernel
theorem dX6_cutWord_50 : decode cX6_cutWord 50 = .ok (.iload_n 2, 1) := by decide +kernel
theorem dX6_cutWord_51 : decode cX6_cutWord 51 = .ok (.invokestatic 70, 3) := by decide +kernel
theorem dX6_cutWord_54 : decode cX6_cutWord 54 = .ok (.invokevirtual 74, 3) := by decide +kernel
theorem dX6_cutWord_57 : decode cX6_cutWord 57 = .ok (.ifCond .eq 5, 3) := by decide +kernel
theorem dX6_cutWord_60 : decode cX6_cutWord 60 = .ok (.iload_n 2, 1) := by decide +kernel
theorem dX6_cutWord_61 : decode cX6_cutWord 61 = .ok (.ireturn, 1) := by decide +kernel
theorem dX6_cutWord_62 : decode cX6_cutWord 62 = .ok (.iinc 2 1, 3) := by decide +kernel
theorem dX6_cutWord_65 : decode cX6_cutWord 65 = .ok (.goto (-23), 3) := by decide +kernel
theorem dX6_cutWord_68 : decode cX6_cutWord 68 = .ok (.bipush 14, 2) := by decide +kernel
theorem dX6_cutWord_70 : decode cX6_cutWord 70 = .ok (.ireturn, 1) := by decide +kernel
theorem dX6_isSpelled_0 : decode cX6_isSpelled 0 = .ok (.aload_n 2, 1) := by decide +kernel
theorem dX6_isSpelled_1 : decode cX6_isSpelled 1 = .ok (.invokevirtual 31, 3) := by decide +kernel
theorem dX6_isSpelled_4 : decode cX6_isSpelled 4 = .ok (.aload_n 0, 1) := by decide +kernel
theorem dX6_isSpelled_5 : decode cX6_isSpelled 5 = .ok (.getfield 28, 3) := by decide +kernel
theorem dX6_isSpelled_8 : decode cX6_isSpelled 8 = .ok (.iload_n 1, 1) := by decide +kernel
theorem dX6_isSpelled_9 : decode cX6_isSpelled 9 = .ok (.isub, 1) := by decide +kernel
theorem dX6_isSpelled_10 : decode cX6_isSpelled 10 = .ok (.if_icmp .eq 5, 3) := by decide +kernel
theorem dX6_isSpelled_13 : decode cX6_isSpelled 13 = .ok (.iconst 0, 1) := by decide +kernel
theorem dX6_isSpelled_14 : decode cX6_isSpelled 14 = .ok (.ireturn, 1) := by decide +kernel
theorem dX6_isSpelled_15 : decode cX6_isSpelled 15 = .ok (.iconst 0, 1) := by decide +kernel
theorem dX6_isSpelled_16 : decode cX6_isSpelled 16 = .ok (.istore_n 3, 1) := by decide +kernel
theorem dX6_isSpelled_17 : decode cX6_isSpelled 17 = .ok (.iload_n 3, 1) := by decide +kernel
theorem dX6_isSpelled_18 : decode cX6_isSpelled 18 = .ok (.aload_n 2, 1) := by decide +kernel
theorem dX6_isSpelled_19 : decode cX6_isSpelled 19 = .ok (.invokevirtual 31, 3) := by decide +kernel
theorem dX6_isSpelled_22 : decode cX6_isSpelled 22 = .ok (.if_icmp .ge 27, 3) := by decide +kernel
theorem dX6_isSpelled_25 : decode cX6_isSpelled 25 = .ok (.aload_n 2, 1) := by decide +kernel
theorem dX6_isSpelled_26 : decode cX6_isSpelled 26 = .ok (.iload_n 3, 1) := by decide +kernel
theorem dX6_isSpelled_27 : decode cX6_isSpelled 27 = .ok (.invokevirtual 43, 3) := by decide +kernel
theorem dX6_isSpelled_30 : decode cX6_isSpelled 30 = .ok (.aload_n 0, 1) := by decide +kernel
theorem dX6_isSpelled_31 : decode cX6_isSpelled 31 = .ok (.getfield 9, 3) := by decide +kernel
theorem dX6_isSpelled_34 : decode cX6_isSpelled 34 = .ok (.iload_n 1, 1) := by decide +kernel
theorem dX6_isSpelled_35 : decode cX6_isSpelled 35 = .ok (.iload_n 3, 1) := by decide +kernel
theorem dX6_isSpelled_36 : decode cX6_isSpelled 36 = .ok (.iadd, 1) := by decide +kernel
theorem dX6_isSpelled_37 : decode cX6_isSpelled 37 = .ok (.iaload, 1) := by decide +kernel
theorem dX6_isSpelled_38 : decode cX6_isSpelled 38 = .ok (.if_icmp .eq 5, 3) := by decide +kernel
theorem dX6_isSpelled_41 : decode cX6_isSpelled 41 = .ok (.iconst 0, 1) := by decide +kernel
theorem dX6_isSpelled_42 : decode cX6_isSpelled 42 = .ok (.ireturn, 1) := by decide +kernel
theorem dX6_isSpelled_43 : decode cX6_isSpelled 43 = .ok (.iinc 3 1, 3) := by decide +kernel
theorem dX6_isSpelled_46 : decode cX6_isSpelled 46 = .ok (.goto (-29), 3) := by decide +kernel
theorem dX6_isSpelled_49 : decode cX6_isSpelled 49 = .ok (.iconst 1, 1) := by decide +kernel
theorem dX6_isSpelled_50 : decode cX6_isSpelled 50 = .ok (.ireturn, 1) := by decide +kernel
theorem dX6_cutNumber_0 : decode cX6_cutNumber 0 = .ok (.aload_n 0, 1) := by decide +kernel
theorem dX6_cutNumber_1 : decode cX6_cutNumber 1 = .ok (.getfield 28, 3) := by decide +kernel
theorem dX6_cutNumber_4 : decode cX6_cutNumber 4 = .ok (.istore_n 2, 1) := by decide +kernel
theorem dX6_cutNumber_5 : decode cX6_cutNumber 5 = .ok (.aload_n 0, 1) := by decide +kernel
theorem dX6_cutNumber_6 : decode cX6_cutNumber 6 = .ok (.getfield 28, 3) := by decide +kernel
theorem dX6_cutNumber_9 : decode cX6_cutNumber 9 = .ok (.aload_n 0, 1) := by decide +kernel
theorem dX6_cutNumber_10 : decode cX6_cutNumber 10 = .ok (.getfield 15, 3) := by decide +kernel
theorem dX6_cutNumber_13 : decode cX6_cutNumber 13 = .ok (.if_icmp .ge 55, 3) := by decide +kernel
theorem dX6_cutNumber_16 : decode cX6_cutNumber 16 = .ok (.aload_n 0, 1) := by decide +kernel
theorem dX6_cutNumber_17 : decode cX6_cutNumber 17 = .ok (.aload_n 0, 1) := by decide +kernel
theorem dX6_cutNumber_18 : decode cX6_cutNumber 18 = .ok (.getfield 28, 3) := by decide +kernel
theorem dX6_cutNumber_21 : decode cX6_cutNumber 21 = .ok (.invokevirtual 61, 3) := by decide +kernel
theorem dX6_cutNumber_24 : decode cX6_cutNumber 24 = .ok (.ifCond .eq 44, 3) := by decide +kernel
theorem dX6_cutNumber_27 : decode cX6_cutNumber 27 = .ok (.aload_n 0, 1) := by decide +kernel
theorem dX6_cutNumber_28 : decode cX6_cutNumber 28 = .ok (.getfield 25, 3) := by decide +kernel
theorem dX6_cutNumber_31 : decode cX6_cutNumber 31 = .ok (.iload_n 1, 1) := by decide +kernel
theorem dX6_cutNumber_32 : decode cX6_cutNumber 32 = .ok (.bipush 10, 2) := by decide +kernel
theorem dX6_cutNumber_34 : decode cX6_cutNumber 34 = .ok (.aload_n 0, 1) := by decide +kernel
theorem dX6_cutNumber_35 : decode cX6_cutNumber 35 = .ok (.getfield 25, 3) := by decide +kernel
theorem dX6_cutNumber_38 : decode cX6_cutNumber 38 = .ok (.iload_n 1, 1) := by decide +kernel
theorem dX6_cutNumber_39 : decode cX6_cutNumber 39 = .ok (.iaload, 1) := by decide +kernel
theorem dX6_cutNumber_40 : decode cX6_cutNumber 40 = .ok (.imul, 1) := by decide +kernel
theorem dX6_cutNumber_41 : decode cX6_cutNumber 41 = .ok (.aload_n 0, 1) := by decide +kernel
theorem dX6_cutNumber_42 : decode cX6_cutNumber 42 = .ok (.getfield 9, 3) := by decide +kernel
theorem dX6_cutNumber_45 : decode cX6_cutNumber 45 = .ok (.aload_n 0, 1) := by decide +kernel
theorem dX6_cutNumber_46 : decode cX6_cutNumber 46 = .ok (.getfield 28, 3) := by decide +kernel
theorem dX6_cutNumber_49 : decode cX6_cutNumber 49 = .ok (.iaload, 1) := by decide +kernel
theorem dX6_cutNumber_50 : decode cX6_cutNumber 50 = .ok (.iadd, 1) := by decide +kernel
theorem dX6_cutNumber_51 : decode cX6_cutNumber 51 = .ok (.bipush 48, 2) := by decide +kernel
theorem dX6_cutNumber_53 : decode cX6_cutNumber 53 = .ok (.isub, 1) := by decide +kernel
theorem dX6_cutNumber_54 : decode cX6_cutNumber 54 = .ok (.iastore, 1) := by decide +kernel
theorem dX6_cutNumber_55 : decode cX6_cutNumber 55 = .ok (.aload_n 0, 1) := by decide +kernel
theorem dX6_cutNumber_56 : decode cX6_cutNumber 56 = .ok (.dup, 1) := by decide +kernel
theorem dX6_cutNumber_57 : decode cX6_cutNumber 57 = .ok (.getfield 28, 3) := by decide +kernel
theorem dX6_cutNumber_60 : decode cX6_cutNumber 60 = .ok (.iconst 1, 1) := by decide +kernel
theorem dX6_cutNumber_61 : decode cX6_cutNumber 61 = .ok (.iadd, 1) := by decide +kernel
theorem dX6_cutNumber_62 : decode cX6_cutNumber 62 = .ok (.putfield 28, 3) := by decide +kernel
theorem dX6_cutNumber_65 : decode cX6_cutNumber 65 = .ok (.goto (-60), 3) := by decide +kernel
theorem dX6_cutNumber_68 : decode cX6_cutNumber 68 = .ok (.aload_n 0, 1) := by decide +kernel
theorem dX6_cutNumber_69 : decode cX6_cutNumber 69 = .ok (.getfield 28, 3) := by decide +kernel
theorem dX6_cutNumber_72 : decode cX6_cutNumber 72 = .ok (.iload_n 2, 1) := by decide +kernel
theorem dX6_cutNumber_73 : decode cX6_cutNumber 73 = .ok (.isub, 1) := by decide +kernel
theorem dX6_cutNumber_74 : decode cX6_cutNumber 74 = .ok (.iconst 4, 1) := by decide +kernel
theorem dX6_cutNumber_75 : decode cX6_cutNumber 75 = .ok (.if_icmp .gt 8, 3) := by decide +kernel
theorem dX6_cutNumber_78 : decode cX6_cutNumber 78 = .ok (.bipush 12, 2) := by decide +kernel
theorem dX6_cutNumber_80 : decode cX6_cutNumber 80 = .ok (.goto 5, 3) := by decide +kernel
theorem dX6_cutNumber_83 : decode cX6_cutNumber 83 = .ok (.bipush 14, 2) := by decide +kernel
theorem dX6_cutNumber_85 : decode cX6_cutNumber 85 = .ok (.ireturn, 1) := by decide +kernel
theorem dX6_signAt_0 : decode cX6_signAt 0 = .ok (.aload_n 0, 1) := by decide +kernel
theorem dX6_signAt_1 : decode cX6_signAt 1 = .ok (.getfield 9, 3) := by decide +kernel
theorem dX6_signAt_4 : decode cX6_signAt 4 = .ok (.iload_n 1, 1) := by decide +kernel
theorem dX6_signAt_5 : decode cX6_signAt 5 = .ok (.iaload, 1) := by decide +kernel
theorem dX6_signAt_6 : decode cX6_signAt 6 = .ok (.tableswitch 109 40 61 #[102, 102, 102, 102, 109, 102, 109, 109, 109, 109, 109, 109, 109, 109, 109, 109, 109, 109, 109, 102, 102, 102], 102) := by decide +kernel
theorem dX6_signAt_108 : decode cX6_signAt 108 = .ok (.aload_n 0, 1) := by decide +kernel
theorem dX6_signAt_109 : decode cX6_signAt 109 = .ok (.getfield 9, 3) := by decide +kernel
theorem dX6_signAt_112 : decode cX6_signAt 112 = .ok (.iload_n 1, 1) := by decide +kernel
theorem dX6_signAt_113 : decode cX6_signAt 113 = .ok (.iaload, 1) := by decide +kernel
theorem dX6_signAt_114 : decode cX6_signAt 114 = .ok (.ireturn, 1) := by decide +kernel
theorem dX6_signAt_115 : decode cX6_signAt 115 = .ok (.bipush 14, 2) := by decide +kernel
theorem dX6_signAt_117 : decode cX6_signAt 117 = .ok (.ireturn, 1) := by decide +kernel
theorem dX6_isLetter_0 : decode cX6_isLetter 0 = .ok (.aload_n 0, 1) := by decide +kernel
theorem dX6_isLetter_1 : decode cX6_isLetter 1 = .ok (.getfield 9, 3) := by decide +kernel
theorem dX6_isLetter_4 : decode cX6_isLetter 4 = .ok (.iload_n 1, 1) := by decide +kernel
theorem dX6_isLetter_5 : decode cX6_isLetter 5 = .ok (.iaload, 1) := by decide +kernel
theorem dX6_isLetter_6 : decode cX6_isLetter 6 = .ok (.bipush 97, 2) := by decide +kernel
theorem dX6_isLetter_8 : decode cX6_isLetter 8 = .ok (.if_icmp .lt 18, 3) := by decide +kernel
theorem dX6_isLetter_11 : decode cX6_isLetter 11 = .ok (.aload_n 0, 1) := by decide +kernel
theorem dX6_isLetter_12 : decode cX6_isLetter 12 = .ok (.getfield 9, 3) := by decide +kernel
theorem dX6_isLetter_15 : decode cX6_isLetter 15 = .ok (.iload_n 1, 1) := by decide +kernel
theorem dX6_isLetter_16 : decode cX6_isLetter 16 = .ok (.iaload, 1) := by decide +kernel
theorem dX6_isLetter_17 : decode cX6_isLetter 17 = .ok (.bipush 122, 2) := by decide +kernel
theorem dX6_isLetter_19 : decode cX6_isLetter 19 = .ok (.if_icmp .gt 7, 3) := by decide +kernel
theorem dX6_isLetter_22 : decode cX6_isLetter 22 = .ok (.iconst 1, 1) := by decide +kernel
theorem dX6_isLetter_23 : decode cX6_isLetter 23 = .ok (.goto 4, 3) := by decide +kernel
theorem dX6_isLetter_26 : decode cX6_isLetter 26 = .ok (.iconst 0, 1) := by decide +kernel
theorem dX6_isLetter_27 : decode cX6_isLetter 27 = .ok (.ireturn, 1) := by decide +kernel
theorem dX6_isDigit_0 : decode cX6_isDigit 0 = .ok (.aload_n 0, 1) := by decide +kernel
theorem dX6_isDigit_1 : decode cX6_isDigit 1 = .ok (.getfield 9, 3) := by decide +kernel
theorem dX6_isDigit_4 : decode cX6_isDigit 4 = .ok (.iload_n 1, 1) := by decide +kernel
theorem dX6_isDigit_5 : decode cX6_isDigit 5 = .ok (.iaload, 1) := by decide +kernel
theorem dX6_isDigit_6 : decode cX6_isDigit 6 = .ok (.bipush 48, 2) := by decide +kernel
theorem dX6_isDigit_8 : decode cX6_isDigit 8 = .ok (.if_icmp .lt 18, 3) := by decide +kernel
theorem dX6_isDigit_11 : decode cX6_isDigit 11 = .ok (.aload_n 0, 1) := by decide +kernel
theorem dX6_isDigit_12 : decode cX6_isDigit 12 = .ok (.getfield 9, 3) := by decide +kernel
theorem dX6_isDigit_15 : decode cX6_isDigit 15 = .ok (.iload_n 1, 1) := by decide +kernel
theorem dX6_isDigit_16 : decode cX6_isDigit 16 = .ok (.iaload, 1) := by decide +kernel
theorem dX6_isDigit_17 : decode cX6_isDigit 17 = .ok (.bipush 57, 2) := by decide +kernel
theorem dX6_isDigit_19 : decode cX6_isDigit 19 = .ok (.if_icmp .gt 7, 3) := by decide +kernel
theorem dX6_isDigit_22 : decode cX6_isDigit 22 = .ok (.iconst 1, 1) := by decide +kernel
theorem dX6_isDigit_23 : decode cX6_isDigit 23 = .ok (.goto 4, 3) := by decide +kernel
theorem dX6_isDigit_26 : decode cX6_isDigit 26 = .ok (.iconst 0, 1) := by decide +kernel
theorem dX6_isDigit_27 : decode cX6_isDigit 27 = .ok (.ireturn, 1) := by decide +kernel
theorem dX6_spelling_0 : decode cX6_spelling 0 = .ok (.iload_n 0, 1) := by decide +kernel
theorem dX6_spelling_1 : decode cX6_spelling 1 = .ok (.tableswitch 92 0 10 #[59, 62, 65, 68, 71, 74, 77, 80, 83, 86, 89], 59) := by decide +kernel
theorem dX6_spelling_60 : decode cX6_spelling 60 = .ok (.ldc 78, 2) := by decide +kernel
theorem dX6_spelling_62 : decode cX6_spelling 62 = .ok (.areturn, 1) := by decide +kernel
theorem dX6_spelling_63 : decode cX6_spelling 63 = .ok (.ldc 80, 2) := by decide +kernel
theorem dX6_spelling_65 : decode cX6_spelling 65 = .ok (.areturn, 1) := by decide +kernel
theorem dX6_spelling_66 : decode cX6_spelling 66 = .ok (.ldc 82, 2) := by decide +kernel
theorem dX6_spelling_68 : decode cX6_spelling 68 = .ok (.areturn, 1) := by decide +kernel
theorem dX6_spelling_69 : decode cX6_spelling 69 = .ok (.ldc 84, 2) := by decide +kernel
theorem dX6_spelling_71 : decode cX6_spelling 71 = .ok (.areturn, 1) := by decide +kernel
theorem dX6_spelling_72 : decode cX6_spelling 72 = .ok (.ldc 86, 2) := by decide +kernel
theorem dX6_spelling_74 : decode cX6_spelling 74 = .ok (.areturn, 1) := by decide +kernel
theorem dX6_spelling_75 : decode cX6_spelling 75 = .ok (.ldc 88, 2) := by decide +kernel
theorem dX6_spelling_77 : decode cX6_spelling 77 = .ok (.areturn, 1) := by decide +kernel
theorem dX6_spelling_78 : decode cX6_spelling 78 = .ok (.ldc 90, 2) := by decide +kernel
theorem dX6_spelling_80 : decode cX6_spelling 80 = .ok (.areturn, 1) := by decide +kernel
theorem dX6_spelling_81 : decode cX6_spelling 81 = .ok (.ldc 92, 2) := by decide +kernel
theorem dX6_spelling_83 : decode cX6_spelling 83 = .ok (.areturn, 1) := by decide +kernel
theorem dX6_spelling_84 : decode cX6_spelling 84 = .ok (.ldc 94, 2) := by decide +kernel
theorem dX6_spelling_86 : decode cX6_spelling 86 = .ok (.areturn, 1) := by decide +kernel
theorem dX6_spelling_87 : decode cX6_spelling 87 = .ok (.ldc 96, 2) := by decide +kernel
theorem dX6_spelling_89 : decode cX6_spelling 89 = .ok (.areturn, 1) := by decide +kernel
theorem dX6_spelling_90 : decode cX6_spelling 90 = .ok (.ldc 98, 2) := by decide +kernel
theorem dX6_spelling_92 : decode cX6_spelling 92 = .ok (.areturn, 1) := by decide +kernel
theorem dX6_spelling_93 : decode cX6_spelling 93 = .ok (.ldc 100, 2) := by decide +kernel
theorem dX6_spelling_95 : decode cX6_spelling 95 = .ok (.areturn, 1) := by decide +kernel
theorem dX7_init_0 : decode cX7_init 0 = .ok (.aload_n 0, 1) := by decide +kernel
theorem dX7_init_1 : decode cX7_init 1 = .ok (.invokespecial 3, 3) := by decide +kernel
theorem dX7_init_4 : decode cX7_init 4 = .ok (.aload_n 0, 1) := by decide +kernel
theorem dX7_init_5 : decode cX7_init 5 = .ok (.sipush 160, 3) := by decide +kernel
theorem dX7_init_8 : decode cX7_init 8 = .ok (.newarray .int, 2) := by decide +kernel
theorem dX7_init_10 : decode cX7_init 10 = .ok (.putfield 9, 3) := by decide +kernel
theorem dX7_init_13 : decode cX7_init 13 = .ok (.aload_n 0, 1) := by decide +kernel
theorem dX7_init_14 : decode cX7_init 14 = .ok (.iconst 4, 1) := by decide +kernel
theorem dX7_init_15 : decode cX7_init 15 = .ok (.newarray .int, 2) := by decide +kernel
theorem dX7_init_17 : decode cX7_init 17 = .ok (.putfield 15, 3) := by decide +kernel
theorem dX7_init_20 : decode cX7_init 20 = .ok (.aload_n 0, 1) := by decide +kernel
theorem dX7_init_21 : decode cX7_init 21 = .ok (.sipush 160, 3) := by decide +kernel
theorem dX7_init_24 : decode cX7_init 24 = .ok (.newarray .int, 2) := by decide +kernel
theorem dX7_init_26 : decode cX7_init 26 = .ok (.putfield 18, 3) := by decide +kernel
theorem dX7_init_29 : decode cX7_init 29 = .ok (.return_, 1) := by decide +kernel
theorem dX7_answer_0 : decode cX7_answer 0 = .ok (.iconst 0, 1) := by decide +kernel
theorem dX7_answer_1 : decode cX7_answer 1 = .ok (.istore_n 3, 1) := by decide +kernel
theorem dX7_answer_2 : decode cX7_answer 2 = .ok (.aload_n 0, 1) := by decide +kernel
theorem dX7_answer_3 : decode cX7_answer 3 = .ok (.getfield 15, 3) := by decide +kernel
theorem dX7_answer_6 : decode cX7_answer 6 = .ok (.iload_n 1, 1) := by decide +kernel
theorem dX7_answer_7 : decode cX7_answer 7 = .ok (.iaload, 1) := by decide +kernel
theorem dX7_answer_8 : decode cX7_answer 8 = .ok (.istore 4, 2) := by decide +kernel
theorem dX7_answer_10 : decode cX7_answer 10 = .ok (.iload 4, 2) := by decide +kernel
theorem dX7_answer_12 : decode cX7_answer 12 = .ok (.aload_n 0, 1) := by decide +kernel
theorem dX7_answer_13 : decode cX7_answer 13 = .ok (.getfield 15, 3) := by decide +kernel
theorem dX7_answer_16 : decode cX7_answer 16 = .ok (.iload_n 1, 1) := by decide +kernel
theorem dX7_answer_17 : decode cX7_answer 17 = .ok (.iconst 1, 1) := by decide +kernel
theorem dX7_answer_18 : decode cX7_answer 18 = .ok (.iadd, 1) := by decide +kernel
theorem dX7_answer_19 : decode cX7_answer 19 = .ok (.iaload, 1) := by decide +kernel
theorem dX7_answer_20 : decode cX7_answer 20 = .ok (.if_icmp .ge 169, 3) := by decide +kernel
theorem dX7_answer_23 : decode cX7_answer 23 = .ok (.aload_n 0, 1) := by decide +kernel
theorem dX7_answer_24 : decode cX7_answer 24 = .ok (.getfield 9, 3) := by decide +kernel
theorem dX7_answer_27 : decode cX7_answer 27 = .ok (.iload 4, 2) := by decide +kernel
theorem dX7_answer_29 : decode cX7_answer 29 = .ok (.iaload, 1) := by decide +kernel
theorem dX7_answer_30 : decode cX7_answer 30 = .ok (.istore 5, 2) := by decide +kernel
theorem dX7_answer_32 : decode cX7_answer 32 = .ok (.iload 5, 2) := by decide +kernel
theorem dX7_answer_34 : decode cX7_answer 34 = .ok (.bipush (-6), 2) := by decide +kernel
theorem dX7_answer_36 : decode cX7_answer 36 = .ok (.if_icmp .lt 38, 3) := by decide +kernel
theorem dX7_answer_39 : decode cX7_answer 39 = .ok (.iload_n 3, 1) := by decide +kernel
theorem dX7_answer_40 : decode cX7_answer 40 = .ok (.sipush 160, 3) := by decide +kernel
theorem dX7_answer_43 : decode cX7_answer 43 = .ok (.if_icmp .ge 31, 3) := by decide +kernel
theorem dX7_answer_46 : decode cX7_answer 46 = .ok (.aload_n 0, 1) := by decide +kernel
theorem dX7_answer_47 : decode cX7_answer 47 = .ok (.getfield 18, 3) := by decide +kernel
theorem dX7_answer_50 : decode cX7_answer 50 = .ok (.iload_n 3, 1) := by decide +kernel
theorem dX7_answer_51 : decode cX7_answer 51 = .ok (.iload 5, 2) := by decide +kernel
theorem dX7_answer_53 : decode cX7_answer 53 = .ok (.ifCond .lt 8, 3) := by decide +kernel
theorem dX7_answer_56 : decode cX7_answer 56 = .ok (.iload 5, 2) := by decide +kernel
theorem dX7_answer_58 : decode cX7_answer 58 = .ok (.goto 9, 3) := by decide +kernel
theorem dX7_answer_61 : decode cX7_answer 61 = .ok (.aload_n 2, 1) := by decide +kernel
theorem dX7_answer_62 : decode cX7_answer 62 = .ok (.iconst (-1), 1) := by decide +kernel
theorem dX7_answer_63 : decode cX7_answer 63 = .ok (.iload 5, 2) := by decide +kernel
theorem dX7_answer_65 : decode cX7_answer 65 = .ok (.isub, 1) := by decide +kernel
theorem dX7_answer_66 : decode cX7_answer 66 = .ok (.iaload, 1) := by decide +kernel
theorem dX7_answer_67 : decode cX7_answer 67 = .ok (.iastore, 1) := by decide +kernel
theorem dX7_answer_68 : decode cX7_answer 68 = .ok (.iinc 3 1, 3) := by decide +kernel
theorem dX7_answer_71 : decode cX7_answer 71 = .ok (.goto 112, 3) := by decide +kernel
theorem dX7_answer_74 : decode cX7_answer 74 = .ok (.iload 5, 2) := by decide +kernel
theorem dX7_answer_76 : decode cX7_answer 76 = .ok (.bipush (-100), 2) := by decide +kernel
theorem dX7_answer_78 : decode cX7_answer 78 = .ok (.if_icmp .ne 28, 3) := by decide +kernel
theorem dX7_answer_81 : decode cX7_answer 81 = .ok (.iload_n 3, 1) := by decide +kernel
theorem dX7_answer_82 : decode cX7_answer 82 = .ok (.iconst 1, 1) := by decide +kernel
theorem dX7_answer_83 : decode cX7_answer 83 = .ok (.if_icmp .lt 23, 3) := by decide +kernel
theorem dX7_answer_86 : decode cX7_answer 86 = .ok (.aload_n 0, 1) := by decide +kernel
theorem dX7_answer_87 : decode cX7_answer 87 = .ok (.getfield 18, 3) := by decide +kernel
theorem dX7_answer_90 : decode cX7_answer 90 = .ok (.iload_n 3, 1) := by decide +kernel
theorem dX7_answer_91 : decode cX7_answer 91 = .ok (.iconst 1, 1) := by decide +kernel
theorem dX7_answer_92 : decode cX7_answer 92 = .ok (.isub, 1) := by decide +kernel
theorem dX7_answer_93 : decode cX7_answer 93 = .ok (.aload_n 0, 1) := by decide +kernel
theorem dX7_answer_94 : decode cX7_answer 94 = .ok (.getfield 18, 3) := by decide +kernel
theorem dX7_answer_97 : decode cX7_answer 97 = .ok (.iload_n 3, 1) := by decide +kernel
theorem dX7_answer_98 : decode cX7_answer 98 = .ok (.iconst 1, 1) := by decide +kernel
theorem dX7_answer_99 : decode cX7_answer 99 = .ok (.isub, 1) := by decide +kernel
theorem dX7_answer_100 : decode cX7_answer 100 = .ok (.iaload, 1) := by decide +kernel
theorem dX7_answer_101 : decode cX7_answer 101 = .ok (.ineg, 1) := by decide +kernel
theorem dX7_answer_102 : decode cX7_answer 102 = .ok (.iastore, 1) := by decide +kernel
theorem dX7_answer_103 : decode cX7_answer 103 = .ok (.goto 80, 3) := by decide +kernel
theorem dX7_answer_106 : decode cX7_answer 106 = .ok (.iload 5, 2) := by decide +kernel
theorem dX7_answer_108 : decode cX7_answer 108 = .ok (.bipush (-11), 2) := by decide +kernel
theorem dX7_answer_110 : decode cX7_answer 110 = .ok (.if_icmp .ne 35, 3) := by decide +kernel
theorem dX7_answer_113 : decode cX7_answer 113 = .ok (.iload_n 3, 1) := by decide +kernel
theorem dX7_answer_114 : decode cX7_answer 114 = .ok (.iconst 1, 1) := by decide +kernel
theorem dX7_answer_115 : decode cX7_answer 115 = .ok (.if_icmp .lt 30, 3) := by decide +kernel
theorem dX7_answer_118 : decode cX7_answer 118 = .ok (.aload_n 0, 1) := by decide +kernel
theorem dX7_answer_119 : decode cX7_answer 119 = .ok (.getfield 18, 3) := by decide +kernel
theorem dX7_answer_122 : decode cX7_answer 122 = .ok (.iload_n 3, 1) := by decide +kernel
theorem dX7_answer_123 : decode cX7_answer 123 = .ok (.iconst 1, 1) := by decide +kernel
theorem dX7_answer_124 : decode cX7_answer 124 = .ok (.isub, 1) := by decide +kernel
theorem dX7_answer_125 : decode cX7_answer 125 = .ok (.aload_n 0, 1) := by decide +kernel
theorem dX7_answer_126 : decode cX7_answer 126 = .ok (.getfield 18, 3) := by decide +kernel
theorem dX7_answer_129 : decode cX7_answer 129 = .ok (.iload_n 3, 1) := by decide +kernel
theorem dX7_answer_130 : decode cX7_answer 130 = .ok (.iconst 1, 1) := by decide +kernel
theorem dX7_answer_131 : decode cX7_answer 131 = .ok (.isub, 1) := by decide +kernel
theorem dX7_answer_132 : decode cX7_answer 132 = .ok (.iaload, 1) := by decide +kernel
theorem dX7_answer_133 : decode cX7_answer 133 = .ok (.ifCond .ne 7, 3) := by decide +kernel
theorem dX7_answer_136 : decode cX7_answer 136 = .ok (.iconst 1, 1) := by decide +kernel
theorem dX7_answer_137 : decode cX7_answer 137 = .ok (.goto 4, 3) := by decide +kernel
theorem dX7_answer_140 : decode cX7_answer 140 = .ok (.iconst 0, 1) := by decide +kernel
theorem dX7_answer_141 : decode cX7_answer 141 = .ok (.iastore, 1) := by decide +kernel
theorem dX7_answer_142 : decode cX7_answer 142 = .ok (.goto 41, 3) := by decide +kernel
theorem dX7_answer_145 : decode cX7_answer 145 = .ok (.iload_n 3, 1) := by decide +kernel
theorem dX7_answer_146 : decode cX7_answer 146 = .ok (.iconst 2, 1) := by decide +kernel
theorem dX7_answer_147 : decode cX7_answer 147 = .ok (.if_icmp .lt 36, 3) := by decide +kernel
theorem dX7_answer_150 : decode cX7_answer 150 = .ok (.aload_n 0, 1) := by decide +kernel
theorem dX7_answer_151 : decode cX7_answer 151 = .ok (.getfield 18, 3) := by decide +kernel
theorem dX7_answer_154 : decode cX7_answer 154 = .ok (.iload_n 3, 1) := by decide +kernel
theorem dX7_answer_155 : decode cX7_answer 155 = .ok (.iconst 2, 1) := by decide +kernel
theorem dX7_answer_156 : decode cX7_answer 156 = .ok (.isub, 1) := by decide +kernel
theorem dX7_answer_157 : decode cX7_answer 157 = .ok (.iload 5, 2) := by decide +kernel
theorem dX7_answer_159 : decode cX7_answer 159 = .ok (.ineg, 1) := by decide +kernel
theorem dX7_answer_160 : decode cX7_answer 160 = .ok (.aload_n 0, 1) := by decide +kernel
theorem dX7_answer_161 : decode cX7_answer 161 = .ok (.getfield 18, 3) := by decide +kernel
theorem dX7_answer_164 : decode cX7_answer 164 = .ok (.iload_n 3, 1) := by decide +kernel
theorem dX7_answer_165 : decode cX7_answer 165 = .ok (.iconst 2, 1) := by decide +kernel
theorem dX7_answer_166 : decode cX7_answer 166 = .ok (.isub, 1) := by decide +kernel
theorem dX7_answer_167 : decode cX7_answer 167 = .ok (.iaload, 1) := by decide +kernel
theorem dX7_answer_168 : decode cX7_answer 168 = .ok (.aload_n 0, 1) := by decide +kernel
theorem dX7_answer_169 : decode cX7_answer 169 = .ok (.getfield 18, 3) := by decide +kernel
theorem dX7_answer_172 : decode cX7_answer 172 = .ok (.iload_n 3, 1) := by decide +kernel
theorem dX7_answer_173 : decode cX7_answer 173 = .ok (.iconst 1, 1) := by decide +kernel
theorem dX7_answer_174 : decode cX7_answer 174 = .ok (.isub, 1) := by decide +kernel
theorem dX7_answer_175 : decode cX7_answer 175 = .ok (.iaload, 1) := by decide +kernel
theorem dX7_answer_176 : decode cX7_answer 176 = .ok (.invokestatic 21, 3) := by decide +kernel
theorem dX7_answer_179 : decode cX7_answer 179 = .ok (.iastore, 1) := by decide +kernel
theorem dX7_answer_180 : decode cX7_answer 180 = .ok (.iinc 3 (-1), 3) := by decide +kernel
theorem dX7_answer_183 : decode cX7_answer 183 = .ok (.iinc 4 1, 3) := by decide +kernel
theorem dX7_answer_186 : decode cX7_answer 186 = .ok (.goto (-176), 3) := by decide +kernel
theorem dX7_answer_189 : decode cX7_answer 189 = .ok (.aload_n 0, 1) := by decide +kernel
theorem dX7_answer_190 : decode cX7_answer 190 = .ok (.getfield 18, 3) := by decide +kernel
theorem dX7_answer_193 : decode cX7_answer 193 = .ok (.iconst 0, 1) := by decide +kernel
theorem dX7_answer_194 : decode cX7_answer 194 = .ok (.iaload, 1) := by decide +kernel
theorem dX7_answer_195 : decode cX7_answer 195 = .ok (.ireturn, 1) := by decide +kernel
theorem dX7_joined_0 : decode cX7_joined 0 = .ok (.iload_n 0, 1) := by decide +kernel
theorem dX7_joined_1 : decode cX7_joined 1 = .ok (.lookupswitch 107 #[(9, 93), (42, 67), (43, 59), (45, 63), (60, 71), (61, 82)], 59) := by decide +kernel
theorem dX7_joined_60 : decode cX7_joined 60 = .ok (.iload_n 1, 1) := by decide +kernel
theorem dX7_joined_61 : decode cX7_joined 61 = .ok (.iload_n 2, 1) := by decide +kernel
theorem dX7_joined_62 : decode cX7_joined 62 = .ok (.iadd, 1) := by decide +kernel
theorem dX7_joined_63 : decode cX7_joined 63 = .ok (.ireturn, 1) := by decide +kernel
theorem dX7_joined_64 : decode cX7_joined 64 = .ok (.iload_n 1, 1) := by decide +kernel
theorem dX7_joined_65 : decode cX7_joined 65 = .ok (.iload_n 2, 1) := by decide +kernel
theorem dX7_joined_66 : decode cX7_joined 66 = .ok (.isub, 1) := by decide +kernel
theorem dX7_joined_67 : decode cX7_joined 67 = .ok (.ireturn, 1) := by decide +kernel
theorem dX7_joined_68 : decode cX7_joined 68 = .ok (.iload_n 1, 1) := by decide +kernel
theorem dX7_joined_69 : decode cX7_joined 69 = .ok (.iload_n 2, 1) := by decide +kernel
theorem dX7_joined_70 : decode cX7_joined 70 = .ok (.imul, 1) := by decide +kernel
theorem dX7_joined_71 : decode cX7_joined 71 = .ok (.ireturn, 1) := by decide +kernel
theorem dX7_joined_72 : decode cX7_joined 72 = .ok (.iload_n 1, 1) := by decide +kernel
theorem dX7_joined_73 : decode cX7_joined 73 = .ok (.iload_n 2, 1) := by decide +kernel
theorem dX7_joined_74 : decode cX7_joined 74 = .ok (.if_icmp .ge 7, 3) := by decide +kernel
theorem dX7_joined_77 : decode cX7_joined 77 = .ok (.iconst 1, 1) := by decide +kernel
theorem dX7_joined_78 : decode cX7_joined 78 = .ok (.goto 4, 3) := by decide +kernel
theorem dX7_joined_81 : decode cX7_joined 81 = .ok (.iconst 0, 1) := by decide +kernel
theorem dX7_joined_82 : decode cX7_joined 82 = .ok (.ireturn, 1) := by decide +kernel
theorem dX7_joined_83 : decode cX7_joined 83 = .ok (.iload_n 1, 1) := by decide +kernel
theorem dX7_joined_84 : decode cX7_joined 84 = .ok (.iload_n 2, 1) := by decide +kernel
theorem dX7_joined_85 : decode cX7_joined 85 = .ok (.if_icmp .ne 7, 3) := by decide +kernel
theorem dX7_joined_88 : decode cX7_joined 88 = .ok (.iconst 1, 1) := by decide +kernel
theorem dX7_joined_89 : decode cX7_joined 89 = .ok (.goto 4, 3) := by decide +kernel
theorem dX7_joined_92 : decode cX7_joined 92 = .ok (.iconst 0, 1) := by decide +kernel
theorem dX7_joined_93 : decode cX7_joined 93 = .ok (.ireturn, 1) := by decide +kernel
theorem dX7_joined_94 : decode cX7_joined 94 = .ok (.iload_n 1, 1) := by decide +kernel
theorem dX7_joined_95 : decode cX7_joined 95 = .ok (.ifCond .ne 7, 3) := by decide +kernel
theorem dX7_joined_98 : decode cX7_joined 98 = .ok (.iload_n 2, 1) := by decide +kernel
theorem dX7_joined_99 : decode cX7_joined 99 = .ok (.ifCond .eq 7, 3) := by decide +kernel
theorem dX7_joined_102 : decode cX7_joined 102 = .ok (.iconst 1, 1) := by decide +kernel
theorem dX7_joined_103 : decode cX7_joined 103 = .ok (.goto 4, 3) := by decide +kernel
theorem dX7_joined_106 : decode cX7_joined 106 = .ok (.iconst 0, 1) := by decide +kernel
theorem dX7_joined_107 : decode cX7_joined 107 = .ok (.ireturn, 1) := by decide +kernel
theorem dX7_joined_108 : decode cX7_joined 108 = .ok (.iload_n 1, 1) := by decide +kernel
theorem dX7_joined_109 : decode cX7_joined 109 = .ok (.ifCond .eq 11, 3) := by decide +kernel
theorem dX7_joined_112 : decode cX7_joined 112 = .ok (.iload_n 2, 1) := by decide +kernel
theorem dX7_joined_113 : decode cX7_joined 113 = .ok (.ifCond .eq 7, 3) := by decide +kernel
theorem dX7_joined_116 : decode cX7_joined 116 = .ok (.iconst 1, 1) := by decide +kernel
theorem dX7_joined_117 : decode cX7_joined 117 = .ok (.goto 4, 3) := by decide +kernel
theorem dX7_joined_120 : decode cX7_joined 120 = .ok (.iconst 0, 1) := by decide +kernel
theorem dX7_joined_121 : decode cX7_joined 121 = .ok (.ireturn, 1) := by decide +kernel
theorem dX8_init_0 : decode cX8_init 0 = .ok (.aload_n 0, 1) := by decide +kernel
theorem dX8_init_1 : decode cX8_init 1 = .ok (.invokespecial 3, 3) := by decide +kernel
theorem dX8_init_4 : decode cX8_init 4 = .ok (.aload_n 0, 1) := by decide +kernel
theorem dX8_init_5 : decode cX8_init 5 = .ok (.iconst 0, 1) := by decide +kernel
theorem dX8_init_6 : decode cX8_init 6 = .ok (.putfield 9, 3) := by decide +kernel
theorem dX8_init_9 : decode cX8_init 9 = .ok (.aload_n 0, 1) := by decide +kernel
theorem dX8_init_10 : decode cX8_init 10 = .ok (.iconst 1, 1) := by decide +kernel
theorem dX8_init_11 : decode cX8_init 11 = .ok (.putfield 15, 3) := by decide +kernel
theorem dX8_init_14 : decode cX8_init 14 = .ok (.aload_n 0, 1) := by decide +kernel
theorem dX8_init_15 : decode cX8_init 15 = .ok (.bipush 6, 2) := by decide +kernel
theorem dX8_init_17 : decode cX8_init 17 = .ok (.newarray .int, 2) := by decide +kernel
theorem dX8_init_19 : decode cX8_init 19 = .ok (.putfield 18, 3) := by decide +kernel
theorem dX8_init_22 : decode cX8_init 22 = .ok (.aload_n 0, 1) := by decide +kernel
theorem dX8_init_23 : decode cX8_init 23 = .ok (.bipush 6, 2) := by decide +kernel
theorem dX8_init_25 : decode cX8_init 25 = .ok (.newarray .int, 2) := by decide +kernel
theorem dX8_init_27 : decode cX8_init 27 = .ok (.putfield 22, 3) := by decide +kernel
theorem dX8_init_30 : decode cX8_init 30 = .ok (.return_, 1) := by decide +kernel
theorem dX8_begin_0 : decode cX8_begin 0 = .ok (.aload_n 0, 1) := by decide +kernel
theorem dX8_begin_1 : decode cX8_begin 1 = .ok (.iload_n 1, 1) := by decide +kernel
theorem dX8_begin_2 : decode cX8_begin 2 = .ok (.putfield 9, 3) := by decide +kernel
theorem dX8_begin_5 : decode cX8_begin 5 = .ok (.aload_n 0, 1) := by decide +kernel
theorem dX8_begin_6 : decode cX8_begin 6 = .ok (.iconst 1, 1) := by decide +kernel
theorem dX8_begin_7 : decode cX8_begin 7 = .ok (.putfield 15, 3) := by decide +kernel
theorem dX8_begin_10 : decode cX8_begin 10 = .ok (.iconst 0, 1) := by decide +kernel
theorem dX8_begin_11 : decode cX8_begin 11 = .ok (.istore_n 2, 1) := by decide +kernel
theorem dX8_begin_12 : decode cX8_begin 12 = .ok (.iload_n 2, 1) := by decide +kernel
theorem dX8_begin_13 : decode cX8_begin 13 = .ok (.aload_n 0, 1) := by decide +kernel
theorem dX8_begin_14 : decode cX8_begin 14 = .ok (.getfield 9, 3) := by decide +kernel
theorem dX8_begin_17 : decode cX8_begin 17 = .ok (.if_icmp .ge 28, 3) := by decide +kernel
theorem dX8_begin_20 : decode cX8_begin 20 = .ok (.aload_n 0, 1) := by decide +kernel
theorem dX8_begin_21 : decode cX8_begin 21 = .ok (.getfield 18, 3) := by decide +kernel
theorem dX8_begin_24 : decode cX8_begin 24 = .ok (.iload_n 2, 1) := by decide +kernel
theorem dX8_begin_25 : decode cX8_begin 25 = .ok (.iload_n 2, 1) := by decide +kernel
theorem dX8_begin_26 : decode cX8_begin 26 = .ok (.iastore, 1) := by decide +kernel
theorem dX8_begin_27 : decode cX8_begin 27 = .ok (.aload_n 0, 1) := by decide +kernel
theorem dX8_begin_28 : decode cX8_begin 28 = .ok (.dup, 1) := by decide +kernel
theorem dX8_begin_29 : decode cX8_begin 29 = .ok (.getfield 15, 3) := by decide +kernel
theorem dX8_begin_32 : decode cX8_begin 32 = .ok (.iload_n 2, 1) := by decide +kernel
theorem dX8_begin_33 : decode cX8_begin 33 = .ok (.iconst 1, 1) := by decide +kernel
theorem dX8_begin_34 : decode cX8_begin 34 = .ok (.iadd, 1) := by decide +kernel
theorem dX8_begin_35 : decode cX8_begin 35 = .ok (.imul, 1) := by decide +kernel
theorem dX8_begin_36 : decode cX8_begin 36 = .ok (.putfield 15, 3) := by decide +kernel
theorem dX8_begin_39 : decode cX8_begin 39 = .ok (.iinc 2 1, 3) := by decide +kernel
theorem dX8_begin_42 : decode cX8_begin 42 = .ok (.goto (-30), 3) := by decide +kernel
theorem dX8_begin_45 : decode cX8_begin 45 = .ok (.return_, 1) := by decide +kernel
theorem dX8_step_0 : decode cX8_step 0 = .ok (.aload_n 0, 1) := by decide +kernel
theorem dX8_step_1 : decode cX8_step 1 = .ok (.getfield 9, 3) := by decide +kernel
theorem dX8_step_4 : decode cX8_step 4 = .ok (.iconst 2, 1) := by decide +kernel
theorem dX8_step_5 : decode cX8_step 5 = .ok (.isub, 1) := by decide +kernel
theorem dX8_step_6 : decode cX8_step 6 = .ok (.istore_n 1, 1) := by decide +kernel
theorem dX8_step_7 : decode cX8_step 7 = .ok (.iload_n 1, 1) := by decide +kernel
theorem dX8_step_8 : decode cX8_step 8 = .ok (.ifCond .lt 26, 3) := by decide +kernel
theorem dX8_step_11 : decode cX8_step 11 = .ok (.aload_n 0, 1) := by decide +kernel
theorem dX8_step_12 : decode cX8_step 12 = .ok (.getfield 18, 3) := by decide +kernel
theorem dX8_step_15 : decode cX8_step 15 = .ok (.iload_n 1, 1) := by decide +kernel
theorem dX8_step_16 : decode cX8_step 16 = .ok (.iaload, 1) := by decide +kernel
theorem dX8_step_17 : decode cX8_step 17 = .ok (.aload_n 0, 1) := by decide +kernel
theorem dX8_step_18 : decode cX8_step 18 = .ok (.getfield 18, 3) := by decide +kernel
theorem dX8_step_21 : decode cX8_step 21 = .ok (.iload_n 1, 1) := by decide +kernel
theorem dX8_step_22 : decode cX8_step 22 = .ok (.iconst 1, 1) := by decide +kernel
theorem dX8_step_23 : decode cX8_step 23 = .ok (.iadd, 1) := by decide +kernel
theorem dX8_step_24 : decode cX8_step 24 = .ok (.iaload, 1) := by decide +kernel
theorem dX8_step_25 : decode cX8_step 25 = .ok (.if_icmp .le 9, 3) := by decide +kernel
theorem dX8_step_28 : decode cX8_step 28 = .ok (.iinc 1 (-1), 3) := by decide +kernel
theorem dX8_step_31 : decode cX8_step 31 = .ok (.goto (-24), 3) := by decide +kernel
theorem dX8_step_34 : decode cX8_step 34 = .ok (.iload_n 1, 1) := by decide +kernel
theorem dX8_step_35 : decode cX8_step 35 = .ok (.ifCond .ge 4, 3) := by decide +kernel
theorem dX8_step_38 : decode cX8_step 38 = .ok (.return_, 1) := by decide +kernel
theorem dX8_step_39 : decode cX8_step 39 = .ok (.aload_n 0, 1) := by decide +kernel
theorem dX8_step_40 : decode cX8_step 40 = .ok (.getfield 9, 3) := by decide +kernel
theorem dX8_step_43 : decode cX8_step 43 = .ok (.iconst 1, 1) := by decide +kernel
theorem dX8_step_44 : decode cX8_step 44 = .ok (.isub, 1) := by decide +kernel
theorem dX8_step_45 : decode cX8_step 45 = .ok (.istore_n 2, 1) := by decide +kernel
theorem dX8_step_46 : decode cX8_step 46 = .ok (.iload_n 2, 1) := by decide +kernel
theorem dX8_step_47 : decode cX8_step 47 = .ok (.iload_n 1, 1) := by decide +kernel
theorem dX8_step_48 : decode cX8_step 48 = .ok (.if_icmp .le 24, 3) := by decide +kernel
theorem dX8_step_51 : decode cX8_step 51 = .ok (.aload_n 0, 1) := by decide +kernel
theorem dX8_step_52 : decode cX8_step 52 = .ok (.getfield 18, 3) := by decide +kernel
theorem dX8_step_55 : decode cX8_step 55 = .ok (.iload_n 2, 1) := by decide +kernel
theorem dX8_step_56 : decode cX8_step 56 = .ok (.iaload, 1) := by decide +kernel
theorem dX8_step_57 : decode cX8_step 57 = .ok (.aload_n 0, 1) := by decide +kernel
theorem dX8_step_58 : decode cX8_step 58 = .ok (.getfield 18, 3) := by decide +kernel
theorem dX8_step_61 : decode cX8_step 61 = .ok (.iload_n 1, 1) := by decide +kernel
theorem dX8_step_62 : decode cX8_step 62 = .ok (.iaload, 1) := by decide +kernel
theorem dX8_step_63 : decode cX8_step 63 = .ok (.if_icmp .ge 9, 3) := by decide +kernel
theorem dX8_step_66 : decode cX8_step 66 = .ok (.iinc 2 (-1), 3) := by decide +kernel
theorem dX8_step_69 : decode cX8_step 69 = .ok (.goto (-23), 3) := by decide +kernel
theorem dX8_step_72 : decode cX8_step 72 = .ok (.aload_n 0, 1) := by decide +kernel
theorem dX8_step_73 : decode cX8_step 73 = .ok (.iload_n 1, 1) := by decide +kernel
theorem dX8_step_74 : decode cX8_step 74 = .ok (.iload_n 2, 1) := by decide +kernel
theorem dX8_step_75 : decode cX8_step 75 = .ok (.invokevirtual 25, 3) := by decide +kernel
theorem dX8_step_78 : decode cX8_step 78 = .ok (.iload_n 1, 1) := by decide +kernel
theorem dX8_step_79 : decode cX8_step 79 = .ok (.iconst 1, 1) := by decide +kernel
theorem dX8_step_80 : decode cX8_step 80 = .ok (.iadd, 1) := by decide +kernel
theorem dX8_step_81 : decode cX8_step 81 = .ok (.istore_n 3, 1) := by decide +kernel
theorem dX8_step_82 : decode cX8_step 82 = .ok (.aload_n 0, 1) := by decide +kernel
theorem dX8_step_83 : decode cX8_step 83 = .ok (.getfield 9, 3) := by decide +kernel
theorem dX8_step_86 : decode cX8_step 86 = .ok (.iconst 1, 1) := by decide +kernel
theorem dX8_step_87 : decode cX8_step 87 = .ok (.isub, 1) := by decide +kernel
theorem dX8_step_88 : decode cX8_step 88 = .ok (.istore 4, 2) := by decide +kernel
theorem dX8_step_90 : decode cX8_step 90 = .ok (.iload_n 3, 1) := by decide +kernel
theorem dX8_step_91 : decode cX8_step 91 = .ok (.iload 4, 2) := by decide +kernel
theorem dX8_step_93 : decode cX8_step 93 = .ok (.if_icmp .ge 19, 3) := by decide +kernel
theorem dX8_step_96 : decode cX8_step 96 = .ok (.aload_n 0, 1) := by decide +kernel
theorem dX8_step_97 : decode cX8_step 97 = .ok (.iload_n 3, 1) := by decide +kernel
theorem dX8_step_98 : decode cX8_step 98 = .ok (.iload 4, 2) := by decide +kernel
theorem dX8_step_100 : decode cX8_step 100 = .ok (.invokevirtual 25, 3) := by decide +kernel
theorem dX8_step_103 : decode cX8_step 103 = .ok (.iinc 3 1, 3) := by decide +kernel
theorem dX8_step_106 : decode cX8_step 106 = .ok (.iinc 4 (-1), 3) := by decide +kernel
theorem dX8_step_109 : decode cX8_step 109 = .ok (.goto (-19), 3) := by decide +kernel
theorem dX8_step_112 : decode cX8_step 112 = .ok (.return_, 1) := by decide +kernel
theorem dX8_swap_0 : decode cX8_swap 0 = .ok (.aload_n 0, 1) := by decide +kernel
theorem dX8_swap_1 : decode cX8_swap 1 = .ok (.getfield 18, 3) := by decide +kernel
theorem dX8_swap_4 : decode cX8_swap 4 = .ok (.iload_n 1, 1) := by decide +kernel
theorem dX8_swap_5 : decode cX8_swap 5 = .ok (.iaload, 1) := by decide +kernel
theorem dX8_swap_6 : decode cX8_swap 6 = .ok (.istore_n 3, 1) := by decide +kernel
theorem dX8_swap_7 : decode cX8_swap 7 = .ok (.aload_n 0, 1) := by decide +kernel
theorem dX8_swap_8 : decode cX8_swap 8 = .ok (.getfield 18, 3) := by decide +kernel
theorem dX8_swap_11 : decode cX8_swap 11 = .ok (.iload_n 1, 1) := by decide +kernel
theorem dX8_swap_12 : decode cX8_swap 12 = .ok (.aload_n 0, 1) := by decide +kernel
theorem dX8_swap_13 : decode cX8_swap 13 = .ok (.getfield 18, 3) := by decide +kernel
theorem dX8_swap_16 : decode cX8_swap 16 = .ok (.iload_n 2, 1) := by decide +kernel
theorem dX8_swap_17 : decode cX8_swap 17 = .ok (.iaload, 1) := by decide +kernel
theorem dX8_swap_18 : decode cX8_swap 18 = .ok (.iastore, 1) := by decide +kernel
theorem dX8_swap_19 : decode cX8_swap 19 = .ok (.aload_n 0, 1) := by decide +kernel
theorem dX8_swap_20 : decode cX8_swap 20 = .ok (.getfield 18, 3) := by decide +kernel
theorem dX8_swap_23 : decode cX8_swap 23 = .ok (.iload_n 2, 1) := by decide +kernel
theorem dX8_swap_24 : decode cX8_swap 24 = .ok (.iload_n 3, 1) := by decide +kernel
theorem dX8_swap_25 : decode cX8_swap 25 = .ok (.iastore, 1) := by decide +kernel
theorem dX8_swap_26 : decode cX8_swap 26 = .ok (.return_, 1) := by decide +kernel
theorem dX8_digits_0 : decode cX8_digits 0 = .ok (.iconst 0, 1) := by decide +kernel
theorem dX8_digits_1 : decode cX8_digits 1 = .ok (.istore_n 1, 1) := by decide +kernel
theorem dX8_digits_2 : decode cX8_digits 2 = .ok (.iconst 0, 1) := by decide +kernel
theorem dX8_digits_3 : decode cX8_digits 3 = .ok (.istore_n 2, 1) := by decide +kernel
theorem dX8_digits_4 : decode cX8_digits 4 = .ok (.iload_n 2, 1) := by decide +kernel
theorem dX8_digits_5 : decode cX8_digits 5 = .ok (.aload_n 0, 1) := by decide +kernel
theorem dX8_digits_6 : decode cX8_digits 6 = .ok (.getfield 9, 3) := by decide +kernel
theorem dX8_digits_9 : decode cX8_digits 9 = .ok (.if_icmp .ge 23, 3) := by decide +kernel
theorem dX8_digits_12 : decode cX8_digits 12 = .ok (.bipush 10, 2) := by decide +kernel
theorem dX8_digits_14 : decode cX8_digits 14 = .ok (.iload_n 1, 1) := by decide +kernel
theorem dX8_digits_15 : decode cX8_digits 15 = .ok (.imul, 1) := by decide +kernel
theorem dX8_digits_16 : decode cX8_digits 16 = .ok (.aload_n 0, 1) := by decide +kernel
theorem dX8_digits_17 : decode cX8_digits 17 = .ok (.getfield 18, 3) := by decide +kernel
theorem dX8_digits_20 : decode cX8_digits 20 = .ok (.iload_n 2, 1) := by decide +kernel
theorem dX8_digits_21 : decode cX8_digits 21 = .ok (.iaload, 1) := by decide +kernel
theorem dX8_digits_22 : decode cX8_digits 22 = .ok (.iadd, 1) := by decide +kernel
theorem dX8_digits_23 : decode cX8_digits 23 = .ok (.iconst 1, 1) := by decide +kernel
theorem dX8_digits_24 : decode cX8_digits 24 = .ok (.iadd, 1) := by decide +kernel
theorem dX8_digits_25 : decode cX8_digits 25 = .ok (.istore_n 1, 1) := by decide +kernel
theorem dX8_digits_26 : decode cX8_digits 26 = .ok (.iinc 2 1, 3) := by decide +kernel
theorem dX8_digits_29 : decode cX8_digits 29 = .ok (.goto (-25), 3) := by decide +kernel
theorem dX8_digits_32 : decode cX8_digits 32 = .ok (.iload_n 1, 1) := by decide +kernel
theorem dX8_digits_33 : decode cX8_digits 33 = .ok (.ireturn, 1) := by decide +kernel
theorem dX8_isAmong_0 : decode cX8_isAmong 0 = .ok (.iconst 0, 1) := by decide +kernel
theorem dX8_isAmong_1 : decode cX8_isAmong 1 = .ok (.istore_n 2, 1) := by decide +kernel
theorem dX8_isAmong_2 : decode cX8_isAmong 2 = .ok (.iload_n 2, 1) := by decide +kernel
theorem dX8_isAmong_3 : decode cX8_isAmong 3 = .ok (.aload_n 0, 1) := by decide +kernel
theorem dX8_isAmong_4 : decode cX8_isAmong 4 = .ok (.getfield 9, 3) := by decide +kernel
theorem dX8_isAmong_7 : decode cX8_isAmong 7 = .ok (.if_icmp .ge 26, 3) := by decide +kernel
theorem dX8_isAmong_10 : decode cX8_isAmong 10 = .ok (.aload_n 1, 1) := by decide +kernel
theorem dX8_isAmong_11 : decode cX8_isAmong 11 = .ok (.iload_n 2, 1) := by decide +kernel
theorem dX8_isAmong_12 : decode cX8_isAmong 12 = .ok (.iaload, 1) := by decide +kernel
theorem dX8_isAmong_13 : decode cX8_isAmong 13 = .ok (.aload_n 0, 1) := by decide +kernel
theorem dX8_isAmong_14 : decode cX8_isAmong 14 = .ok (.getfield 18, 3) := by decide +kernel
theorem dX8_isAmong_17 : decode cX8_isAmong 17 = .ok (.iload_n 2, 1) := by decide +kernel
theorem dX8_isAmong_18 : decode cX8_isAmong 18 = .ok (.iaload, 1) := by decide +kernel
theorem dX8_isAmong_19 : decode cX8_isAmong 19 = .ok (.ishr, 1) := by decide +kernel
theorem dX8_isAmong_20 : decode cX8_isAmong 20 = .ok (.iconst 1, 1) := by decide +kernel
theorem dX8_isAmong_21 : decode cX8_isAmong 21 = .ok (.iand, 1) := by decide +kernel
theorem dX8_isAmong_22 : decode cX8_isAmong 22 = .ok (.ifCond .ne 5, 3) := by decide +kernel
theorem dX8_isAmong_25 : decode cX8_isAmong 25 = .ok (.iconst 0, 1) := by decide +kernel
theorem dX8_isAmong_26 : decode cX8_isAmong 26 = .ok (.ireturn, 1) := by decide +kernel
theorem dX8_isAmong_27 : decode cX8_isAmong 27 = .ok (.iinc 2 1, 3) := by decide +kernel
theorem dX8_isAmong_30 : decode cX8_isAmong 30 = .ok (.goto (-28), 3) := by decide +kernel
theorem dX8_isAmong_33 : decode cX8_isAmong 33 = .ok (.iconst 1, 1) := by decide +kernel
theorem dX8_isAmong_34 : decode cX8_isAmong 34 = .ok (.ireturn, 1) := by decide +kernel
theorem dX8_mark_0 : decode cX8_mark 0 = .ok (.iconst 0, 1) := by decide +kernel
theorem dX8_mark_1 : decode cX8_mark 1 = .ok (.istore_n 1, 1) := by decide +kernel
theorem dX8_mark_2 : decode cX8_mark 2 = .ok (.iload_n 1, 1) := by decide +kernel
theorem dX8_mark_3 : decode cX8_mark 3 = .ok (.aload_n 0, 1) := by decide +kernel
theorem dX8_mark_4 : decode cX8_mark 4 = .ok (.getfield 9, 3) := by decide +kernel
theorem dX8_mark_7 : decode cX8_mark 7 = .ok (.if_icmp .ge 21, 3) := by decide +kernel
theorem dX8_mark_10 : decode cX8_mark 10 = .ok (.aload_n 0, 1) := by decide +kernel
theorem dX8_mark_11 : decode cX8_mark 11 = .ok (.getfield 22, 3) := by decide +kernel
theorem dX8_mark_14 : decode cX8_mark 14 = .ok (.iload_n 1, 1) := by decide +kernel
theorem dX8_mark_15 : decode cX8_mark 15 = .ok (.aload_n 0, 1) := by decide +kernel
theorem dX8_mark_16 : decode cX8_mark 16 = .ok (.getfield 18, 3) := by decide +kernel
theorem dX8_mark_19 : decode cX8_mark 19 = .ok (.iload_n 1, 1) := by decide +kernel
theorem dX8_mark_20 : decode cX8_mark 20 = .ok (.iaload, 1) := by decide +kernel
theorem dX8_mark_21 : decode cX8_mark 21 = .ok (.iastore, 1) := by decide +kernel
theorem dX8_mark_22 : decode cX8_mark 22 = .ok (.iinc 1 1, 3) := by decide +kernel
theorem dX8_mark_25 : decode cX8_mark 25 = .ok (.goto (-23), 3) := by decide +kernel
theorem dX8_mark_28 : decode cX8_mark 28 = .ok (.return_, 1) := by decide +kernel
theorem dX8_asMarked_0 : decode cX8_asMarked 0 = .ok (.iconst 0, 1) := by decide +kernel
theorem dX8_asMarked_1 : decode cX8_asMarked 1 = .ok (.istore_n 1, 1) := by decide +kernel
theorem dX8_asMarked_2 : decode cX8_asMarked 2 = .ok (.iconst 0, 1) := by decide +kernel
theorem dX8_asMarked_3 : decode cX8_asMarked 3 = .ok (.istore_n 2, 1) := by decide +kernel
theorem dX8_asMarked_4 : decode cX8_asMarked 4 = .ok (.iload_n 2, 1) := by decide +kernel
theorem dX8_asMarked_5 : decode cX8_asMarked 5 = .ok (.aload_n 0, 1) := by decide +kernel
theorem dX8_asMarked_6 : decode cX8_asMarked 6 = .ok (.getfield 9, 3) := by decide +kernel
theorem dX8_asMarked_9 : decode cX8_asMarked 9 = .ok (.if_icmp .ge 30, 3) := by decide +kernel
theorem dX8_asMarked_12 : decode cX8_asMarked 12 = .ok (.aload_n 0, 1) := by decide +kernel
theorem dX8_asMarked_13 : decode cX8_asMarked 13 = .ok (.getfield 18, 3) := by decide +kernel
theorem dX8_asMarked_16 : decode cX8_asMarked 16 = .ok (.iload_n 2, 1) := by decide +kernel
theorem dX8_asMarked_17 : decode cX8_asMarked 17 = .ok (.iaload, 1) := by decide +kernel
theorem dX8_asMarked_18 : decode cX8_asMarked 18 = .ok (.aload_n 0, 1) := by decide +kernel
theorem dX8_asMarked_19 : decode cX8_asMarked 19 = .ok (.getfield 22, 3) := by decide +kernel
theorem dX8_asMarked_22 : decode cX8_asMarked 22 = .ok (.iload_n 2, 1) := by decide +kernel
theorem dX8_asMarked_23 : decode cX8_asMarked 23 = .ok (.iaload, 1) := by decide +kernel
theorem dX8_asMarked_24 : decode cX8_asMarked 24 = .ok (.if_icmp .ne 9, 3) := by decide +kernel
theorem dX8_asMarked_27 : decode cX8_asMarked 27 = .ok (.iload_n 1, 1) := by decide +kernel
theorem dX8_asMarked_28 : decode cX8_asMarked 28 = .ok (.iconst 1, 1) := by decide +kernel
theorem dX8_asMarked_29 : decode cX8_asMarked 29 = .ok (.iload_n 2, 1) := by decide +kernel
theorem dX8_asMarked_30 : decode cX8_asMarked 30 = .ok (.ishl, 1) := by decide +kernel
theorem dX8_asMarked_31 : decode cX8_asMarked 31 = .ok (.ior, 1) := by decide +kernel
theorem dX8_asMarked_32 : decode cX8_asMarked 32 = .ok (.istore_n 1, 1) := by decide +kernel
theorem dX8_asMarked_33 : decode cX8_asMarked 33 = .ok (.iinc 2 1, 3) := by decide +kernel
theorem dX8_asMarked_36 : decode cX8_asMarked 36 = .ok (.goto (-32), 3) := by decide +kernel
theorem dX8_asMarked_39 : decode cX8_asMarked 39 = .ok (.iload_n 1, 1) := by decide +kernel
theorem dX8_asMarked_40 : decode cX8_asMarked 40 = .ok (.ireturn, 1) := by decide +kernel
theorem dJ6_bitCount_0f7a4_0 : decode cJ6_bitCount_0f7a4 0 = .ok (.iload_n 0, 1) := by decide +kernel
theorem dJ6_bitCount_0f7a4_1 : decode cJ6_bitCount_0f7a4 1 = .ok (.iload_n 0, 1) := by decide +kernel
theorem dJ6_bitCount_0f7a4_2 : decode cJ6_bitCount_0f7a4 2 = .ok (.iconst 1, 1) := by decide +kernel
theorem dJ6_bitCount_0f7a4_3 : decode cJ6_bitCount_0f7a4 3 = .ok (.iushr, 1) := by decide +kernel
theorem dJ6_bitCount_0f7a4_4 : decode cJ6_bitCount_0f7a4 4 = .ok (.ldc_w 265, 3) := by decide +kernel
theorem dJ6_bitCount_0f7a4_7 : decode cJ6_bitCount_0f7a4 7 = .ok (.iand, 1) := by decide +kernel
theorem dJ6_bitCount_0f7a4_8 : decode cJ6_bitCount_0f7a4 8 = .ok (.isub, 1) := by decide +kernel
theorem dJ6_bitCount_0f7a4_9 : decode cJ6_bitCount_0f7a4 9 = .ok (.istore_n 0, 1) := by decide +kernel
theorem dJ6_bitCount_0f7a4_10 : decode cJ6_bitCount_0f7a4 10 = .ok (.iload_n 0, 1) := by decide +kernel
theorem dJ6_bitCount_0f7a4_11 : decode cJ6_bitCount_0f7a4 11 = .ok (.ldc_w 266, 3) := by decide +kernel
theorem dJ6_bitCount_0f7a4_14 : decode cJ6_bitCount_0f7a4 14 = .ok (.iand, 1) := by decide +kernel
theorem dJ6_bitCount_0f7a4_15 : decode cJ6_bitCount_0f7a4 15 = .ok (.iload_n 0, 1) := by decide +kernel
theorem dJ6_bitCount_0f7a4_16 : decode cJ6_bitCount_0f7a4 16 = .ok (.iconst 2, 1) := by decide +kernel
theorem dJ6_bitCount_0f7a4_17 : decode cJ6_bitCount_0f7a4 17 = .ok (.iushr, 1) := by decide +kernel
theorem dJ6_bitCount_0f7a4_18 : decode cJ6_bitCount_0f7a4 18 = .ok (.ldc_w 266, 3) := by decide +kernel
theorem dJ6_bitCount_0f7a4_21 : decode cJ6_bitCount_0f7a4 21 = .ok (.iand, 1) := by decide +kernel
theorem dJ6_bitCount_0f7a4_22 : decode cJ6_bitCount_0f7a4 22 = .ok (.iadd, 1) := by decide +kernel
theorem dJ6_bitCount_0f7a4_23 : decode cJ6_bitCount_0f7a4 23 = .ok (.istore_n 0, 1) := by decide +kernel
theorem dJ6_bitCount_0f7a4_24 : decode cJ6_bitCount_0f7a4 24 = .ok (.iload_n 0, 1) := by decide +kernel
theorem dJ6_bitCount_0f7a4_25 : decode cJ6_bitCount_0f7a4 25 = .ok (.iload_n 0, 1) := by decide +kernel
theorem dJ6_bitCount_0f7a4_26 : decode cJ6_bitCount_0f7a4 26 = .ok (.iconst 4, 1) := by decide +kernel
theorem dJ6_bitCount_0f7a4_27 : decode cJ6_bitCount_0f7a4 27 = .ok (.iushr, 1) := by decide +kernel
theorem dJ6_bitCount_0f7a4_28 : decode cJ6_bitCount_0f7a4 28 = .ok (.iadd, 1) := by decide +kernel
theorem dJ6_bitCount_0f7a4_29 : decode cJ6_bitCount_0f7a4 29 = .ok (.ldc_w 267, 3) := by decide +kernel
theorem dJ6_bitCount_0f7a4_32 : decode cJ6_bitCount_0f7a4 32 = .ok (.iand, 1) := by decide +kernel
theorem dJ6_bitCount_0f7a4_33 : decode cJ6_bitCount_0f7a4 33 = .ok (.istore_n 0, 1) := by decide +kernel
theorem dJ6_bitCount_0f7a4_34 : decode cJ6_bitCount_0f7a4 34 = .ok (.iload_n 0, 1) := by decide +kernel
theorem dJ6_bitCount_0f7a4_35 : decode cJ6_bitCount_0f7a4 35 = .ok (.iload_n 0, 1) := by decide +kernel
theorem dJ6_bitCount_0f7a4_36 : decode cJ6_bitCount_0f7a4 36 = .ok (.bipush 8, 2) := by decide +kernel
theorem dJ6_bitCount_0f7a4_38 : decode cJ6_bitCount_0f7a4 38 = .ok (.iushr, 1) := by decide +kernel
theorem dJ6_bitCount_0f7a4_39 : decode cJ6_bitCount_0f7a4 39 = .ok (.iadd, 1) := by decide +kernel
theorem dJ6_bitCount_0f7a4_40 : decode cJ6_bitCount_0f7a4 40 = .ok (.istore_n 0, 1) := by decide +kernel
theorem dJ6_bitCount_0f7a4_41 : decode cJ6_bitCount_0f7a4 41 = .ok (.iload_n 0, 1) := by decide +kernel
theorem dJ6_bitCount_0f7a4_42 : decode cJ6_bitCount_0f7a4 42 = .ok (.iload_n 0, 1) := by decide +kernel
theorem dJ6_bitCount_0f7a4_43 : decode cJ6_bitCount_0f7a4 43 = .ok (.bipush 16, 2) := by decide +kernel
theorem dJ6_bitCount_0f7a4_45 : decode cJ6_bitCount_0f7a4 45 = .ok (.iushr, 1) := by decide +kernel
theorem dJ6_bitCount_0f7a4_46 : decode cJ6_bitCount_0f7a4 46 = .ok (.iadd, 1) := by decide +kernel
theorem dJ6_bitCount_0f7a4_47 : decode cJ6_bitCount_0f7a4 47 = .ok (.istore_n 0, 1) := by decide +kernel
theorem dJ6_bitCount_0f7a4_48 : decode cJ6_bitCount_0f7a4 48 = .ok (.iload_n 0, 1) := by decide +kernel
theorem dJ6_bitCount_0f7a4_49 : decode cJ6_bitCount_0f7a4 49 = .ok (.bipush 63, 2) := by decide +kernel
theorem dJ6_bitCount_0f7a4_51 : decode cJ6_bitCount_0f7a4 51 = .ok (.iand, 1) := by decide +kernel
theorem dJ6_bitCount_0f7a4_52 : decode cJ6_bitCount_0f7a4 52 = .ok (.ireturn, 1) := by decide +kernel
theorem dJ9_max_7cf53_0 : decode cJ9_max_7cf53 0 = .ok (.iload_n 0, 1) := by decide +kernel
theorem dJ9_max_7cf53_1 : decode cJ9_max_7cf53 1 = .ok (.iload_n 1, 1) := by decide +kernel
theorem dJ9_max_7cf53_2 : decode cJ9_max_7cf53 2 = .ok (.if_icmp .lt 7, 3) := by decide +kernel
theorem dJ9_max_7cf53_5 : decode cJ9_max_7cf53 5 = .ok (.iload_n 0, 1) := by decide +kernel
theorem dJ9_max_7cf53_6 : decode cJ9_max_7cf53 6 = .ok (.goto 4, 3) := by decide +kernel
theorem dJ9_max_7cf53_9 : decode cJ9_max_7cf53 9 = .ok (.iload_n 1, 1) := by decide +kernel
theorem dJ9_max_7cf53_10 : decode cJ9_max_7cf53 10 = .ok (.ireturn, 1) := by decide +kernel
theorem dJ9_min_7cf53_0 : decode cJ9_min_7cf53 0 = .ok (.iload_n 0, 1) := by decide +kernel
theorem dJ9_min_7cf53_1 : decode cJ9_min_7cf53 1 = .ok (.iload_n 1, 1) := by decide +kernel
theorem dJ9_min_7cf53_2 : decode cJ9_min_7cf53 2 = .ok (.if_icmp .gt 7, 3) := by decide +kernel
theorem dJ9_min_7cf53_5 : decode cJ9_min_7cf53 5 = .ok (.iload_n 0, 1) := by decide +kernel
theorem dJ9_min_7cf53_6 : decode cJ9_min_7cf53 6 = .ok (.goto 4, 3) := by decide +kernel
theorem dJ9_min_7cf53_9 : decode cJ9_min_7cf53 9 = .ok (.iload_n 1, 1) := by decide +kernel
theorem dJ9_min_7cf53_10 : decode cJ9_min_7cf53 10 = .ok (.ireturn, 1) := by decide +kernel
theorem dJ0_length_8abf5_0 : decode cJ0_length_8abf5 0 = .ok (.aload_n 0, 1) := by decide +kernel
theorem dJ0_length_8abf5_1 : decode cJ0_length_8abf5 1 = .ok (.getfield 9, 3) := by decide +kernel
theorem dJ0_length_8abf5_4 : decode cJ0_length_8abf5 4 = .ok (.arraylength, 1) := by decide +kernel
theorem dJ0_length_8abf5_5 : decode cJ0_length_8abf5 5 = .ok (.aload_n 0, 1) := by decide +kernel
theorem dJ0_length_8abf5_6 : decode cJ0_length_8abf5 6 = .ok (.invokevirtual 335, 3) := by decide +kernel
theorem dJ0_length_8abf5_9 : decode cJ0_length_8abf5 9 = .ok (.ishr, 1) := by decide +kernel
theorem dJ0_length_8abf5_10 : decode cJ0_length_8abf5 10 = .ok (.ireturn, 1) := by decide +kernel
theorem dJ0_charAt_5068e_0 : decode cJ0_charAt_5068e 0 = .ok (.aload_n 0, 1) := by decide +kernel
theorem dJ0_charAt_5068e_1 : decode cJ0_charAt_5068e 1 = .ok (.invokevirtual 492, 3) := by decide +kernel
theorem dJ0_charAt_5068e_4 : decode cJ0_charAt_5068e 4 = .ok (.ifCond .eq 12, 3) := by decide +kernel
theorem dJ0_charAt_5068e_7 : decode cJ0_charAt_5068e 7 = .ok (.aload_n 0, 1) := by decide +kernel
theorem dJ0_charAt_5068e_8 : decode cJ0_charAt_5068e 8 = .ok (.getfield 9, 3) := by decide +kernel
theorem dJ0_charAt_5068e_11 : decode cJ0_charAt_5068e 11 = .ok (.iload_n 1, 1) := by decide +kernel
theorem dJ0_charAt_5068e_12 : decode cJ0_charAt_5068e 12 = .ok (.invokestatic 495, 3) := by decide +kernel
theorem dJ0_charAt_5068e_15 : decode cJ0_charAt_5068e 15 = .ok (.ireturn, 1) := by decide +kernel
theorem dJ0_charAt_5068e_16 : decode cJ0_charAt_5068e 16 = .ok (.aload_n 0, 1) := by decide +kernel
theorem dJ0_charAt_5068e_17 : decode cJ0_charAt_5068e 17 = .ok (.getfield 9, 3) := by decide +kernel
theorem dJ0_charAt_5068e_20 : decode cJ0_charAt_5068e 20 = .ok (.iload_n 1, 1) := by decide +kernel
theorem dJ0_charAt_5068e_21 : decode cJ0_charAt_5068e 21 = .ok (.invokestatic 498, 3) := by decide +kernel
theorem dJ0_charAt_5068e_24 : decode cJ0_charAt_5068e 24 = .ok (.ireturn, 1) := by decide +kernel
theorem dJ0_coder_7d493_0 : decode cJ0_coder_7d493 0 = .ok (.getstatic 38, 3) := by decide +kernel
theorem dJ0_coder_7d493_3 : decode cJ0_coder_7d493 3 = .ok (.ifCond .eq 10, 3) := by decide +kernel
theorem dJ0_coder_7d493_6 : decode cJ0_coder_7d493 6 = .ok (.aload_n 0, 1) := by decide +kernel
theorem dJ0_coder_7d493_7 : decode cJ0_coder_7d493 7 = .ok (.getfield 15, 3) := by decide +kernel
theorem dJ0_coder_7d493_10 : decode cJ0_coder_7d493 10 = .ok (.goto 4, 3) := by decide +kernel
theorem dJ0_coder_7d493_13 : decode cJ0_coder_7d493 13 = .ok (.iconst 1, 1) := by decide +kernel
theorem dJ0_coder_7d493_14 : decode cJ0_coder_7d493 14 = .ok (.ireturn, 1) := by decide +kernel
theorem dJ0_isLatin1_aae02_0 : decode cJ0_isLatin1_aae02 0 = .ok (.getstatic 38, 3) := by decide +kernel
theorem dJ0_isLatin1_aae02_3 : decode cJ0_isLatin1_aae02 3 = .ok (.ifCond .eq 14, 3) := by decide +kernel
theorem dJ0_isLatin1_aae02_6 : decode cJ0_isLatin1_aae02 6 = .ok (.aload_n 0, 1) := by decide +kernel
theorem dJ0_isLatin1_aae02_7 : decode cJ0_isLatin1_aae02 7 = .ok (.getfield 15, 3) := by decide +kernel
theorem dJ0_isLatin1_aae02_10 : decode cJ0_isLatin1_aae02 10 = .ok (.ifCond .ne 7, 3) := by decide +kernel
theorem dJ0_isLatin1_aae02_13 : decode cJ0_isLatin1_aae02 13 = .ok (.iconst 1, 1) := by decide +kernel
theorem dJ0_isLatin1_aae02_14 : decode cJ0_isLatin1_aae02 14 = .ok (.goto 4, 3) := by decide +kernel
theorem dJ0_isLatin1_aae02_17 : decode cJ0_isLatin1_aae02 17 = .ok (.iconst 0, 1) := by decide +kernel
theorem dJ0_isLatin1_aae02_18 : decode cJ0_isLatin1_aae02 18 = .ok (.ireturn, 1) := by decide +kernel
theorem dJ0_checkIndex_df160_0 : decode cJ0_checkIndex_df160 0 = .ok (.iload_n 0, 1) := by decide +kernel
theorem dJ0_checkIndex_df160_1 : decode cJ0_checkIndex_df160 1 = .ok (.iload_n 1, 1) := by decide +kernel
theorem dJ0_checkIndex_df160_2 : decode cJ0_checkIndex_df160 2 = .ok (.getstatic 1053, 3) := by decide +kernel
theorem dJ0_checkIndex_df160_5 : decode cJ0_checkIndex_df160 5 = .ok (.invokestatic 1059, 3) := by decide +kernel
theorem dJ0_checkIndex_df160_8 : decode cJ0_checkIndex_df160 8 = .ok (.pop, 1) := by decide +kernel
theorem dJ0_checkIndex_df160_9 : decode cJ0_checkIndex_df160 9 = .ok (.return_, 1) := by decide +kernel
theorem dJ1_charAt_3b067_0 : decode cJ1_charAt_3b067 0 = .ok (.iload_n 1, 1) := by decide +kernel
theorem dJ1_charAt_3b067_1 : decode cJ1_charAt_3b067 1 = .ok (.aload_n 0, 1) := by decide +kernel
theorem dJ1_charAt_3b067_2 : decode cJ1_charAt_3b067 2 = .ok (.arraylength, 1) := by decide +kernel
theorem dJ1_charAt_3b067_3 : decode cJ1_charAt_3b067 3 = .ok (.invokestatic 9, 3) := by decide +kernel
theorem dJ1_charAt_3b067_6 : decode cJ1_charAt_3b067 6 = .ok (.aload_n 0, 1) := by decide +kernel
theorem dJ1_charAt_3b067_7 : decode cJ1_charAt_3b067 7 = .ok (.iload_n 1, 1) := by decide +kernel
theorem dJ1_charAt_3b067_8 : decode cJ1_charAt_3b067 8 = .ok (.baload, 1) := by decide +kernel
theorem dJ1_charAt_3b067_9 : decode cJ1_charAt_3b067 9 = .ok (.sipush 255, 3) := by decide +kernel
theorem dJ1_charAt_3b067_12 : decode cJ1_charAt_3b067 12 = .ok (.iand, 1) := by decide +kernel
theorem dJ1_charAt_3b067_13 : decode cJ1_charAt_3b067 13 = .ok (.i2c, 1) := by decide +kernel
theorem dJ1_charAt_3b067_14 : decode cJ1_charAt_3b067 14 = .ok (.ireturn, 1) := by decide +kernel
theorem dJ2_getChar_3b067_0 : decode cJ2_getChar_3b067 0 = .ok (.getstatic 44, 3) := by decide +kernel
theorem dJ2_getChar_3b067_3 : decode cJ2_getChar_3b067 3 = .ok (.ifCond .ne 25, 3) := by decide +kernel
theorem dJ2_getChar_3b067_6 : decode cJ2_getChar_3b067 6 = .ok (.iload_n 1, 1) := by decide +kernel
theorem dJ2_getChar_3b067_7 : decode cJ2_getChar_3b067 7 = .ok (.ifCond .lt 11, 3) := by decide +kernel
theorem dJ2_getChar_3b067_10 : decode cJ2_getChar_3b067 10 = .ok (.iload_n 1, 1) := by decide +kernel
theorem dJ2_getChar_3b067_11 : decode cJ2_getChar_3b067 11 = .ok (.aload_n 0, 1) := by decide +kernel
theorem dJ2_getChar_3b067_12 : decode cJ2_getChar_3b067 12 = .ok (.invokestatic 48, 3) := by decide +kernel
theorem dJ2_getChar_3b067_15 : decode cJ2_getChar_3b067 15 = .ok (.if_icmp .lt 13, 3) := by decide +kernel
theorem dJ2_getChar_3b067_18 : decode cJ2_getChar_3b067 18 = .ok (.new 52, 3) := by decide +kernel
theorem dJ2_getChar_3b067_21 : decode cJ2_getChar_3b067 21 = .ok (.dup, 1) := by decide +kernel
theorem dJ2_getChar_3b067_22 : decode cJ2_getChar_3b067 22 = .ok (.ldc 54, 2) := by decide +kernel
theorem dJ2_getChar_3b067_24 : decode cJ2_getChar_3b067 24 = .ok (.invokespecial 56, 3) := by decide +kernel
theorem dJ2_getChar_3b067_27 : decode cJ2_getChar_3b067 27 = .ok (.athrow, 1) := by decide +kernel
theorem dJ2_getChar_3b067_28 : decode cJ2_getChar_3b067 28 = .ok (.iload_n 1, 1) := by decide +kernel
theorem dJ2_getChar_3b067_29 : decode cJ2_getChar_3b067 29 = .ok (.iconst 1, 1) := by decide +kernel
theorem dJ2_getChar_3b067_30 : decode cJ2_getChar_3b067 30 = .ok (.ishl, 1) := by decide +kernel
theorem dJ2_getChar_3b067_31 : decode cJ2_getChar_3b067 31 = .ok (.istore_n 1, 1) := by decide +kernel
theorem dJ2_getChar_3b067_32 : decode cJ2_getChar_3b067 32 = .ok (.aload_n 0, 1) := by decide +kernel
theorem dJ2_getChar_3b067_33 : decode cJ2_getChar_3b067 33 = .ok (.iload_n 1, 1) := by decide +kernel
theorem dJ2_getChar_3b067_34 : decode cJ2_getChar_3b067 34 = .ok (.iinc 1 1, 3) := by decide +kernel
theorem dJ2_getChar_3b067_37 : decode cJ2_getChar_3b067 37 = .ok (.baload, 1) := by decide +kernel
theorem dJ2_getChar_3b067_38 : decode cJ2_getChar_3b067 38 = .ok (.sipush 255, 3) := by decide +kernel
theorem dJ2_getChar_3b067_41 : decode cJ2_getChar_3b067 41 = .ok (.iand, 1) := by decide +kernel
theorem dJ2_getChar_3b067_42 : decode cJ2_getChar_3b067 42 = .ok (.getstatic 59, 3) := by decide +kernel
theorem dJ2_getChar_3b067_45 : decode cJ2_getChar_3b067 45 = .ok (.ishl, 1) := by decide +kernel
theorem dJ2_getChar_3b067_46 : decode cJ2_getChar_3b067 46 = .ok (.aload_n 0, 1) := by decide +kernel
theorem dJ2_getChar_3b067_47 : decode cJ2_getChar_3b067 47 = .ok (.iload_n 1, 1) := by decide +kernel
theorem dJ2_getChar_3b067_48 : decode cJ2_getChar_3b067 48 = .ok (.baload, 1) := by decide +kernel
theorem dJ2_getChar_3b067_49 : decode cJ2_getChar_3b067 49 = .ok (.sipush 255, 3) := by decide +kernel
theorem dJ2_getChar_3b067_52 : decode cJ2_getChar_3b067 52 = .ok (.iand, 1) := by decide +kernel
theorem dJ2_getChar_3b067_53 : decode cJ2_getChar_3b067 53 = .ok (.getstatic 63, 3) := by decide +kernel
theorem dJ2_getChar_3b067_56 : decode cJ2_getChar_3b067 56 = .ok (.ishl, 1) := by decide +kernel
theorem dJ2_getChar_3b067_57 : decode cJ2_getChar_3b067 57 = .ok (.ior, 1) := by decide +kernel
theorem dJ2_getChar_3b067_58 : decode cJ2_getChar_3b067 58 = .ok (.i2c, 1) := by decide +kernel
theorem dJ2_getChar_3b067_59 : decode cJ2_getChar_3b067 59 = .ok (.ireturn, 1) := by decide +kernel
theorem dJ2_length_9d52b_0 : decode cJ2_length_9d52b 0 = .ok (.aload_n 0, 1) := by decide +kernel
theorem dJ2_length_9d52b_1 : decode cJ2_length_9d52b 1 = .ok (.arraylength, 1) := by decide +kernel
theorem dJ2_length_9d52b_2 : decode cJ2_length_9d52b 2 = .ok (.iconst 1, 1) := by decide +kernel
theorem dJ2_length_9d52b_3 : decode cJ2_length_9d52b 3 = .ok (.ishr, 1) := by decide +kernel
theorem dJ2_length_9d52b_4 : decode cJ2_length_9d52b 4 = .ok (.ireturn, 1) := by decide +kernel
theorem dJ2_charAt_3b067_0 : decode cJ2_charAt_3b067 0 = .ok (.iload_n 1, 1) := by decide +kernel
theorem dJ2_charAt_3b067_1 : decode cJ2_charAt_3b067 1 = .ok (.aload_n 0, 1) := by decide +kernel
theorem dJ2_charAt_3b067_2 : decode cJ2_charAt_3b067 2 = .ok (.invokestatic 67, 3) := by decide +kernel
theorem dJ2_charAt_3b067_5 : decode cJ2_charAt_3b067 5 = .ok (.aload_n 0, 1) := by decide +kernel
theorem dJ2_charAt_3b067_6 : decode cJ2_charAt_3b067 6 = .ok (.iload_n 1, 1) := by decide +kernel
theorem dJ2_charAt_3b067_7 : decode cJ2_charAt_3b067 7 = .ok (.invokestatic 71, 3) := by decide +kernel
theorem dJ2_charAt_3b067_10 : decode cJ2_charAt_3b067 10 = .ok (.ireturn, 1) := by decide +kernel
theorem dJ2_checkIndex_2214a_0 : decode cJ2_checkIndex_2214a 0 = .ok (.iload_n 0, 1) := by decide +kernel
theorem dJ2_checkIndex_2214a_1 : decode cJ2_checkIndex_2214a 1 = .ok (.aload_n 1, 1) := by decide +kernel
theorem dJ2_checkIndex_2214a_2 : decode cJ2_checkIndex_2214a 2 = .ok (.invokestatic 48, 3) := by decide +kernel
theorem dJ2_checkIndex_2214a_5 : decode cJ2_checkIndex_2214a 5 = .ok (.invokestatic 414, 3) := by decide +kernel
theorem dJ2_checkIndex_2214a_8 : decode cJ2_checkIndex_2214a 8 = .ok (.return_, 1) := by decide +kernel
theorem dJ3_checkIndex_8e157_0 : decode cJ3_checkIndex_8e157 0 = .ok (.iload_n 0, 1) := by decide +kernel
theorem dJ3_checkIndex_8e157_1 : decode cJ3_checkIndex_8e157 1 = .ok (.ifCond .lt 8, 3) := by decide +kernel
theorem dJ3_checkIndex_8e157_4 : decode cJ3_checkIndex_8e157 4 = .ok (.iload_n 0, 1) := by decide +kernel
theorem dJ3_checkIndex_8e157_5 : decode cJ3_checkIndex_8e157 5 = .ok (.iload_n 1, 1) := by decide +kernel
theorem dJ3_checkIndex_8e157_6 : decode cJ3_checkIndex_8e157 6 = .ok (.if_icmp .lt 10, 3) := by decide +kernel
theorem dJ3_checkIndex_8e157_9 : decode cJ3_checkIndex_8e157 9 = .ok (.aload_n 2, 1) := by decide +kernel
theorem dJ3_checkIndex_8e157_10 : decode cJ3_checkIndex_8e157 10 = .ok (.iload_n 0, 1) := by decide +kernel
theorem dJ3_checkIndex_8e157_11 : decode cJ3_checkIndex_8e157 11 = .ok (.iload_n 1, 1) := by decide +kernel
theorem dJ3_checkIndex_8e157_12 : decode cJ3_checkIndex_8e157 12 = .ok (.invokestatic 95, 3) := by decide +kernel
theorem dJ3_checkIndex_8e157_15 : decode cJ3_checkIndex_8e157 15 = .ok (.athrow, 1) := by decide +kernel
theorem dJ3_checkIndex_8e157_16 : decode cJ3_checkIndex_8e157 16 = .ok (.iload_n 0, 1) := by decide +kernel
theorem dJ3_checkIndex_8e157_17 : decode cJ3_checkIndex_8e157 17 = .ok (.ireturn, 1) := by decide +kernel
theorem dL_law_0 : decode cL_law 0 = .ok (.new 7, 3) := by decide +kernel
theorem dL_law_3 : decode cL_law 3 = .ok (.dup, 1) := by decide +kernel
theorem dL_law_4 : decode cL_law 4 = .ok (.invokespecial 9, 3) := by decide +kernel
theorem dL_law_7 : decode cL_law 7 = .ok (.astore_n 1, 1) := by decide +kernel
theorem dL_law_8 : decode cL_law 8 = .ok (.new 10, 3) := by decide +kernel
theorem dL_law_11 : decode cL_law 11 = .ok (.dup, 1) := by decide +kernel
theorem dL_law_12 : decode cL_law 12 = .ok (.invokespecial 12, 3) := by decide +kernel
theorem dL_law_15 : decode cL_law 15 = .ok (.astore_n 2, 1) := by decide +kernel
theorem dL_law_16 : decode cL_law 16 = .ok (.iconst 0, 1) := by decide +kernel
theorem dL_law_17 : decode cL_law 17 = .ok (.istore_n 3, 1) := by decide +kernel
theorem dL_law_18 : decode cL_law 18 = .ok (.iload_n 3, 1) := by decide +kernel
theorem dL_law_19 : decode cL_law 19 = .ok (.aload_n 0, 1) := by decide +kernel
theorem dL_law_20 : decode cL_law 20 = .ok (.arraylength, 1) := by decide +kernel
theorem dL_law_21 : decode cL_law 21 = .ok (.bipush 6, 2) := by decide +kernel
theorem dL_law_23 : decode cL_law 23 = .ok (.isub, 1) := by decide +kernel
theorem dL_law_24 : decode cL_law 24 = .ok (.if_icmp .gt 970, 3) := by decide +kernel
theorem dL_law_27 : decode cL_law 27 = .ok (.aload_n 0, 1) := by decide +kernel
theorem dL_law_28 : decode cL_law 28 = .ok (.iload_n 3, 1) := by decide +kernel
theorem dL_law_29 : decode cL_law 29 = .ok (.iaload, 1) := by decide +kernel
theorem dL_law_30 : decode cL_law 30 = .ok (.bipush 31, 2) := by decide +kernel
theorem dL_law_32 : decode cL_law 32 = .ok (.iand, 1) := by decide +kernel
theorem dL_law_33 : decode cL_law 33 = .ok (.tableswitch 955 0 26 #[123, 166, 209, 242, 275, 298, 311, 334, 347, 380, 403, 426, 459, 492, 515, 538, 571, 594, 627, 671, 684, 697, 720, 763, 806, 869, 922], 123) := by decide +kernel
theorem dL_law_156 : decode cL_law 156 = .ok (.aload_n 1, 1) := by decide +kernel
theorem dL_law_157 : decode cL_law 157 = .ok (.aload_n 0, 1) := by decide +kernel
theorem dL_law_158 : decode cL_law 158 = .ok (.iload_n 3, 1) := by decide +kernel
theorem dL_law_159 : decode cL_law 159 = .ok (.iconst 1, 1) := by decide +kernel
theorem dL_law_160 : decode cL_law 160 = .ok (.iadd, 1) := by decide +kernel
theorem dL_law_161 : decode cL_law 161 = .ok (.iaload, 1) := by decide +kernel
theorem dL_law_162 : decode cL_law 162 = .ok (.aload_n 0, 1) := by decide +kernel
theorem dL_law_163 : decode cL_law 163 = .ok (.iload_n 3, 1) := by decide +kernel
theorem dL_law_164 : decode cL_law 164 = .ok (.iconst 2, 1) := by decide +kernel
theorem dL_law_165 : decode cL_law 165 = .ok (.iadd, 1) := by decide +kernel
theorem dL_law_166 : decode cL_law 166 = .ok (.iaload, 1) := by decide +kernel
theorem dL_law_167 : decode cL_law 167 = .ok (.aload_n 0, 1) := by decide +kernel
theorem dL_law_168 : decode cL_law 168 = .ok (.iload_n 3, 1) := by decide +kernel
theorem dL_law_169 : decode cL_law 169 = .ok (.iconst 3, 1) := by decide +kernel
theorem dL_law_170 : decode cL_law 170 = .ok (.iadd, 1) := by decide +kernel
theorem dL_law_171 : decode cL_law 171 = .ok (.iaload, 1) := by decide +kernel
theorem dL_law_172 : decode cL_law 172 = .ok (.invokevirtual 13, 3) := by decide +kernel
theorem dL_law_175 : decode cL_law 175 = .ok (.aload_n 2, 1) := by decide +kernel
theorem dL_law_176 : decode cL_law 176 = .ok (.aload_n 0, 1) := by decide +kernel
theorem dL_law_177 : decode cL_law 177 = .ok (.iload_n 3, 1) := by decide +kernel
theorem dL_law_178 : decode cL_law 178 = .ok (.iconst 1, 1) := by decide +kernel
theorem dL_law_179 : decode cL_law 179 = .ok (.iadd, 1) := by decide +kernel
theorem dL_law_180 : decode cL_law 180 = .ok (.iaload, 1) := by decide +kernel
theorem dL_law_181 : decode cL_law 181 = .ok (.aload_n 0, 1) := by decide +kernel
theorem dL_law_182 : decode cL_law 182 = .ok (.iload_n 3, 1) := by decide +kernel
theorem dL_law_183 : decode cL_law 183 = .ok (.iconst 2, 1) := by decide +kernel
theorem dL_law_184 : decode cL_law 184 = .ok (.iadd, 1) := by decide +kernel
theorem dL_law_185 : decode cL_law 185 = .ok (.iaload, 1) := by decide +kernel
theorem dL_law_186 : decode cL_law 186 = .ok (.aload_n 0, 1) := by decide +kernel
theorem dL_law_187 : decode cL_law 187 = .ok (.iload_n 3, 1) := by decide +kernel
theorem dL_law_188 : decode cL_law 188 = .ok (.iconst 3, 1) := by decide +kernel
theorem dL_law_189 : decode cL_law 189 = .ok (.iadd, 1) := by decide +kernel
theorem dL_law_190 : decode cL_law 190 = .ok (.iaload, 1) := by decide +kernel
theorem dL_law_191 : decode cL_law 191 = .ok (.invokevirtual 17, 3) := by decide +kernel
theorem dL_law_194 : decode cL_law 194 = .ok (.if_icmp .eq 794, 3) := by decide +kernel
theorem dL_law_197 : decode cL_law 197 = .ok (.iconst 0, 1) := by decide +kernel
theorem dL_law_198 : decode cL_law 198 = .ok (.ireturn, 1) := by decide +kernel
theorem dL_law_199 : decode cL_law 199 = .ok (.aload_n 1, 1) := by decide +kernel
theorem dL_law_200 : decode cL_law 200 = .ok (.aload_n 0, 1) := by decide +kernel
theorem dL_law_201 : decode cL_law 201 = .ok (.iload_n 3, 1) := by decide +kernel
theorem dL_law_202 : decode cL_law 202 = .ok (.iconst 1, 1) := by decide +kernel
theorem dL_law_203 : decode cL_law 203 = .ok (.iadd, 1) := by decide +kernel
theorem dL_law_204 : decode cL_law 204 = .ok (.iaload, 1) := by decide +kernel
theorem dL_law_205 : decode cL_law 205 = .ok (.aload_n 0, 1) := by decide +kernel
theorem dL_law_206 : decode cL_law 206 = .ok (.iload_n 3, 1) := by decide +kernel
theorem dL_law_207 : decode cL_law 207 = .ok (.iconst 2, 1) := by decide +kernel
theorem dL_law_208 : decode cL_law 208 = .ok (.iadd, 1) := by decide +kernel
theorem dL_law_209 : decode cL_law 209 = .ok (.iaload, 1) := by decide +kernel
theorem dL_law_210 : decode cL_law 210 = .ok (.aload_n 0, 1) := by decide +kernel
theorem dL_law_211 : decode cL_law 211 = .ok (.iload_n 3, 1) := by decide +kernel
theorem dL_law_212 : decode cL_law 212 = .ok (.iconst 3, 1) := by decide +kernel
theorem dL_law_213 : decode cL_law 213 = .ok (.iadd, 1) := by decide +kernel
theorem dL_law_214 : decode cL_law 214 = .ok (.iaload, 1) := by decide +kernel
theorem dL_law_215 : decode cL_law 215 = .ok (.invokevirtual 18, 3) := by decide +kernel
theorem dL_law_218 : decode cL_law 218 = .ok (.aload_n 2, 1) := by decide +kernel
theorem dL_law_219 : decode cL_law 219 = .ok (.aload_n 0, 1) := by decide +kernel
theorem dL_law_220 : decode cL_law 220 = .ok (.iload_n 3, 1) := by decide +kernel
theorem dL_law_221 : decode cL_law 221 = .ok (.iconst 1, 1) := by decide +kernel
theorem dL_law_222 : decode cL_law 222 = .ok (.iadd, 1) := by decide +kernel
theorem dL_law_223 : decode cL_law 223 = .ok (.iaload, 1) := by decide +kernel
theorem dL_law_224 : decode cL_law 224 = .ok (.aload_n 0, 1) := by decide +kernel
theorem dL_law_225 : decode cL_law 225 = .ok (.iload_n 3, 1) := by decide +kernel
theorem dL_law_226 : decode cL_law 226 = .ok (.iconst 2, 1) := by decide +kernel
theorem dL_law_227 : decode cL_law 227 = .ok (.iadd, 1) := by decide +kernel
theorem dL_law_228 : decode cL_law 228 = .ok (.iaload, 1) := by decide +kernel
theorem dL_law_229 : decode cL_law 229 = .ok (.aload_n 0, 1) := by decide +kernel
theorem dL_law_230 : decode cL_law 230 = .ok (.iload_n 3, 1) := by decide +kernel
theorem dL_law_231 : decode cL_law 231 = .ok (.iconst 3, 1) := by decide +kernel
theorem dL_law_232 : decode cL_law 232 = .ok (.iadd, 1) := by decide +kernel
theorem dL_law_233 : decode cL_law 233 = .ok (.iaload, 1) := by decide +kernel
theorem dL_law_234 : decode cL_law 234 = .ok (.invokevirtual 21, 3) := by decide +kernel
theorem dL_law_237 : decode cL_law 237 = .ok (.if_icmp .eq 751, 3) := by decide +kernel
theorem dL_law_240 : decode cL_law 240 = .ok (.iconst 0, 1) := by decide +kernel
theorem dL_law_241 : decode cL_law 241 = .ok (.ireturn, 1) := by decide +kernel
theorem dL_law_242 : decode cL_law 242 = .ok (.aload_n 1, 1) := by decide +kernel
theorem dL_law_243 : decode cL_law 243 = .ok (.aload_n 0, 1) := by decide +kernel
theorem dL_law_244 : decode cL_law 244 = .ok (.iload_n 3, 1) := by decide +kernel
theorem dL_law_245 : decode cL_law 245 = .ok (.iconst 1, 1) := by decide +kernel
theorem dL_law_246 : decode cL_law 246 = .ok (.iadd, 1) := by decide +kernel
theorem dL_law_247 : decode cL_law 247 = .ok (.iaload, 1) := by decide +kernel
theorem dL_law_248 : decode cL_law 248 = .ok (.aload_n 0, 1) := by decide +kernel
theorem dL_law_249 : decode cL_law 249 = .ok (.iload_n 3, 1) := by decide +kernel
theorem dL_law_250 : decode cL_law 250 = .ok (.iconst 2, 1) := by decide +kernel
theorem dL_law_251 : decode cL_law 251 = .ok (.iadd, 1) := by decide +kernel
theorem dL_law_252 : decode cL_law 252 = .ok (.iaload, 1) := by decide +kernel
theorem dL_law_253 : decode cL_law 253 = .ok (.invokevirtual 22, 3) := by decide +kernel
theorem dL_law_256 : decode cL_law 256 = .ok (.aload_n 2, 1) := by decide +kernel
theorem dL_law_257 : decode cL_law 257 = .ok (.aload_n 0, 1) := by decide +kernel
theorem dL_law_258 : decode cL_law 258 = .ok (.iload_n 3, 1) := by decide +kernel
theorem dL_law_259 : decode cL_law 259 = .ok (.iconst 1, 1) := by decide +kernel
theorem dL_law_260 : decode cL_law 260 = .ok (.iadd, 1) := by decide +kernel
theorem dL_law_261 : decode cL_law 261 = .ok (.iaload, 1) := by decide +kernel
theorem dL_law_262 : decode cL_law 262 = .ok (.aload_n 0, 1) := by decide +kernel
theorem dL_law_263 : decode cL_law 263 = .ok (.iload_n 3, 1) := by decide +kernel
theorem dL_law_264 : decode cL_law 264 = .ok (.iconst 2, 1) := by decide +kernel
theorem dL_law_265 : decode cL_law 265 = .ok (.iadd, 1) := by decide +kernel
theorem dL_law_266 : decode cL_law 266 = .ok (.iaload, 1) := by decide +kernel
theorem dL_law_267 : decode cL_law 267 = .ok (.invokevirtual 26, 3) := by decide +kernel
theorem dL_law_270 : decode cL_law 270 = .ok (.if_icmp .eq 718, 3) := by decide +kernel
theorem dL_law_273 : decode cL_law 273 = .ok (.iconst 0, 1) := by decide +kernel
theorem dL_law_274 : decode cL_law 274 = .ok (.ireturn, 1) := by decide +kernel
theorem dL_law_275 : decode cL_law 275 = .ok (.aload_n 1, 1) := by decide +kernel
theorem dL_law_276 : decode cL_law 276 = .ok (.aload_n 0, 1) := by decide +kernel
theorem dL_law_277 : decode cL_law 277 = .ok (.iload_n 3, 1) := by decide +kernel
theorem dL_law_278 : decode cL_law 278 = .ok (.iconst 1, 1) := by decide +kernel
theorem dL_law_279 : decode cL_law 279 = .ok (.iadd, 1) := by decide +kernel
theorem dL_law_280 : decode cL_law 280 = .ok (.iaload, 1) := by decide +kernel
theorem dL_law_281 : decode cL_law 281 = .ok (.aload_n 0, 1) := by decide +kernel
theorem dL_law_282 : decode cL_law 282 = .ok (.iload_n 3, 1) := by decide +kernel
theorem dL_law_283 : decode cL_law 283 = .ok (.iconst 2, 1) := by decide +kernel
theorem dL_law_284 : decode cL_law 284 = .ok (.iadd, 1) := by decide +kernel
theorem dL_law_285 : decode cL_law 285 = .ok (.iaload, 1) := by decide +kernel
theorem dL_law_286 : decode cL_law 286 = .ok (.invokevirtual 27, 3) := by decide +kernel
theorem dL_law_289 : decode cL_law 289 = .ok (.aload_n 2, 1) := by decide +kernel
theorem dL_law_290 : decode cL_law 290 = .ok (.aload_n 0, 1) := by decide +kernel
theorem dL_law_291 : decode cL_law 291 = .ok (.iload_n 3, 1) := by decide +kernel
theorem dL_law_292 : decode cL_law 292 = .ok (.iconst 1, 1) := by decide +kernel
theorem dL_law_293 : decode cL_law 293 = .ok (.iadd, 1) := by decide +kernel
theorem dL_law_294 : decode cL_law 294 = .ok (.iaload, 1) := by decide +kernel
theorem dL_law_295 : decode cL_law 295 = .ok (.aload_n 0, 1) := by decide +kernel
theorem dL_law_296 : decode cL_law 296 = .ok (.iload_n 3, 1) := by decide +kernel
theorem dL_law_297 : decode cL_law 297 = .ok (.iconst 2, 1) := by decide +kernel
theorem dL_law_298 : decode cL_law 298 = .ok (.iadd, 1) := by decide +kernel
theorem dL_law_299 : decode cL_law 299 = .ok (.iaload, 1) := by decide +kernel
theorem dL_law_300 : decode cL_law 300 = .ok (.invokevirtual 30, 3) := by decide +kernel
theorem dL_law_303 : decode cL_law 303 = .ok (.if_icmp .eq 685, 3) := by decide +kernel
theorem dL_law_306 : decode cL_law 306 = .ok (.iconst 0, 1) := by decide +kernel
theorem dL_law_307 : decode cL_law 307 = .ok (.ireturn, 1) := by decide +kernel
theorem dL_law_308 : decode cL_law 308 = .ok (.aload_n 1, 1) := by decide +kernel
theorem dL_law_309 : decode cL_law 309 = .ok (.aload_n 0, 1) := by decide +kernel
theorem dL_law_310 : decode cL_law 310 = .ok (.iload_n 3, 1) := by decide +kernel
theorem dL_law_311 : decode cL_law 311 = .ok (.iconst 1, 1) := by decide +kernel
theorem dL_law_312 : decode cL_law 312 = .ok (.iadd, 1) := by decide +kernel
theorem dL_law_313 : decode cL_law 313 = .ok (.iaload, 1) := by decide +kernel
theorem dL_law_314 : decode cL_law 314 = .ok (.invokevirtual 31, 3) := by decide +kernel
theorem dL_law_317 : decode cL_law 317 = .ok (.aload_n 2, 1) := by decide +kernel
theorem dL_law_318 : decode cL_law 318 = .ok (.aload_n 0, 1) := by decide +kernel
theorem dL_law_319 : decode cL_law 319 = .ok (.iload_n 3, 1) := by decide +kernel
theorem dL_law_320 : decode cL_law 320 = .ok (.iconst 1, 1) := by decide +kernel
theorem dL_law_321 : decode cL_law 321 = .ok (.iadd, 1) := by decide +kernel
theorem dL_law_322 : decode cL_law 322 = .ok (.iaload, 1) := by decide +kernel
theorem dL_law_323 : decode cL_law 323 = .ok (.invokevirtual 35, 3) := by decide +kernel
theorem dL_law_326 : decode cL_law 326 = .ok (.if_icmp .eq 662, 3) := by decide +kernel
theorem dL_law_329 : decode cL_law 329 = .ok (.iconst 0, 1) := by decide +kernel
theorem dL_law_330 : decode cL_law 330 = .ok (.ireturn, 1) := by decide +kernel
theorem dL_law_331 : decode cL_law 331 = .ok (.aload_n 1, 1) := by decide +kernel
theorem dL_law_332 : decode cL_law 332 = .ok (.invokevirtual 36, 3) := by decide +kernel
theorem dL_law_335 : decode cL_law 335 = .ok (.aload_n 2, 1) := by decide +kernel
theorem dL_law_336 : decode cL_law 336 = .ok (.invokevirtual 40, 3) := by decide +kernel
theorem dL_law_339 : decode cL_law 339 = .ok (.if_icmp .eq 649, 3) := by decide +kernel
theorem dL_law_342 : decode cL_law 342 = .ok (.iconst 0, 1) := by decide +kernel
theorem dL_law_343 : decode cL_law 343 = .ok (.ireturn, 1) := by decide +kernel
theorem dL_law_344 : decode cL_law 344 = .ok (.aload_n 1, 1) := by decide +kernel
theorem dL_law_345 : decode cL_law 345 = .ok (.aload_n 0, 1) := by decide +kernel
theorem dL_law_346 : decode cL_law 346 = .ok (.iload_n 3, 1) := by decide +kernel
theorem dL_law_347 : decode cL_law 347 = .ok (.iconst 1, 1) := by decide +kernel
theorem dL_law_348 : decode cL_law 348 = .ok (.iadd, 1) := by decide +kernel
theorem dL_law_349 : decode cL_law 349 = .ok (.iaload, 1) := by decide +kernel
theorem dL_law_350 : decode cL_law 350 = .ok (.invokevirtual 41, 3) := by decide +kernel
theorem dL_law_353 : decode cL_law 353 = .ok (.aload_n 2, 1) := by decide +kernel
theorem dL_law_354 : decode cL_law 354 = .ok (.aload_n 0, 1) := by decide +kernel
theorem dL_law_355 : decode cL_law 355 = .ok (.iload_n 3, 1) := by decide +kernel
theorem dL_law_356 : decode cL_law 356 = .ok (.iconst 1, 1) := by decide +kernel
theorem dL_law_357 : decode cL_law 357 = .ok (.iadd, 1) := by decide +kernel
theorem dL_law_358 : decode cL_law 358 = .ok (.iaload, 1) := by decide +kernel
theorem dL_law_359 : decode cL_law 359 = .ok (.invokevirtual 44, 3) := by decide +kernel
theorem dL_law_362 : decode cL_law 362 = .ok (.if_icmp .eq 626, 3) := by decide +kernel
theorem dL_law_365 : decode cL_law 365 = .ok (.iconst 0, 1) := by decide +kernel
theorem dL_law_366 : decode cL_law 366 = .ok (.ireturn, 1) := by decide +kernel
theorem dL_law_367 : decode cL_law 367 = .ok (.aload_n 1, 1) := by decide +kernel
theorem dL_law_368 : decode cL_law 368 = .ok (.invokevirtual 45, 3) := by decide +kernel
theorem dL_law_371 : decode cL_law 371 = .ok (.aload_n 2, 1) := by decide +kernel
theorem dL_law_372 : decode cL_law 372 = .ok (.invokevirtual 48, 3) := by decide +kernel
theorem dL_law_375 : decode cL_law 375 = .ok (.if_icmp .eq 613, 3) := by decide +kernel
theorem dL_law_378 : decode cL_law 378 = .ok (.iconst 0, 1) := by decide +kernel
theorem dL_law_379 : decode cL_law 379 = .ok (.ireturn, 1) := by decide +kernel
theorem dL_law_380 : decode cL_law 380 = .ok (.aload_n 1, 1) := by decide +kernel
theorem dL_law_381 : decode cL_law 381 = .ok (.aload_n 0, 1) := by decide +kernel
theorem dL_law_382 : decode cL_law 382 = .ok (.iload_n 3, 1) := by decide +kernel
theorem dL_law_383 : decode cL_law 383 = .ok (.iconst 1, 1) := by decide +kernel
theorem dL_law_384 : decode cL_law 384 = .ok (.iadd, 1) := by decide +kernel
theorem dL_law_385 : decode cL_law 385 = .ok (.iaload, 1) := by decide +kernel
theorem dL_law_386 : decode cL_law 386 = .ok (.aload_n 0, 1) := by decide +kernel
theorem dL_law_387 : decode cL_law 387 = .ok (.iload_n 3, 1) := by decide +kernel
theorem dL_law_388 : decode cL_law 388 = .ok (.iconst 2, 1) := by decide +kernel
theorem dL_law_389 : decode cL_law 389 = .ok (.iadd, 1) := by decide +kernel
theorem dL_law_390 : decode cL_law 390 = .ok (.iaload, 1) := by decide +kernel
theorem dL_law_391 : decode cL_law 391 = .ok (.invokevirtual 49, 3) := by decide +kernel
theorem dL_law_394 : decode cL_law 394 = .ok (.aload_n 2, 1) := by decide +kernel
theorem dL_law_395 : decode cL_law 395 = .ok (.aload_n 0, 1) := by decide +kernel
theorem dL_law_396 : decode cL_law 396 = .ok (.iload_n 3, 1) := by decide +kernel
theorem dL_law_397 : decode cL_law 397 = .ok (.iconst 1, 1) := by decide +kernel
theorem dL_law_398 : decode cL_law 398 = .ok (.iadd, 1) := by decide +kernel
theorem dL_law_399 : decode cL_law 399 = .ok (.iaload, 1) := by decide +kernel
theorem dL_law_400 : decode cL_law 400 = .ok (.aload_n 0, 1) := by decide +kernel
theorem dL_law_401 : decode cL_law 401 = .ok (.iload_n 3, 1) := by decide +kernel
theorem dL_law_402 : decode cL_law 402 = .ok (.iconst 2, 1) := by decide +kernel
theorem dL_law_403 : decode cL_law 403 = .ok (.iadd, 1) := by decide +kernel
theorem dL_law_404 : decode cL_law 404 = .ok (.iaload, 1) := by decide +kernel
theorem dL_law_405 : decode cL_law 405 = .ok (.invokevirtual 52, 3) := by decide +kernel
theorem dL_law_408 : decode cL_law 408 = .ok (.if_icmp .eq 580, 3) := by decide +kernel
theorem dL_law_411 : decode cL_law 411 = .ok (.iconst 0, 1) := by decide +kernel
theorem dL_law_412 : decode cL_law 412 = .ok (.ireturn, 1) := by decide +kernel
theorem dL_law_413 : decode cL_law 413 = .ok (.aload_n 1, 1) := by decide +kernel
theorem dL_law_414 : decode cL_law 414 = .ok (.aload_n 0, 1) := by decide +kernel
theorem dL_law_415 : decode cL_law 415 = .ok (.iload_n 3, 1) := by decide +kernel
theorem dL_law_416 : decode cL_law 416 = .ok (.iconst 1, 1) := by decide +kernel
theorem dL_law_417 : decode cL_law 417 = .ok (.iadd, 1) := by decide +kernel
theorem dL_law_418 : decode cL_law 418 = .ok (.iaload, 1) := by decide +kernel
theorem dL_law_419 : decode cL_law 419 = .ok (.invokevirtual 53, 3) := by decide +kernel
theorem dL_law_422 : decode cL_law 422 = .ok (.aload_n 2, 1) := by decide +kernel
theorem dL_law_423 : decode cL_law 423 = .ok (.aload_n 0, 1) := by decide +kernel
theorem dL_law_424 : decode cL_law 424 = .ok (.iload_n 3, 1) := by decide +kernel
theorem dL_law_425 : decode cL_law 425 = .ok (.iconst 1, 1) := by decide +kernel
theorem dL_law_426 : decode cL_law 426 = .ok (.iadd, 1) := by decide +kernel
theorem dL_law_427 : decode cL_law 427 = .ok (.iaload, 1) := by decide +kernel
theorem dL_law_428 : decode cL_law 428 = .ok (.invokevirtual 56, 3) := by decide +kernel
theorem dL_law_431 : decode cL_law 431 = .ok (.if_icmp .eq 557, 3) := by decide +kernel
theorem dL_law_434 : decode cL_law 434 = .ok (.iconst 0, 1) := by decide +kernel
theorem dL_law_435 : decode cL_law 435 = .ok (.ireturn, 1) := by decide +kernel
theorem dL_law_436 : decode cL_law 436 = .ok (.aload_n 1, 1) := by decide +kernel
theorem dL_law_437 : decode cL_law 437 = .ok (.aload_n 0, 1) := by decide +kernel
theorem dL_law_438 : decode cL_law 438 = .ok (.iload_n 3, 1) := by decide +kernel
theorem dL_law_439 : decode cL_law 439 = .ok (.iconst 1, 1) := by decide +kernel
theorem dL_law_440 : decode cL_law 440 = .ok (.iadd, 1) := by decide +kernel
theorem dL_law_441 : decode cL_law 441 = .ok (.iaload, 1) := by decide +kernel
theorem dL_law_442 : decode cL_law 442 = .ok (.invokevirtual 57, 3) := by decide +kernel
theorem dL_law_445 : decode cL_law 445 = .ok (.aload_n 2, 1) := by decide +kernel
theorem dL_law_446 : decode cL_law 446 = .ok (.aload_n 0, 1) := by decide +kernel
theorem dL_law_447 : decode cL_law 447 = .ok (.iload_n 3, 1) := by decide +kernel
theorem dL_law_448 : decode cL_law 448 = .ok (.iconst 1, 1) := by decide +kernel
theorem dL_law_449 : decode cL_law 449 = .ok (.iadd, 1) := by decide +kernel
theorem dL_law_450 : decode cL_law 450 = .ok (.iaload, 1) := by decide +kernel
theorem dL_law_451 : decode cL_law 451 = .ok (.invokevirtual 60, 3) := by decide +kernel
theorem dL_law_454 : decode cL_law 454 = .ok (.if_icmp .eq 534, 3) := by decide +kernel
theorem dL_law_457 : decode cL_law 457 = .ok (.iconst 0, 1) := by decide +kernel
theorem dL_law_458 : decode cL_law 458 = .ok (.ireturn, 1) := by decide +kernel
theorem dL_law_459 : decode cL_law 459 = .ok (.aload_n 1, 1) := by decide +kernel
theorem dL_law_460 : decode cL_law 460 = .ok (.aload_n 0, 1) := by decide +kernel
theorem dL_law_461 : decode cL_law 461 = .ok (.iload_n 3, 1) := by decide +kernel
theorem dL_law_462 : decode cL_law 462 = .ok (.iconst 1, 1) := by decide +kernel
theorem dL_law_463 : decode cL_law 463 = .ok (.iadd, 1) := by decide +kernel
theorem dL_law_464 : decode cL_law 464 = .ok (.iaload, 1) := by decide +kernel
theorem dL_law_465 : decode cL_law 465 = .ok (.aload_n 0, 1) := by decide +kernel
theorem dL_law_466 : decode cL_law 466 = .ok (.iload_n 3, 1) := by decide +kernel
theorem dL_law_467 : decode cL_law 467 = .ok (.iconst 2, 1) := by decide +kernel
theorem dL_law_468 : decode cL_law 468 = .ok (.iadd, 1) := by decide +kernel
theorem dL_law_469 : decode cL_law 469 = .ok (.iaload, 1) := by decide +kernel
theorem dL_law_470 : decode cL_law 470 = .ok (.invokevirtual 61, 3) := by decide +kernel
theorem dL_law_473 : decode cL_law 473 = .ok (.aload_n 2, 1) := by decide +kernel
theorem dL_law_474 : decode cL_law 474 = .ok (.aload_n 0, 1) := by decide +kernel
theorem dL_law_475 : decode cL_law 475 = .ok (.iload_n 3, 1) := by decide +kernel
theorem dL_law_476 : decode cL_law 476 = .ok (.iconst 1, 1) := by decide +kernel
theorem dL_law_477 : decode cL_law 477 = .ok (.iadd, 1) := by decide +kernel
theorem dL_law_478 : decode cL_law 478 = .ok (.iaload, 1) := by decide +kernel
theorem dL_law_479 : decode cL_law 479 = .ok (.aload_n 0, 1) := by decide +kernel
theorem dL_law_480 : decode cL_law 480 = .ok (.iload_n 3, 1) := by decide +kernel
theorem dL_law_481 : decode cL_law 481 = .ok (.iconst 2, 1) := by decide +kernel
theorem dL_law_482 : decode cL_law 482 = .ok (.iadd, 1) := by decide +kernel
theorem dL_law_483 : decode cL_law 483 = .ok (.iaload, 1) := by decide +kernel
theorem dL_law_484 : decode cL_law 484 = .ok (.invokevirtual 64, 3) := by decide +kernel
theorem dL_law_487 : decode cL_law 487 = .ok (.if_icmp .eq 501, 3) := by decide +kernel
theorem dL_law_490 : decode cL_law 490 = .ok (.iconst 0, 1) := by decide +kernel
theorem dL_law_491 : decode cL_law 491 = .ok (.ireturn, 1) := by decide +kernel
theorem dL_law_492 : decode cL_law 492 = .ok (.aload_n 1, 1) := by decide +kernel
theorem dL_law_493 : decode cL_law 493 = .ok (.aload_n 0, 1) := by decide +kernel
theorem dL_law_494 : decode cL_law 494 = .ok (.iload_n 3, 1) := by decide +kernel
theorem dL_law_495 : decode cL_law 495 = .ok (.iconst 1, 1) := by decide +kernel
theorem dL_law_496 : decode cL_law 496 = .ok (.iadd, 1) := by decide +kernel
theorem dL_law_497 : decode cL_law 497 = .ok (.iaload, 1) := by decide +kernel
theorem dL_law_498 : decode cL_law 498 = .ok (.aload_n 0, 1) := by decide +kernel
theorem dL_law_499 : decode cL_law 499 = .ok (.iload_n 3, 1) := by decide +kernel
theorem dL_law_500 : decode cL_law 500 = .ok (.iconst 2, 1) := by decide +kernel
theorem dL_law_501 : decode cL_law 501 = .ok (.iadd, 1) := by decide +kernel
theorem dL_law_502 : decode cL_law 502 = .ok (.iaload, 1) := by decide +kernel
theorem dL_law_503 : decode cL_law 503 = .ok (.invokevirtual 65, 3) := by decide +kernel
theorem dL_law_506 : decode cL_law 506 = .ok (.aload_n 2, 1) := by decide +kernel
theorem dL_law_507 : decode cL_law 507 = .ok (.aload_n 0, 1) := by decide +kernel
theorem dL_law_508 : decode cL_law 508 = .ok (.iload_n 3, 1) := by decide +kernel
theorem dL_law_509 : decode cL_law 509 = .ok (.iconst 1, 1) := by decide +kernel
theorem dL_law_510 : decode cL_law 510 = .ok (.iadd, 1) := by decide +kernel
theorem dL_law_511 : decode cL_law 511 = .ok (.iaload, 1) := by decide +kernel
theorem dL_law_512 : decode cL_law 512 = .ok (.aload_n 0, 1) := by decide +kernel
theorem dL_law_513 : decode cL_law 513 = .ok (.iload_n 3, 1) := by decide +kernel
theorem dL_law_514 : decode cL_law 514 = .ok (.iconst 2, 1) := by decide +kernel
theorem dL_law_515 : decode cL_law 515 = .ok (.iadd, 1) := by decide +kernel
theorem dL_law_516 : decode cL_law 516 = .ok (.iaload, 1) := by decide +kernel
theorem dL_law_517 : decode cL_law 517 = .ok (.invokevirtual 68, 3) := by decide +kernel
theorem dL_law_520 : decode cL_law 520 = .ok (.if_icmp .eq 468, 3) := by decide +kernel
theorem dL_law_523 : decode cL_law 523 = .ok (.iconst 0, 1) := by decide +kernel
theorem dL_law_524 : decode cL_law 524 = .ok (.ireturn, 1) := by decide +kernel
theorem dL_law_525 : decode cL_law 525 = .ok (.aload_n 1, 1) := by decide +kernel
theorem dL_law_526 : decode cL_law 526 = .ok (.aload_n 0, 1) := by decide +kernel
theorem dL_law_527 : decode cL_law 527 = .ok (.iload_n 3, 1) := by decide +kernel
theorem dL_law_528 : decode cL_law 528 = .ok (.iconst 1, 1) := by decide +kernel
theorem dL_law_529 : decode cL_law 529 = .ok (.iadd, 1) := by decide +kernel
theorem dL_law_530 : decode cL_law 530 = .ok (.iaload, 1) := by decide +kernel
theorem dL_law_531 : decode cL_law 531 = .ok (.invokevirtual 69, 3) := by decide +kernel
theorem dL_law_534 : decode cL_law 534 = .ok (.aload_n 2, 1) := by decide +kernel
theorem dL_law_535 : decode cL_law 535 = .ok (.aload_n 0, 1) := by decide +kernel
theorem dL_law_536 : decode cL_law 536 = .ok (.iload_n 3, 1) := by decide +kernel
theorem dL_law_537 : decode cL_law 537 = .ok (.iconst 1, 1) := by decide +kernel
theorem dL_law_538 : decode cL_law 538 = .ok (.iadd, 1) := by decide +kernel
theorem dL_law_539 : decode cL_law 539 = .ok (.iaload, 1) := by decide +kernel
theorem dL_law_540 : decode cL_law 540 = .ok (.invokevirtual 72, 3) := by decide +kernel
theorem dL_law_543 : decode cL_law 543 = .ok (.if_icmp .eq 445, 3) := by decide +kernel
theorem dL_law_546 : decode cL_law 546 = .ok (.iconst 0, 1) := by decide +kernel
theorem dL_law_547 : decode cL_law 547 = .ok (.ireturn, 1) := by decide +kernel
theorem dL_law_548 : decode cL_law 548 = .ok (.aload_n 1, 1) := by decide +kernel
theorem dL_law_549 : decode cL_law 549 = .ok (.aload_n 0, 1) := by decide +kernel
theorem dL_law_550 : decode cL_law 550 = .ok (.iload_n 3, 1) := by decide +kernel
theorem dL_law_551 : decode cL_law 551 = .ok (.iconst 1, 1) := by decide +kernel
theorem dL_law_552 : decode cL_law 552 = .ok (.iadd, 1) := by decide +kernel
theorem dL_law_553 : decode cL_law 553 = .ok (.iaload, 1) := by decide +kernel
theorem dL_law_554 : decode cL_law 554 = .ok (.invokevirtual 73, 3) := by decide +kernel
theorem dL_law_557 : decode cL_law 557 = .ok (.aload_n 2, 1) := by decide +kernel
theorem dL_law_558 : decode cL_law 558 = .ok (.aload_n 0, 1) := by decide +kernel
theorem dL_law_559 : decode cL_law 559 = .ok (.iload_n 3, 1) := by decide +kernel
theorem dL_law_560 : decode cL_law 560 = .ok (.iconst 1, 1) := by decide +kernel
theorem dL_law_561 : decode cL_law 561 = .ok (.iadd, 1) := by decide +kernel
theorem dL_law_562 : decode cL_law 562 = .ok (.iaload, 1) := by decide +kernel
theorem dL_law_563 : decode cL_law 563 = .ok (.invokevirtual 76, 3) := by decide +kernel
theorem dL_law_566 : decode cL_law 566 = .ok (.if_icmp .eq 422, 3) := by decide +kernel
theorem dL_law_569 : decode cL_law 569 = .ok (.iconst 0, 1) := by decide +kernel
theorem dL_law_570 : decode cL_law 570 = .ok (.ireturn, 1) := by decide +kernel
theorem dL_law_571 : decode cL_law 571 = .ok (.aload_n 1, 1) := by decide +kernel
theorem dL_law_572 : decode cL_law 572 = .ok (.aload_n 0, 1) := by decide +kernel
theorem dL_law_573 : decode cL_law 573 = .ok (.iload_n 3, 1) := by decide +kernel
theorem dL_law_574 : decode cL_law 574 = .ok (.iconst 1, 1) := by decide +kernel
theorem dL_law_575 : decode cL_law 575 = .ok (.iadd, 1) := by decide +kernel
theorem dL_law_576 : decode cL_law 576 = .ok (.iaload, 1) := by decide +kernel
theorem dL_law_577 : decode cL_law 577 = .ok (.aload_n 0, 1) := by decide +kernel
theorem dL_law_578 : decode cL_law 578 = .ok (.iload_n 3, 1) := by decide +kernel
theorem dL_law_579 : decode cL_law 579 = .ok (.iconst 2, 1) := by decide +kernel
theorem dL_law_580 : decode cL_law 580 = .ok (.iadd, 1) := by decide +kernel
theorem dL_law_581 : decode cL_law 581 = .ok (.iaload, 1) := by decide +kernel
theorem dL_law_582 : decode cL_law 582 = .ok (.invokevirtual 77, 3) := by decide +kernel
theorem dL_law_585 : decode cL_law 585 = .ok (.aload_n 2, 1) := by decide +kernel
theorem dL_law_586 : decode cL_law 586 = .ok (.aload_n 0, 1) := by decide +kernel
theorem dL_law_587 : decode cL_law 587 = .ok (.iload_n 3, 1) := by decide +kernel
theorem dL_law_588 : decode cL_law 588 = .ok (.iconst 1, 1) := by decide +kernel
theorem dL_law_589 : decode cL_law 589 = .ok (.iadd, 1) := by decide +kernel
theorem dL_law_590 : decode cL_law 590 = .ok (.iaload, 1) := by decide +kernel
theorem dL_law_591 : decode cL_law 591 = .ok (.aload_n 0, 1) := by decide +kernel
theorem dL_law_592 : decode cL_law 592 = .ok (.iload_n 3, 1) := by decide +kernel
theorem dL_law_593 : decode cL_law 593 = .ok (.iconst 2, 1) := by decide +kernel
theorem dL_law_594 : decode cL_law 594 = .ok (.iadd, 1) := by decide +kernel
theorem dL_law_595 : decode cL_law 595 = .ok (.iaload, 1) := by decide +kernel
theorem dL_law_596 : decode cL_law 596 = .ok (.invokevirtual 80, 3) := by decide +kernel
theorem dL_law_599 : decode cL_law 599 = .ok (.if_icmp .eq 389, 3) := by decide +kernel
theorem dL_law_602 : decode cL_law 602 = .ok (.iconst 0, 1) := by decide +kernel
theorem dL_law_603 : decode cL_law 603 = .ok (.ireturn, 1) := by decide +kernel
theorem dL_law_604 : decode cL_law 604 = .ok (.aload_n 1, 1) := by decide +kernel
theorem dL_law_605 : decode cL_law 605 = .ok (.aload_n 0, 1) := by decide +kernel
theorem dL_law_606 : decode cL_law 606 = .ok (.iload_n 3, 1) := by decide +kernel
theorem dL_law_607 : decode cL_law 607 = .ok (.iconst 1, 1) := by decide +kernel
theorem dL_law_608 : decode cL_law 608 = .ok (.iadd, 1) := by decide +kernel
theorem dL_law_609 : decode cL_law 609 = .ok (.iaload, 1) := by decide +kernel
theorem dL_law_610 : decode cL_law 610 = .ok (.invokevirtual 81, 3) := by decide +kernel
theorem dL_law_613 : decode cL_law 613 = .ok (.aload_n 2, 1) := by decide +kernel
theorem dL_law_614 : decode cL_law 614 = .ok (.aload_n 0, 1) := by decide +kernel
theorem dL_law_615 : decode cL_law 615 = .ok (.iload_n 3, 1) := by decide +kernel
theorem dL_law_616 : decode cL_law 616 = .ok (.iconst 1, 1) := by decide +kernel
theorem dL_law_617 : decode cL_law 617 = .ok (.iadd, 1) := by decide +kernel
theorem dL_law_618 : decode cL_law 618 = .ok (.iaload, 1) := by decide +kernel
theorem dL_law_619 : decode cL_law 619 = .ok (.invokevirtual 84, 3) := by decide +kernel
theorem dL_law_622 : decode cL_law 622 = .ok (.if_icmp .eq 366, 3) := by decide +kernel
theorem dL_law_625 : decode cL_law 625 = .ok (.iconst 0, 1) := by decide +kernel
theorem dL_law_626 : decode cL_law 626 = .ok (.ireturn, 1) := by decide +kernel
theorem dL_law_627 : decode cL_law 627 = .ok (.aload_n 1, 1) := by decide +kernel
theorem dL_law_628 : decode cL_law 628 = .ok (.aload_n 0, 1) := by decide +kernel
theorem dL_law_629 : decode cL_law 629 = .ok (.iload_n 3, 1) := by decide +kernel
theorem dL_law_630 : decode cL_law 630 = .ok (.iconst 1, 1) := by decide +kernel
theorem dL_law_631 : decode cL_law 631 = .ok (.iadd, 1) := by decide +kernel
theorem dL_law_632 : decode cL_law 632 = .ok (.iaload, 1) := by decide +kernel
theorem dL_law_633 : decode cL_law 633 = .ok (.aload_n 0, 1) := by decide +kernel
theorem dL_law_634 : decode cL_law 634 = .ok (.iload_n 3, 1) := by decide +kernel
theorem dL_law_635 : decode cL_law 635 = .ok (.iconst 2, 1) := by decide +kernel
theorem dL_law_636 : decode cL_law 636 = .ok (.iadd, 1) := by decide +kernel
theorem dL_law_637 : decode cL_law 637 = .ok (.iaload, 1) := by decide +kernel
theorem dL_law_638 : decode cL_law 638 = .ok (.invokevirtual 85, 3) := by decide +kernel
theorem dL_law_641 : decode cL_law 641 = .ok (.aload_n 2, 1) := by decide +kernel
theorem dL_law_642 : decode cL_law 642 = .ok (.aload_n 0, 1) := by decide +kernel
theorem dL_law_643 : decode cL_law 643 = .ok (.iload_n 3, 1) := by decide +kernel
theorem dL_law_644 : decode cL_law 644 = .ok (.iconst 1, 1) := by decide +kernel
theorem dL_law_645 : decode cL_law 645 = .ok (.iadd, 1) := by decide +kernel
theorem dL_law_646 : decode cL_law 646 = .ok (.iaload, 1) := by decide +kernel
theorem dL_law_647 : decode cL_law 647 = .ok (.aload_n 0, 1) := by decide +kernel
theorem dL_law_648 : decode cL_law 648 = .ok (.iload_n 3, 1) := by decide +kernel
theorem dL_law_649 : decode cL_law 649 = .ok (.iconst 2, 1) := by decide +kernel
theorem dL_law_650 : decode cL_law 650 = .ok (.iadd, 1) := by decide +kernel
theorem dL_law_651 : decode cL_law 651 = .ok (.iaload, 1) := by decide +kernel
theorem dL_law_652 : decode cL_law 652 = .ok (.invokevirtual 88, 3) := by decide +kernel
theorem dL_law_655 : decode cL_law 655 = .ok (.if_icmp .eq 333, 3) := by decide +kernel
theorem dL_law_658 : decode cL_law 658 = .ok (.iconst 0, 1) := by decide +kernel
theorem dL_law_659 : decode cL_law 659 = .ok (.ireturn, 1) := by decide +kernel
theorem dL_law_660 : decode cL_law 660 = .ok (.aload_n 1, 1) := by decide +kernel
theorem dL_law_661 : decode cL_law 661 = .ok (.aload_n 0, 1) := by decide +kernel
theorem dL_law_662 : decode cL_law 662 = .ok (.iload_n 3, 1) := by decide +kernel
theorem dL_law_663 : decode cL_law 663 = .ok (.iconst 1, 1) := by decide +kernel
theorem dL_law_664 : decode cL_law 664 = .ok (.iadd, 1) := by decide +kernel
theorem dL_law_665 : decode cL_law 665 = .ok (.iaload, 1) := by decide +kernel
theorem dL_law_666 : decode cL_law 666 = .ok (.aload_n 0, 1) := by decide +kernel
theorem dL_law_667 : decode cL_law 667 = .ok (.iload_n 3, 1) := by decide +kernel
theorem dL_law_668 : decode cL_law 668 = .ok (.iconst 2, 1) := by decide +kernel
theorem dL_law_669 : decode cL_law 669 = .ok (.iadd, 1) := by decide +kernel
theorem dL_law_670 : decode cL_law 670 = .ok (.iaload, 1) := by decide +kernel
theorem dL_law_671 : decode cL_law 671 = .ok (.aload_n 0, 1) := by decide +kernel
theorem dL_law_672 : decode cL_law 672 = .ok (.iload_n 3, 1) := by decide +kernel
theorem dL_law_673 : decode cL_law 673 = .ok (.iconst 3, 1) := by decide +kernel
theorem dL_law_674 : decode cL_law 674 = .ok (.iadd, 1) := by decide +kernel
theorem dL_law_675 : decode cL_law 675 = .ok (.iaload, 1) := by decide +kernel
theorem dL_law_676 : decode cL_law 676 = .ok (.invokevirtual 89, 3) := by decide +kernel
theorem dL_law_679 : decode cL_law 679 = .ok (.aload_n 2, 1) := by decide +kernel
theorem dL_law_680 : decode cL_law 680 = .ok (.aload_n 0, 1) := by decide +kernel
theorem dL_law_681 : decode cL_law 681 = .ok (.iload_n 3, 1) := by decide +kernel
theorem dL_law_682 : decode cL_law 682 = .ok (.iconst 1, 1) := by decide +kernel
theorem dL_law_683 : decode cL_law 683 = .ok (.iadd, 1) := by decide +kernel
theorem dL_law_684 : decode cL_law 684 = .ok (.iaload, 1) := by decide +kernel
theorem dL_law_685 : decode cL_law 685 = .ok (.aload_n 0, 1) := by decide +kernel
theorem dL_law_686 : decode cL_law 686 = .ok (.iload_n 3, 1) := by decide +kernel
theorem dL_law_687 : decode cL_law 687 = .ok (.iconst 2, 1) := by decide +kernel
theorem dL_law_688 : decode cL_law 688 = .ok (.iadd, 1) := by decide +kernel
theorem dL_law_689 : decode cL_law 689 = .ok (.iaload, 1) := by decide +kernel
theorem dL_law_690 : decode cL_law 690 = .ok (.aload_n 0, 1) := by decide +kernel
theorem dL_law_691 : decode cL_law 691 = .ok (.iload_n 3, 1) := by decide +kernel
theorem dL_law_692 : decode cL_law 692 = .ok (.iconst 3, 1) := by decide +kernel
theorem dL_law_693 : decode cL_law 693 = .ok (.iadd, 1) := by decide +kernel
theorem dL_law_694 : decode cL_law 694 = .ok (.iaload, 1) := by decide +kernel
theorem dL_law_695 : decode cL_law 695 = .ok (.invokevirtual 93, 3) := by decide +kernel
theorem dL_law_698 : decode cL_law 698 = .ok (.lcmp, 1) := by decide +kernel
theorem dL_law_699 : decode cL_law 699 = .ok (.ifCond .eq 289, 3) := by decide +kernel
theorem dL_law_702 : decode cL_law 702 = .ok (.iconst 0, 1) := by decide +kernel
theorem dL_law_703 : decode cL_law 703 = .ok (.ireturn, 1) := by decide +kernel
theorem dL_law_704 : decode cL_law 704 = .ok (.aload_n 1, 1) := by decide +kernel
theorem dL_law_705 : decode cL_law 705 = .ok (.invokevirtual 94, 3) := by decide +kernel
theorem dL_law_708 : decode cL_law 708 = .ok (.aload_n 2, 1) := by decide +kernel
theorem dL_law_709 : decode cL_law 709 = .ok (.invokevirtual 97, 3) := by decide +kernel
theorem dL_law_712 : decode cL_law 712 = .ok (.if_icmp .eq 276, 3) := by decide +kernel
theorem dL_law_715 : decode cL_law 715 = .ok (.iconst 0, 1) := by decide +kernel
theorem dL_law_716 : decode cL_law 716 = .ok (.ireturn, 1) := by decide +kernel
theorem dL_law_717 : decode cL_law 717 = .ok (.aload_n 1, 1) := by decide +kernel
theorem dL_law_718 : decode cL_law 718 = .ok (.invokevirtual 98, 3) := by decide +kernel
theorem dL_law_721 : decode cL_law 721 = .ok (.aload_n 2, 1) := by decide +kernel
theorem dL_law_722 : decode cL_law 722 = .ok (.invokevirtual 101, 3) := by decide +kernel
theorem dL_law_725 : decode cL_law 725 = .ok (.if_icmp .eq 263, 3) := by decide +kernel
theorem dL_law_728 : decode cL_law 728 = .ok (.iconst 0, 1) := by decide +kernel
theorem dL_law_729 : decode cL_law 729 = .ok (.ireturn, 1) := by decide +kernel
theorem dL_law_730 : decode cL_law 730 = .ok (.aload_n 1, 1) := by decide +kernel
theorem dL_law_731 : decode cL_law 731 = .ok (.aload_n 0, 1) := by decide +kernel
theorem dL_law_732 : decode cL_law 732 = .ok (.iload_n 3, 1) := by decide +kernel
theorem dL_law_733 : decode cL_law 733 = .ok (.iconst 1, 1) := by decide +kernel
theorem dL_law_734 : decode cL_law 734 = .ok (.iadd, 1) := by decide +kernel
theorem dL_law_735 : decode cL_law 735 = .ok (.iaload, 1) := by decide +kernel
theorem dL_law_736 : decode cL_law 736 = .ok (.invokevirtual 102, 3) := by decide +kernel
theorem dL_law_739 : decode cL_law 739 = .ok (.aload_n 2, 1) := by decide +kernel
theorem dL_law_740 : decode cL_law 740 = .ok (.aload_n 0, 1) := by decide +kernel
theorem dL_law_741 : decode cL_law 741 = .ok (.iload_n 3, 1) := by decide +kernel
theorem dL_law_742 : decode cL_law 742 = .ok (.iconst 1, 1) := by decide +kernel
theorem dL_law_743 : decode cL_law 743 = .ok (.iadd, 1) := by decide +kernel
theorem dL_law_744 : decode cL_law 744 = .ok (.iaload, 1) := by decide +kernel
theorem dL_law_745 : decode cL_law 745 = .ok (.invokevirtual 105, 3) := by decide +kernel
theorem dL_law_748 : decode cL_law 748 = .ok (.if_icmp .eq 240, 3) := by decide +kernel
theorem dL_law_751 : decode cL_law 751 = .ok (.iconst 0, 1) := by decide +kernel
theorem dL_law_752 : decode cL_law 752 = .ok (.ireturn, 1) := by decide +kernel
theorem dL_law_753 : decode cL_law 753 = .ok (.aload_n 1, 1) := by decide +kernel
theorem dL_law_754 : decode cL_law 754 = .ok (.aload_n 0, 1) := by decide +kernel
theorem dL_law_755 : decode cL_law 755 = .ok (.iload_n 3, 1) := by decide +kernel
theorem dL_law_756 : decode cL_law 756 = .ok (.iconst 1, 1) := by decide +kernel
theorem dL_law_757 : decode cL_law 757 = .ok (.iadd, 1) := by decide +kernel
theorem dL_law_758 : decode cL_law 758 = .ok (.iaload, 1) := by decide +kernel
theorem dL_law_759 : decode cL_law 759 = .ok (.aload_n 0, 1) := by decide +kernel
theorem dL_law_760 : decode cL_law 760 = .ok (.iload_n 3, 1) := by decide +kernel
theorem dL_law_761 : decode cL_law 761 = .ok (.iconst 2, 1) := by decide +kernel
theorem dL_law_762 : decode cL_law 762 = .ok (.iadd, 1) := by decide +kernel
theorem dL_law_763 : decode cL_law 763 = .ok (.iaload, 1) := by decide +kernel
theorem dL_law_764 : decode cL_law 764 = .ok (.aload_n 0, 1) := by decide +kernel
theorem dL_law_765 : decode cL_law 765 = .ok (.iload_n 3, 1) := by decide +kernel
theorem dL_law_766 : decode cL_law 766 = .ok (.iconst 3, 1) := by decide +kernel
theorem dL_law_767 : decode cL_law 767 = .ok (.iadd, 1) := by decide +kernel
theorem dL_law_768 : decode cL_law 768 = .ok (.iaload, 1) := by decide +kernel
theorem dL_law_769 : decode cL_law 769 = .ok (.invokevirtual 106, 3) := by decide +kernel
theorem dL_law_772 : decode cL_law 772 = .ok (.aload_n 2, 1) := by decide +kernel
theorem dL_law_773 : decode cL_law 773 = .ok (.aload_n 0, 1) := by decide +kernel
theorem dL_law_774 : decode cL_law 774 = .ok (.iload_n 3, 1) := by decide +kernel
theorem dL_law_775 : decode cL_law 775 = .ok (.iconst 1, 1) := by decide +kernel
theorem dL_law_776 : decode cL_law 776 = .ok (.iadd, 1) := by decide +kernel
theorem dL_law_777 : decode cL_law 777 = .ok (.iaload, 1) := by decide +kernel
theorem dL_law_778 : decode cL_law 778 = .ok (.aload_n 0, 1) := by decide +kernel
theorem dL_law_779 : decode cL_law 779 = .ok (.iload_n 3, 1) := by decide +kernel
theorem dL_law_780 : decode cL_law 780 = .ok (.iconst 2, 1) := by decide +kernel
theorem dL_law_781 : decode cL_law 781 = .ok (.iadd, 1) := by decide +kernel
theorem dL_law_782 : decode cL_law 782 = .ok (.iaload, 1) := by decide +kernel
theorem dL_law_783 : decode cL_law 783 = .ok (.aload_n 0, 1) := by decide +kernel
theorem dL_law_784 : decode cL_law 784 = .ok (.iload_n 3, 1) := by decide +kernel
theorem dL_law_785 : decode cL_law 785 = .ok (.iconst 3, 1) := by decide +kernel
theorem dL_law_786 : decode cL_law 786 = .ok (.iadd, 1) := by decide +kernel
theorem dL_law_787 : decode cL_law 787 = .ok (.iaload, 1) := by decide +kernel
theorem dL_law_788 : decode cL_law 788 = .ok (.invokevirtual 109, 3) := by decide +kernel
theorem dL_law_791 : decode cL_law 791 = .ok (.if_icmp .eq 197, 3) := by decide +kernel
theorem dL_law_794 : decode cL_law 794 = .ok (.iconst 0, 1) := by decide +kernel
theorem dL_law_795 : decode cL_law 795 = .ok (.ireturn, 1) := by decide +kernel
theorem dL_law_796 : decode cL_law 796 = .ok (.aload_n 1, 1) := by decide +kernel
theorem dL_law_797 : decode cL_law 797 = .ok (.aload_n 0, 1) := by decide +kernel
theorem dL_law_798 : decode cL_law 798 = .ok (.iload_n 3, 1) := by decide +kernel
theorem dL_law_799 : decode cL_law 799 = .ok (.iconst 1, 1) := by decide +kernel
theorem dL_law_800 : decode cL_law 800 = .ok (.iadd, 1) := by decide +kernel
theorem dL_law_801 : decode cL_law 801 = .ok (.iaload, 1) := by decide +kernel
theorem dL_law_802 : decode cL_law 802 = .ok (.aload_n 0, 1) := by decide +kernel
theorem dL_law_803 : decode cL_law 803 = .ok (.iload_n 3, 1) := by decide +kernel
theorem dL_law_804 : decode cL_law 804 = .ok (.iconst 2, 1) := by decide +kernel
theorem dL_law_805 : decode cL_law 805 = .ok (.iadd, 1) := by decide +kernel
theorem dL_law_806 : decode cL_law 806 = .ok (.iaload, 1) := by decide +kernel
theorem dL_law_807 : decode cL_law 807 = .ok (.aload_n 0, 1) := by decide +kernel
theorem dL_law_808 : decode cL_law 808 = .ok (.iload_n 3, 1) := by decide +kernel
theorem dL_law_809 : decode cL_law 809 = .ok (.iconst 3, 1) := by decide +kernel
theorem dL_law_810 : decode cL_law 810 = .ok (.iadd, 1) := by decide +kernel
theorem dL_law_811 : decode cL_law 811 = .ok (.iaload, 1) := by decide +kernel
theorem dL_law_812 : decode cL_law 812 = .ok (.invokevirtual 110, 3) := by decide +kernel
theorem dL_law_815 : decode cL_law 815 = .ok (.aload_n 2, 1) := by decide +kernel
theorem dL_law_816 : decode cL_law 816 = .ok (.aload_n 0, 1) := by decide +kernel
theorem dL_law_817 : decode cL_law 817 = .ok (.iload_n 3, 1) := by decide +kernel
theorem dL_law_818 : decode cL_law 818 = .ok (.iconst 1, 1) := by decide +kernel
theorem dL_law_819 : decode cL_law 819 = .ok (.iadd, 1) := by decide +kernel
theorem dL_law_820 : decode cL_law 820 = .ok (.iaload, 1) := by decide +kernel
theorem dL_law_821 : decode cL_law 821 = .ok (.aload_n 0, 1) := by decide +kernel
theorem dL_law_822 : decode cL_law 822 = .ok (.iload_n 3, 1) := by decide +kernel
theorem dL_law_823 : decode cL_law 823 = .ok (.iconst 2, 1) := by decide +kernel
theorem dL_law_824 : decode cL_law 824 = .ok (.iadd, 1) := by decide +kernel
theorem dL_law_825 : decode cL_law 825 = .ok (.iaload, 1) := by decide +kernel
theorem dL_law_826 : decode cL_law 826 = .ok (.aload_n 0, 1) := by decide +kernel
theorem dL_law_827 : decode cL_law 827 = .ok (.iload_n 3, 1) := by decide +kernel
theorem dL_law_828 : decode cL_law 828 = .ok (.iconst 3, 1) := by decide +kernel
theorem dL_law_829 : decode cL_law 829 = .ok (.iadd, 1) := by decide +kernel
theorem dL_law_830 : decode cL_law 830 = .ok (.iaload, 1) := by decide +kernel
theorem dL_law_831 : decode cL_law 831 = .ok (.invokevirtual 113, 3) := by decide +kernel
theorem dL_law_834 : decode cL_law 834 = .ok (.if_icmp .eq 154, 3) := by decide +kernel
theorem dL_law_837 : decode cL_law 837 = .ok (.iconst 0, 1) := by decide +kernel
theorem dL_law_838 : decode cL_law 838 = .ok (.ireturn, 1) := by decide +kernel
theorem dL_law_839 : decode cL_law 839 = .ok (.aload_n 1, 1) := by decide +kernel
theorem dL_law_840 : decode cL_law 840 = .ok (.aload_n 0, 1) := by decide +kernel
theorem dL_law_841 : decode cL_law 841 = .ok (.iload_n 3, 1) := by decide +kernel
theorem dL_law_842 : decode cL_law 842 = .ok (.iconst 1, 1) := by decide +kernel
theorem dL_law_843 : decode cL_law 843 = .ok (.iadd, 1) := by decide +kernel
theorem dL_law_844 : decode cL_law 844 = .ok (.iaload, 1) := by decide +kernel
theorem dL_law_845 : decode cL_law 845 = .ok (.aload_n 0, 1) := by decide +kernel
theorem dL_law_846 : decode cL_law 846 = .ok (.iload_n 3, 1) := by decide +kernel
theorem dL_law_847 : decode cL_law 847 = .ok (.iconst 2, 1) := by decide +kernel
theorem dL_law_848 : decode cL_law 848 = .ok (.iadd, 1) := by decide +kernel
theorem dL_law_849 : decode cL_law 849 = .ok (.iaload, 1) := by decide +kernel
theorem dL_law_850 : decode cL_law 850 = .ok (.aload_n 0, 1) := by decide +kernel
theorem dL_law_851 : decode cL_law 851 = .ok (.iload_n 3, 1) := by decide +kernel
theorem dL_law_852 : decode cL_law 852 = .ok (.iconst 3, 1) := by decide +kernel
theorem dL_law_853 : decode cL_law 853 = .ok (.iadd, 1) := by decide +kernel
theorem dL_law_854 : decode cL_law 854 = .ok (.iaload, 1) := by decide +kernel
theorem dL_law_855 : decode cL_law 855 = .ok (.aload_n 0, 1) := by decide +kernel
theorem dL_law_856 : decode cL_law 856 = .ok (.iload_n 3, 1) := by decide +kernel
theorem dL_law_857 : decode cL_law 857 = .ok (.iconst 4, 1) := by decide +kernel
theorem dL_law_858 : decode cL_law 858 = .ok (.iadd, 1) := by decide +kernel
theorem dL_law_859 : decode cL_law 859 = .ok (.iaload, 1) := by decide +kernel
theorem dL_law_860 : decode cL_law 860 = .ok (.aload_n 0, 1) := by decide +kernel
theorem dL_law_861 : decode cL_law 861 = .ok (.iload_n 3, 1) := by decide +kernel
theorem dL_law_862 : decode cL_law 862 = .ok (.iconst 5, 1) := by decide +kernel
theorem dL_law_863 : decode cL_law 863 = .ok (.iadd, 1) := by decide +kernel
theorem dL_law_864 : decode cL_law 864 = .ok (.iaload, 1) := by decide +kernel
theorem dL_law_865 : decode cL_law 865 = .ok (.invokevirtual 114, 3) := by decide +kernel
theorem dL_law_868 : decode cL_law 868 = .ok (.aload_n 2, 1) := by decide +kernel
theorem dL_law_869 : decode cL_law 869 = .ok (.aload_n 0, 1) := by decide +kernel
theorem dL_law_870 : decode cL_law 870 = .ok (.iload_n 3, 1) := by decide +kernel
theorem dL_law_871 : decode cL_law 871 = .ok (.iconst 1, 1) := by decide +kernel
theorem dL_law_872 : decode cL_law 872 = .ok (.iadd, 1) := by decide +kernel
theorem dL_law_873 : decode cL_law 873 = .ok (.iaload, 1) := by decide +kernel
theorem dL_law_874 : decode cL_law 874 = .ok (.aload_n 0, 1) := by decide +kernel
theorem dL_law_875 : decode cL_law 875 = .ok (.iload_n 3, 1) := by decide +kernel
theorem dL_law_876 : decode cL_law 876 = .ok (.iconst 2, 1) := by decide +kernel
theorem dL_law_877 : decode cL_law 877 = .ok (.iadd, 1) := by decide +kernel
theorem dL_law_878 : decode cL_law 878 = .ok (.iaload, 1) := by decide +kernel
theorem dL_law_879 : decode cL_law 879 = .ok (.aload_n 0, 1) := by decide +kernel
theorem dL_law_880 : decode cL_law 880 = .ok (.iload_n 3, 1) := by decide +kernel
theorem dL_law_881 : decode cL_law 881 = .ok (.iconst 3, 1) := by decide +kernel
theorem dL_law_882 : decode cL_law 882 = .ok (.iadd, 1) := by decide +kernel
theorem dL_law_883 : decode cL_law 883 = .ok (.iaload, 1) := by decide +kernel
theorem dL_law_884 : decode cL_law 884 = .ok (.aload_n 0, 1) := by decide +kernel
theorem dL_law_885 : decode cL_law 885 = .ok (.iload_n 3, 1) := by decide +kernel
theorem dL_law_886 : decode cL_law 886 = .ok (.iconst 4, 1) := by decide +kernel
theorem dL_law_887 : decode cL_law 887 = .ok (.iadd, 1) := by decide +kernel
theorem dL_law_888 : decode cL_law 888 = .ok (.iaload, 1) := by decide +kernel
theorem dL_law_889 : decode cL_law 889 = .ok (.aload_n 0, 1) := by decide +kernel
theorem dL_law_890 : decode cL_law 890 = .ok (.iload_n 3, 1) := by decide +kernel
theorem dL_law_891 : decode cL_law 891 = .ok (.iconst 5, 1) := by decide +kernel
theorem dL_law_892 : decode cL_law 892 = .ok (.iadd, 1) := by decide +kernel
theorem dL_law_893 : decode cL_law 893 = .ok (.iaload, 1) := by decide +kernel
theorem dL_law_894 : decode cL_law 894 = .ok (.invokevirtual 118, 3) := by decide +kernel
theorem dL_law_897 : decode cL_law 897 = .ok (.if_icmp .eq 91, 3) := by decide +kernel
theorem dL_law_900 : decode cL_law 900 = .ok (.iconst 0, 1) := by decide +kernel
theorem dL_law_901 : decode cL_law 901 = .ok (.ireturn, 1) := by decide +kernel
theorem dL_law_902 : decode cL_law 902 = .ok (.aload_n 1, 1) := by decide +kernel
theorem dL_law_903 : decode cL_law 903 = .ok (.aload_n 0, 1) := by decide +kernel
theorem dL_law_904 : decode cL_law 904 = .ok (.iload_n 3, 1) := by decide +kernel
theorem dL_law_905 : decode cL_law 905 = .ok (.iconst 1, 1) := by decide +kernel
theorem dL_law_906 : decode cL_law 906 = .ok (.iadd, 1) := by decide +kernel
theorem dL_law_907 : decode cL_law 907 = .ok (.iaload, 1) := by decide +kernel
theorem dL_law_908 : decode cL_law 908 = .ok (.aload_n 0, 1) := by decide +kernel
theorem dL_law_909 : decode cL_law 909 = .ok (.iload_n 3, 1) := by decide +kernel
theorem dL_law_910 : decode cL_law 910 = .ok (.iconst 2, 1) := by decide +kernel
theorem dL_law_911 : decode cL_law 911 = .ok (.iadd, 1) := by decide +kernel
theorem dL_law_912 : decode cL_law 912 = .ok (.iaload, 1) := by decide +kernel
theorem dL_law_913 : decode cL_law 913 = .ok (.aload_n 0, 1) := by decide +kernel
theorem dL_law_914 : decode cL_law 914 = .ok (.iload_n 3, 1) := by decide +kernel
theorem dL_law_915 : decode cL_law 915 = .ok (.iconst 3, 1) := by decide +kernel
theorem dL_law_916 : decode cL_law 916 = .ok (.iadd, 1) := by decide +kernel
theorem dL_law_917 : decode cL_law 917 = .ok (.iaload, 1) := by decide +kernel
theorem dL_law_918 : decode cL_law 918 = .ok (.aload_n 0, 1) := by decide +kernel
theorem dL_law_919 : decode cL_law 919 = .ok (.iload_n 3, 1) := by decide +kernel
theorem dL_law_920 : decode cL_law 920 = .ok (.iconst 4, 1) := by decide +kernel
theorem dL_law_921 : decode cL_law 921 = .ok (.iadd, 1) := by decide +kernel
theorem dL_law_922 : decode cL_law 922 = .ok (.iaload, 1) := by decide +kernel
theorem dL_law_923 : decode cL_law 923 = .ok (.invokevirtual 119, 3) := by decide +kernel
theorem dL_law_926 : decode cL_law 926 = .ok (.aload_n 2, 1) := by decide +kernel
theorem dL_law_927 : decode cL_law 927 = .ok (.aload_n 0, 1) := by decide +kernel
theorem dL_law_928 : decode cL_law 928 = .ok (.iload_n 3, 1) := by decide +kernel
theorem dL_law_929 : decode cL_law 929 = .ok (.iconst 1, 1) := by decide +kernel
theorem dL_law_930 : decode cL_law 930 = .ok (.iadd, 1) := by decide +kernel
theorem dL_law_931 : decode cL_law 931 = .ok (.iaload, 1) := by decide +kernel
theorem dL_law_932 : decode cL_law 932 = .ok (.aload_n 0, 1) := by decide +kernel
theorem dL_law_933 : decode cL_law 933 = .ok (.iload_n 3, 1) := by decide +kernel
theorem dL_law_934 : decode cL_law 934 = .ok (.iconst 2, 1) := by decide +kernel
theorem dL_law_935 : decode cL_law 935 = .ok (.iadd, 1) := by decide +kernel
theorem dL_law_936 : decode cL_law 936 = .ok (.iaload, 1) := by decide +kernel
theorem dL_law_937 : decode cL_law 937 = .ok (.aload_n 0, 1) := by decide +kernel
theorem dL_law_938 : decode cL_law 938 = .ok (.iload_n 3, 1) := by decide +kernel
theorem dL_law_939 : decode cL_law 939 = .ok (.iconst 3, 1) := by decide +kernel
theorem dL_law_940 : decode cL_law 940 = .ok (.iadd, 1) := by decide +kernel
theorem dL_law_941 : decode cL_law 941 = .ok (.iaload, 1) := by decide +kernel
theorem dL_law_942 : decode cL_law 942 = .ok (.aload_n 0, 1) := by decide +kernel
theorem dL_law_943 : decode cL_law 943 = .ok (.iload_n 3, 1) := by decide +kernel
theorem dL_law_944 : decode cL_law 944 = .ok (.iconst 4, 1) := by decide +kernel
theorem dL_law_945 : decode cL_law 945 = .ok (.iadd, 1) := by decide +kernel
theorem dL_law_946 : decode cL_law 946 = .ok (.iaload, 1) := by decide +kernel
theorem dL_law_947 : decode cL_law 947 = .ok (.invokevirtual 123, 3) := by decide +kernel
theorem dL_law_950 : decode cL_law 950 = .ok (.if_icmp .eq 38, 3) := by decide +kernel
theorem dL_law_953 : decode cL_law 953 = .ok (.iconst 0, 1) := by decide +kernel
theorem dL_law_954 : decode cL_law 954 = .ok (.ireturn, 1) := by decide +kernel
theorem dL_law_955 : decode cL_law 955 = .ok (.aload_n 1, 1) := by decide +kernel
theorem dL_law_956 : decode cL_law 956 = .ok (.aload_n 0, 1) := by decide +kernel
theorem dL_law_957 : decode cL_law 957 = .ok (.iload_n 3, 1) := by decide +kernel
theorem dL_law_958 : decode cL_law 958 = .ok (.iconst 1, 1) := by decide +kernel
theorem dL_law_959 : decode cL_law 959 = .ok (.iadd, 1) := by decide +kernel
theorem dL_law_960 : decode cL_law 960 = .ok (.iaload, 1) := by decide +kernel
theorem dL_law_961 : decode cL_law 961 = .ok (.aload_n 0, 1) := by decide +kernel
theorem dL_law_962 : decode cL_law 962 = .ok (.iload_n 3, 1) := by decide +kernel
theorem dL_law_963 : decode cL_law 963 = .ok (.iconst 2, 1) := by decide +kernel
theorem dL_law_964 : decode cL_law 964 = .ok (.iadd, 1) := by decide +kernel
theorem dL_law_965 : decode cL_law 965 = .ok (.iaload, 1) := by decide +kernel
theorem dL_law_966 : decode cL_law 966 = .ok (.invokevirtual 124, 3) := by decide +kernel
theorem dL_law_969 : decode cL_law 969 = .ok (.aload_n 2, 1) := by decide +kernel
theorem dL_law_970 : decode cL_law 970 = .ok (.aload_n 0, 1) := by decide +kernel
theorem dL_law_971 : decode cL_law 971 = .ok (.iload_n 3, 1) := by decide +kernel
theorem dL_law_972 : decode cL_law 972 = .ok (.iconst 1, 1) := by decide +kernel
theorem dL_law_973 : decode cL_law 973 = .ok (.iadd, 1) := by decide +kernel
theorem dL_law_974 : decode cL_law 974 = .ok (.iaload, 1) := by decide +kernel
theorem dL_law_975 : decode cL_law 975 = .ok (.aload_n 0, 1) := by decide +kernel
theorem dL_law_976 : decode cL_law 976 = .ok (.iload_n 3, 1) := by decide +kernel
theorem dL_law_977 : decode cL_law 977 = .ok (.iconst 2, 1) := by decide +kernel
theorem dL_law_978 : decode cL_law 978 = .ok (.iadd, 1) := by decide +kernel
theorem dL_law_979 : decode cL_law 979 = .ok (.iaload, 1) := by decide +kernel
theorem dL_law_980 : decode cL_law 980 = .ok (.invokevirtual 127, 3) := by decide +kernel
theorem dL_law_983 : decode cL_law 983 = .ok (.if_icmp .eq 5, 3) := by decide +kernel
theorem dL_law_986 : decode cL_law 986 = .ok (.iconst 0, 1) := by decide +kernel
theorem dL_law_987 : decode cL_law 987 = .ok (.ireturn, 1) := by decide +kernel
theorem dL_law_988 : decode cL_law 988 = .ok (.iinc 3 6, 3) := by decide +kernel
theorem dL_law_991 : decode cL_law 991 = .ok (.goto (-973), 3) := by decide +kernel
theorem dL_law_994 : decode cL_law 994 = .ok (.iconst 1, 1) := by decide +kernel
theorem dL_law_995 : decode cL_law 995 = .ok (.ireturn, 1) := by decide +kernel
