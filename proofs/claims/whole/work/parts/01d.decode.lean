theorem dX0_init_0 : decode cX0_init 0 = .ok (.aload_n 0, 1) := by decide +kernel
theorem dX0_init_1 : decode cX0_init 1 = .ok (.invokespecial 3, 3) := by decide +kernel
theorem dX0_init_4 : decode cX0_init 4 = .ok (.aload_n 0, 1) := by decide +kernel
theorem dX0_init_5 : decode cX0_init 5 = .ok (.bipush (-5), 2) := by decide +kernel
theorem dX0_init_7 : decode cX0_init 7 = .ok (.putfield 9, 3) := by decide +kernel
theorem dX0_init_10 : decode cX0_init 10 = .ok (.aload_n 0, 1) := by decide +kernel
theorem dX0_init_11 : decode cX0_init 11 = .ok (.bipush (-5), 2) := by decide +kernel
theorem dX0_init_13 : decode cX0_init 13 = .ok (.putfield 15, 3) := by decide +kernel
theorem dX0_init_16 : decode cX0_init 16 = .ok (.aload_n 0, 1) := by decide +kernel
theorem dX0_init_17 : decode cX0_init 17 = .ok (.bipush (-5), 2) := by decide +kernel
theorem dX0_init_19 : decode cX0_init 19 = .ok (.putfield 18, 3) := by decide +kernel
theorem dX0_init_22 : decode cX0_init 22 = .ok (.return_, 1) := by decide +kernel
theorem dX0_tell_0 : decode cX0_tell 0 = .ok (.aload_n 0, 1) := by decide +kernel
theorem dX0_tell_1 : decode cX0_tell 1 = .ok (.iload_n 1, 1) := by decide +kernel
theorem dX0_tell_2 : decode cX0_tell 2 = .ok (.putfield 9, 3) := by decide +kernel
theorem dX0_tell_5 : decode cX0_tell 5 = .ok (.aload_n 0, 1) := by decide +kernel
theorem dX0_tell_6 : decode cX0_tell 6 = .ok (.iload_n 2, 1) := by decide +kernel
theorem dX0_tell_7 : decode cX0_tell 7 = .ok (.putfield 15, 3) := by decide +kernel
theorem dX0_tell_10 : decode cX0_tell 10 = .ok (.aload_n 0, 1) := by decide +kernel
theorem dX0_tell_11 : decode cX0_tell 11 = .ok (.iload_n 3, 1) := by decide +kernel
theorem dX0_tell_12 : decode cX0_tell 12 = .ok (.putfield 18, 3) := by decide +kernel
theorem dX0_tell_15 : decode cX0_tell 15 = .ok (.return_, 1) := by decide +kernel
theorem dX1_init_0 : decode cX1_init 0 = .ok (.aload_n 0, 1) := by decide +kernel
theorem dX1_init_1 : decode cX1_init 1 = .ok (.invokespecial 1, 3) := by decide +kernel
theorem dX1_init_4 : decode cX1_init 4 = .ok (.aload_n 0, 1) := by decide +kernel
theorem dX1_init_5 : decode cX1_init 5 = .ok (.new 7, 3) := by decide +kernel
theorem dX1_init_8 : decode cX1_init 8 = .ok (.dup, 1) := by decide +kernel
theorem dX1_init_9 : decode cX1_init 9 = .ok (.invokespecial 9, 3) := by decide +kernel
theorem dX1_init_12 : decode cX1_init 12 = .ok (.putfield 10, 3) := by decide +kernel
theorem dX1_init_15 : decode cX1_init 15 = .ok (.aload_n 0, 1) := by decide +kernel
theorem dX1_init_16 : decode cX1_init 16 = .ok (.new 16, 3) := by decide +kernel
theorem dX1_init_19 : decode cX1_init 19 = .ok (.dup, 1) := by decide +kernel
theorem dX1_init_20 : decode cX1_init 20 = .ok (.iconst 5, 1) := by decide +kernel
theorem dX1_init_21 : decode cX1_init 21 = .ok (.invokespecial 18, 3) := by decide +kernel
theorem dX1_init_24 : decode cX1_init 24 = .ok (.putfield 21, 3) := by decide +kernel
theorem dX1_init_27 : decode cX1_init 27 = .ok (.aload_n 0, 1) := by decide +kernel
theorem dX1_init_28 : decode cX1_init 28 = .ok (.new 16, 3) := by decide +kernel
theorem dX1_init_31 : decode cX1_init 31 = .ok (.dup, 1) := by decide +kernel
theorem dX1_init_32 : decode cX1_init 32 = .ok (.bipush 10, 2) := by decide +kernel
theorem dX1_init_34 : decode cX1_init 34 = .ok (.invokespecial 18, 3) := by decide +kernel
theorem dX1_init_37 : decode cX1_init 37 = .ok (.putfield 25, 3) := by decide +kernel
theorem dX1_init_40 : decode cX1_init 40 = .ok (.aload_n 0, 1) := by decide +kernel
theorem dX1_init_41 : decode cX1_init 41 = .ok (.new 16, 3) := by decide +kernel
theorem dX1_init_44 : decode cX1_init 44 = .ok (.dup, 1) := by decide +kernel
theorem dX1_init_45 : decode cX1_init 45 = .ok (.bipush 8, 2) := by decide +kernel
theorem dX1_init_47 : decode cX1_init 47 = .ok (.invokespecial 18, 3) := by decide +kernel
theorem dX1_init_50 : decode cX1_init 50 = .ok (.putfield 28, 3) := by decide +kernel
theorem dX1_init_53 : decode cX1_init 53 = .ok (.return_, 1) := by decide +kernel
theorem dX1_become_0 : decode cX1_become 0 = .ok (.aload_n 0, 1) := by decide +kernel
theorem dX1_become_1 : decode cX1_become 1 = .ok (.getfield 10, 3) := by decide +kernel
theorem dX1_become_4 : decode cX1_become 4 = .ok (.aload_n 1, 1) := by decide +kernel
theorem dX1_become_5 : decode cX1_become 5 = .ok (.getfield 10, 3) := by decide +kernel
theorem dX1_become_8 : decode cX1_become 8 = .ok (.invokevirtual 31, 3) := by decide +kernel
theorem dX1_become_11 : decode cX1_become 11 = .ok (.aload_n 0, 1) := by decide +kernel
theorem dX1_become_12 : decode cX1_become 12 = .ok (.getfield 21, 3) := by decide +kernel
theorem dX1_become_15 : decode cX1_become 15 = .ok (.aload_n 1, 1) := by decide +kernel
theorem dX1_become_16 : decode cX1_become 16 = .ok (.getfield 21, 3) := by decide +kernel
theorem dX1_become_19 : decode cX1_become 19 = .ok (.invokevirtual 35, 3) := by decide +kernel
theorem dX1_become_22 : decode cX1_become 22 = .ok (.aload_n 0, 1) := by decide +kernel
theorem dX1_become_23 : decode cX1_become 23 = .ok (.getfield 25, 3) := by decide +kernel
theorem dX1_become_26 : decode cX1_become 26 = .ok (.aload_n 1, 1) := by decide +kernel
theorem dX1_become_27 : decode cX1_become 27 = .ok (.getfield 25, 3) := by decide +kernel
theorem dX1_become_30 : decode cX1_become 30 = .ok (.invokevirtual 35, 3) := by decide +kernel
theorem dX1_become_33 : decode cX1_become 33 = .ok (.aload_n 0, 1) := by decide +kernel
theorem dX1_become_34 : decode cX1_become 34 = .ok (.getfield 28, 3) := by decide +kernel
theorem dX1_become_37 : decode cX1_become 37 = .ok (.aload_n 1, 1) := by decide +kernel
theorem dX1_become_38 : decode cX1_become 38 = .ok (.getfield 28, 3) := by decide +kernel
theorem dX1_become_41 : decode cX1_become 41 = .ok (.invokevirtual 35, 3) := by decide +kernel
theorem dX1_become_44 : decode cX1_become 44 = .ok (.return_, 1) := by decide +kernel
theorem dX2_init_0 : decode cX2_init 0 = .ok (.aload_n 0, 1) := by decide +kernel
theorem dX2_init_1 : decode cX2_init 1 = .ok (.invokespecial 3, 3) := by decide +kernel
theorem dX2_init_4 : decode cX2_init 4 = .ok (.aload_n 0, 1) := by decide +kernel
theorem dX2_init_5 : decode cX2_init 5 = .ok (.bipush 8, 2) := by decide +kernel
theorem dX2_init_7 : decode cX2_init 7 = .ok (.bipush 8, 2) := by decide +kernel
theorem dX2_init_9 : decode cX2_init 9 = .ok (.multianewarray 9 2, 4) := by decide +kernel
theorem dX2_init_13 : decode cX2_init 13 = .ok (.putfield 11, 3) := by decide +kernel
theorem dX2_init_16 : decode cX2_init 16 = .ok (.aload_n 0, 1) := by decide +kernel
theorem dX2_init_17 : decode cX2_init 17 = .ok (.bipush 8, 2) := by decide +kernel
theorem dX2_init_19 : decode cX2_init 19 = .ok (.newarray .int, 2) := by decide +kernel
theorem dX2_init_21 : decode cX2_init 21 = .ok (.putfield 16, 3) := by decide +kernel
theorem dX2_init_24 : decode cX2_init 24 = .ok (.aload_n 0, 1) := by decide +kernel
theorem dX2_init_25 : decode cX2_init 25 = .ok (.bipush 8, 2) := by decide +kernel
theorem dX2_init_27 : decode cX2_init 27 = .ok (.newarray .int, 2) := by decide +kernel
theorem dX2_init_29 : decode cX2_init 29 = .ok (.putfield 20, 3) := by decide +kernel
theorem dX2_init_32 : decode cX2_init 32 = .ok (.aload_n 0, 1) := by decide +kernel
theorem dX2_init_33 : decode cX2_init 33 = .ok (.bipush 8, 2) := by decide +kernel
theorem dX2_init_35 : decode cX2_init 35 = .ok (.newarray .int, 2) := by decide +kernel
theorem dX2_init_37 : decode cX2_init 37 = .ok (.putfield 23, 3) := by decide +kernel
theorem dX2_init_40 : decode cX2_init 40 = .ok (.aload_n 0, 1) := by decide +kernel
theorem dX2_init_41 : decode cX2_init 41 = .ok (.iconst 3, 1) := by decide +kernel
theorem dX2_init_42 : decode cX2_init 42 = .ok (.putfield 26, 3) := by decide +kernel
theorem dX2_init_45 : decode cX2_init 45 = .ok (.aload_n 0, 1) := by decide +kernel
theorem dX2_init_46 : decode cX2_init 46 = .ok (.iconst 5, 1) := by decide +kernel
theorem dX2_init_47 : decode cX2_init 47 = .ok (.putfield 30, 3) := by decide +kernel
theorem dX2_init_50 : decode cX2_init 50 = .ok (.aload_n 0, 1) := by decide +kernel
theorem dX2_init_51 : decode cX2_init 51 = .ok (.iconst (-1), 1) := by decide +kernel
theorem dX2_init_52 : decode cX2_init 52 = .ok (.putfield 33, 3) := by decide +kernel
theorem dX2_init_55 : decode cX2_init 55 = .ok (.aload_n 0, 1) := by decide +kernel
theorem dX2_init_56 : decode cX2_init 56 = .ok (.aload_n 0, 1) := by decide +kernel
theorem dX2_init_57 : decode cX2_init 57 = .ok (.getfield 26, 3) := by decide +kernel
theorem dX2_init_60 : decode cX2_init 60 = .ok (.invokevirtual 36, 3) := by decide +kernel
theorem dX2_init_63 : decode cX2_init 63 = .ok (.return_, 1) := by decide +kernel
theorem dX2_becomeEmpty_0 : decode cX2_becomeEmpty 0 = .ok (.aload_n 0, 1) := by decide +kernel
theorem dX2_becomeEmpty_1 : decode cX2_becomeEmpty 1 = .ok (.iload_n 1, 1) := by decide +kernel
theorem dX2_becomeEmpty_2 : decode cX2_becomeEmpty 2 = .ok (.putfield 26, 3) := by decide +kernel
theorem dX2_becomeEmpty_5 : decode cX2_becomeEmpty 5 = .ok (.iconst 0, 1) := by decide +kernel
theorem dX2_becomeEmpty_6 : decode cX2_becomeEmpty 6 = .ok (.istore_n 2, 1) := by decide +kernel
theorem dX2_becomeEmpty_7 : decode cX2_becomeEmpty 7 = .ok (.iload_n 2, 1) := by decide +kernel
theorem dX2_becomeEmpty_8 : decode cX2_becomeEmpty 8 = .ok (.bipush 8, 2) := by decide +kernel
theorem dX2_becomeEmpty_10 : decode cX2_becomeEmpty 10 = .ok (.if_icmp .ge 32, 3) := by decide +kernel
theorem dX2_becomeEmpty_13 : decode cX2_becomeEmpty 13 = .ok (.iconst 0, 1) := by decide +kernel
theorem dX2_becomeEmpty_14 : decode cX2_becomeEmpty 14 = .ok (.istore_n 3, 1) := by decide +kernel
theorem dX2_becomeEmpty_15 : decode cX2_becomeEmpty 15 = .ok (.iload_n 3, 1) := by decide +kernel
theorem dX2_becomeEmpty_16 : decode cX2_becomeEmpty 16 = .ok (.bipush 8, 2) := by decide +kernel
theorem dX2_becomeEmpty_18 : decode cX2_becomeEmpty 18 = .ok (.if_icmp .ge 18, 3) := by decide +kernel
theorem dX2_becomeEmpty_21 : decode cX2_becomeEmpty 21 = .ok (.aload_n 0, 1) := by decide +kernel
theorem dX2_becomeEmpty_22 : decode cX2_becomeEmpty 22 = .ok (.getfield 11, 3) := by decide +kernel
theorem dX2_becomeEmpty_25 : decode cX2_becomeEmpty 25 = .ok (.iload_n 2, 1) := by decide +kernel
theorem dX2_becomeEmpty_26 : decode cX2_becomeEmpty 26 = .ok (.aaload, 1) := by decide +kernel
theorem dX2_becomeEmpty_27 : decode cX2_becomeEmpty 27 = .ok (.iload_n 3, 1) := by decide +kernel
theorem dX2_becomeEmpty_28 : decode cX2_becomeEmpty 28 = .ok (.iconst 0, 1) := by decide +kernel
theorem dX2_becomeEmpty_29 : decode cX2_becomeEmpty 29 = .ok (.iastore, 1) := by decide +kernel
theorem dX2_becomeEmpty_30 : decode cX2_becomeEmpty 30 = .ok (.iinc 3 1, 3) := by decide +kernel
theorem dX2_becomeEmpty_33 : decode cX2_becomeEmpty 33 = .ok (.goto (-18), 3) := by decide +kernel
theorem dX2_becomeEmpty_36 : decode cX2_becomeEmpty 36 = .ok (.iinc 2 1, 3) := by decide +kernel
theorem dX2_becomeEmpty_39 : decode cX2_becomeEmpty 39 = .ok (.goto (-32), 3) := by decide +kernel
theorem dX2_becomeEmpty_42 : decode cX2_becomeEmpty 42 = .ok (.aload_n 0, 1) := by decide +kernel
theorem dX2_becomeEmpty_43 : decode cX2_becomeEmpty 43 = .ok (.invokevirtual 40, 3) := by decide +kernel
theorem dX2_becomeEmpty_46 : decode cX2_becomeEmpty 46 = .ok (.return_, 1) := by decide +kernel
theorem dX2_become_0 : decode cX2_become 0 = .ok (.aload_n 0, 1) := by decide +kernel
theorem dX2_become_1 : decode cX2_become 1 = .ok (.aload_n 1, 1) := by decide +kernel
theorem dX2_become_2 : decode cX2_become 2 = .ok (.getfield 26, 3) := by decide +kernel
theorem dX2_become_5 : decode cX2_become 5 = .ok (.putfield 26, 3) := by decide +kernel
theorem dX2_become_8 : decode cX2_become 8 = .ok (.aload_n 0, 1) := by decide +kernel
theorem dX2_become_9 : decode cX2_become 9 = .ok (.aload_n 1, 1) := by decide +kernel
theorem dX2_become_10 : decode cX2_become 10 = .ok (.getfield 30, 3) := by decide +kernel
theorem dX2_become_13 : decode cX2_become 13 = .ok (.putfield 30, 3) := by decide +kernel
theorem dX2_become_16 : decode cX2_become 16 = .ok (.iconst 0, 1) := by decide +kernel
theorem dX2_become_17 : decode cX2_become 17 = .ok (.istore_n 2, 1) := by decide +kernel
theorem dX2_become_18 : decode cX2_become 18 = .ok (.iload_n 2, 1) := by decide +kernel
theorem dX2_become_19 : decode cX2_become 19 = .ok (.bipush 8, 2) := by decide +kernel
theorem dX2_become_21 : decode cX2_become 21 = .ok (.if_icmp .ge 28, 3) := by decide +kernel
theorem dX2_become_24 : decode cX2_become 24 = .ok (.aload_n 1, 1) := by decide +kernel
theorem dX2_become_25 : decode cX2_become 25 = .ok (.getfield 11, 3) := by decide +kernel
theorem dX2_become_28 : decode cX2_become 28 = .ok (.iload_n 2, 1) := by decide +kernel
theorem dX2_become_29 : decode cX2_become 29 = .ok (.aaload, 1) := by decide +kernel
theorem dX2_become_30 : decode cX2_become 30 = .ok (.iconst 0, 1) := by decide +kernel
theorem dX2_become_31 : decode cX2_become 31 = .ok (.aload_n 0, 1) := by decide +kernel
theorem dX2_become_32 : decode cX2_become 32 = .ok (.getfield 11, 3) := by decide +kernel
theorem dX2_become_35 : decode cX2_become 35 = .ok (.iload_n 2, 1) := by decide +kernel
theorem dX2_become_36 : decode cX2_become 36 = .ok (.aaload, 1) := by decide +kernel
theorem dX2_become_37 : decode cX2_become 37 = .ok (.iconst 0, 1) := by decide +kernel
theorem dX2_become_38 : decode cX2_become 38 = .ok (.bipush 8, 2) := by decide +kernel
theorem dX2_become_40 : decode cX2_become 40 = .ok (.invokestatic 43, 3) := by decide +kernel
theorem dX2_become_43 : decode cX2_become 43 = .ok (.iinc 2 1, 3) := by decide +kernel
theorem dX2_become_46 : decode cX2_become 46 = .ok (.goto (-28), 3) := by decide +kernel
theorem dX2_become_49 : decode cX2_become 49 = .ok (.aload_n 1, 1) := by decide +kernel
theorem dX2_become_50 : decode cX2_become 50 = .ok (.getfield 16, 3) := by decide +kernel
theorem dX2_become_53 : decode cX2_become 53 = .ok (.iconst 0, 1) := by decide +kernel
theorem dX2_become_54 : decode cX2_become 54 = .ok (.aload_n 0, 1) := by decide +kernel
theorem dX2_become_55 : decode cX2_become 55 = .ok (.getfield 16, 3) := by decide +kernel
theorem dX2_become_58 : decode cX2_become 58 = .ok (.iconst 0, 1) := by decide +kernel
theorem dX2_become_59 : decode cX2_become 59 = .ok (.bipush 8, 2) := by decide +kernel
theorem dX2_become_61 : decode cX2_become 61 = .ok (.invokestatic 43, 3) := by decide +kernel
theorem dX2_become_64 : decode cX2_become 64 = .ok (.aload_n 1, 1) := by decide +kernel
theorem dX2_become_65 : decode cX2_become 65 = .ok (.getfield 20, 3) := by decide +kernel
theorem dX2_become_68 : decode cX2_become 68 = .ok (.iconst 0, 1) := by decide +kernel
theorem dX2_become_69 : decode cX2_become 69 = .ok (.aload_n 0, 1) := by decide +kernel
theorem dX2_become_70 : decode cX2_become 70 = .ok (.getfield 20, 3) := by decide +kernel
theorem dX2_become_73 : decode cX2_become 73 = .ok (.iconst 0, 1) := by decide +kernel
theorem dX2_become_74 : decode cX2_become 74 = .ok (.bipush 8, 2) := by decide +kernel
theorem dX2_become_76 : decode cX2_become 76 = .ok (.invokestatic 43, 3) := by decide +kernel
theorem dX2_become_79 : decode cX2_become 79 = .ok (.aload_n 1, 1) := by decide +kernel
theorem dX2_become_80 : decode cX2_become 80 = .ok (.getfield 23, 3) := by decide +kernel
theorem dX2_become_83 : decode cX2_become 83 = .ok (.iconst 0, 1) := by decide +kernel
theorem dX2_become_84 : decode cX2_become 84 = .ok (.aload_n 0, 1) := by decide +kernel
theorem dX2_become_85 : decode cX2_become 85 = .ok (.getfield 23, 3) := by decide +kernel
theorem dX2_become_88 : decode cX2_become 88 = .ok (.iconst 0, 1) := by decide +kernel
theorem dX2_become_89 : decode cX2_become 89 = .ok (.bipush 8, 2) := by decide +kernel
theorem dX2_become_91 : decode cX2_become 91 = .ok (.invokestatic 43, 3) := by decide +kernel
theorem dX2_become_94 : decode cX2_become 94 = .ok (.return_, 1) := by decide +kernel
theorem dX2_startAnew_0 : decode cX2_startAnew 0 = .ok (.aload_n 0, 1) := by decide +kernel
theorem dX2_startAnew_1 : decode cX2_startAnew 1 = .ok (.invokevirtual 49, 3) := by decide +kernel
theorem dX2_startAnew_4 : decode cX2_startAnew 4 = .ok (.iconst 0, 1) := by decide +kernel
theorem dX2_startAnew_5 : decode cX2_startAnew 5 = .ok (.istore_n 1, 1) := by decide +kernel
theorem dX2_startAnew_6 : decode cX2_startAnew 6 = .ok (.iload_n 1, 1) := by decide +kernel
theorem dX2_startAnew_7 : decode cX2_startAnew 7 = .ok (.bipush 8, 2) := by decide +kernel
theorem dX2_startAnew_9 : decode cX2_startAnew 9 = .ok (.if_icmp .ge 16, 3) := by decide +kernel
theorem dX2_startAnew_12 : decode cX2_startAnew 12 = .ok (.aload_n 0, 1) := by decide +kernel
theorem dX2_startAnew_13 : decode cX2_startAnew 13 = .ok (.getfield 23, 3) := by decide +kernel
theorem dX2_startAnew_16 : decode cX2_startAnew 16 = .ok (.iload_n 1, 1) := by decide +kernel
theorem dX2_startAnew_17 : decode cX2_startAnew 17 = .ok (.iconst 0, 1) := by decide +kernel
theorem dX2_startAnew_18 : decode cX2_startAnew 18 = .ok (.iastore, 1) := by decide +kernel
theorem dX2_startAnew_19 : decode cX2_startAnew 19 = .ok (.iinc 1 1, 3) := by decide +kernel
theorem dX2_startAnew_22 : decode cX2_startAnew 22 = .ok (.goto (-16), 3) := by decide +kernel
theorem dX2_startAnew_25 : decode cX2_startAnew 25 = .ok (.return_, 1) := by decide +kernel
theorem dX2_takeAllAway_0 : decode cX2_takeAllAway 0 = .ok (.iconst 0, 1) := by decide +kernel
theorem dX2_takeAllAway_1 : decode cX2_takeAllAway 1 = .ok (.istore_n 1, 1) := by decide +kernel
theorem dX2_takeAllAway_2 : decode cX2_takeAllAway 2 = .ok (.iload_n 1, 1) := by decide +kernel
theorem dX2_takeAllAway_3 : decode cX2_takeAllAway 3 = .ok (.bipush 8, 2) := by decide +kernel
theorem dX2_takeAllAway_5 : decode cX2_takeAllAway 5 = .ok (.if_icmp .ge 23, 3) := by decide +kernel
theorem dX2_takeAllAway_8 : decode cX2_takeAllAway 8 = .ok (.aload_n 0, 1) := by decide +kernel
theorem dX2_takeAllAway_9 : decode cX2_takeAllAway 9 = .ok (.getfield 16, 3) := by decide +kernel
theorem dX2_takeAllAway_12 : decode cX2_takeAllAway 12 = .ok (.iload_n 1, 1) := by decide +kernel
theorem dX2_takeAllAway_13 : decode cX2_takeAllAway 13 = .ok (.iconst (-1), 1) := by decide +kernel
theorem dX2_takeAllAway_14 : decode cX2_takeAllAway 14 = .ok (.iastore, 1) := by decide +kernel
theorem dX2_takeAllAway_15 : decode cX2_takeAllAway 15 = .ok (.aload_n 0, 1) := by decide +kernel
theorem dX2_takeAllAway_16 : decode cX2_takeAllAway 16 = .ok (.getfield 20, 3) := by decide +kernel
theorem dX2_takeAllAway_19 : decode cX2_takeAllAway 19 = .ok (.iload_n 1, 1) := by decide +kernel
theorem dX2_takeAllAway_20 : decode cX2_takeAllAway 20 = .ok (.iconst (-1), 1) := by decide +kernel
theorem dX2_takeAllAway_21 : decode cX2_takeAllAway 21 = .ok (.iastore, 1) := by decide +kernel
theorem dX2_takeAllAway_22 : decode cX2_takeAllAway 22 = .ok (.iinc 1 1, 3) := by decide +kernel
theorem dX2_takeAllAway_25 : decode cX2_takeAllAway 25 = .ok (.goto (-23), 3) := by decide +kernel
theorem dX2_takeAllAway_28 : decode cX2_takeAllAway 28 = .ok (.return_, 1) := by decide +kernel
theorem dX2_giveUp_0 : decode cX2_giveUp 0 = .ok (.aload_n 0, 1) := by decide +kernel
theorem dX2_giveUp_1 : decode cX2_giveUp 1 = .ok (.getfield 16, 3) := by decide +kernel
theorem dX2_giveUp_4 : decode cX2_giveUp 4 = .ok (.iload_n 1, 1) := by decide +kernel
theorem dX2_giveUp_5 : decode cX2_giveUp 5 = .ok (.iaload, 1) := by decide +kernel
theorem dX2_giveUp_6 : decode cX2_giveUp 6 = .ok (.istore_n 2, 1) := by decide +kernel
theorem dX2_giveUp_7 : decode cX2_giveUp 7 = .ok (.iload_n 2, 1) := by decide +kernel
theorem dX2_giveUp_8 : decode cX2_giveUp 8 = .ok (.ifCond .lt 10, 3) := by decide +kernel
theorem dX2_giveUp_11 : decode cX2_giveUp 11 = .ok (.aload_n 0, 1) := by decide +kernel
theorem dX2_giveUp_12 : decode cX2_giveUp 12 = .ok (.getfield 20, 3) := by decide +kernel
theorem dX2_giveUp_15 : decode cX2_giveUp 15 = .ok (.iload_n 2, 1) := by decide +kernel
theorem dX2_giveUp_16 : decode cX2_giveUp 16 = .ok (.iconst (-1), 1) := by decide +kernel
theorem dX2_giveUp_17 : decode cX2_giveUp 17 = .ok (.iastore, 1) := by decide +kernel
theorem dX2_giveUp_18 : decode cX2_giveUp 18 = .ok (.aload_n 0, 1) := by decide +kernel
theorem dX2_giveUp_19 : decode cX2_giveUp 19 = .ok (.getfield 16, 3) := by decide +kernel
theorem dX2_giveUp_22 : decode cX2_giveUp 22 = .ok (.iload_n 1, 1) := by decide +kernel
theorem dX2_giveUp_23 : decode cX2_giveUp 23 = .ok (.iconst (-1), 1) := by decide +kernel
theorem dX2_giveUp_24 : decode cX2_giveUp 24 = .ok (.iastore, 1) := by decide +kernel
theorem dX2_giveUp_25 : decode cX2_giveUp 25 = .ok (.return_, 1) := by decide +kernel
theorem dX2_becomeWorth_0 : decode cX2_becomeWorth 0 = .ok (.aload_n 0, 1) := by decide +kernel
theorem dX2_becomeWorth_1 : decode cX2_becomeWorth 1 = .ok (.getfield 11, 3) := by decide +kernel
theorem dX2_becomeWorth_4 : decode cX2_becomeWorth 4 = .ok (.iload_n 1, 1) := by decide +kernel
theorem dX2_becomeWorth_5 : decode cX2_becomeWorth 5 = .ok (.aaload, 1) := by decide +kernel
theorem dX2_becomeWorth_6 : decode cX2_becomeWorth 6 = .ok (.iload_n 2, 1) := by decide +kernel
theorem dX2_becomeWorth_7 : decode cX2_becomeWorth 7 = .ok (.iload_n 3, 1) := by decide +kernel
theorem dX2_becomeWorth_8 : decode cX2_becomeWorth 8 = .ok (.iastore, 1) := by decide +kernel
theorem dX2_becomeWorth_9 : decode cX2_becomeWorth 9 = .ok (.aload_n 0, 1) := by decide +kernel
theorem dX2_becomeWorth_10 : decode cX2_becomeWorth 10 = .ok (.iload_n 1, 1) := by decide +kernel
theorem dX2_becomeWorth_11 : decode cX2_becomeWorth 11 = .ok (.invokevirtual 52, 3) := by decide +kernel
theorem dX2_becomeWorth_14 : decode cX2_becomeWorth 14 = .ok (.return_, 1) := by decide +kernel
theorem dX2_has_0 : decode cX2_has 0 = .ok (.iload_n 1, 1) := by decide +kernel
theorem dX2_has_1 : decode cX2_has 1 = .ok (.ifCond .lt 15, 3) := by decide +kernel
theorem dX2_has_4 : decode cX2_has 4 = .ok (.iload_n 1, 1) := by decide +kernel
theorem dX2_has_5 : decode cX2_has 5 = .ok (.aload_n 0, 1) := by decide +kernel
theorem dX2_has_6 : decode cX2_has 6 = .ok (.getfield 26, 3) := by decide +kernel
theorem dX2_has_9 : decode cX2_has 9 = .ok (.if_icmp .ge 7, 3) := by decide +kernel
theorem dX2_has_12 : decode cX2_has 12 = .ok (.iconst 1, 1) := by decide +kernel
theorem dX2_has_13 : decode cX2_has 13 = .ok (.goto 4, 3) := by decide +kernel
theorem dX2_has_16 : decode cX2_has 16 = .ok (.iconst 0, 1) := by decide +kernel
theorem dX2_has_17 : decode cX2_has 17 = .ok (.ireturn, 1) := by decide +kernel
theorem dX2_allows_0 : decode cX2_allows 0 = .ok (.aload_n 0, 1) := by decide +kernel
theorem dX2_allows_1 : decode cX2_allows 1 = .ok (.getfield 11, 3) := by decide +kernel
theorem dX2_allows_4 : decode cX2_allows 4 = .ok (.iload_n 1, 1) := by decide +kernel
theorem dX2_allows_5 : decode cX2_allows 5 = .ok (.aaload, 1) := by decide +kernel
theorem dX2_allows_6 : decode cX2_allows 6 = .ok (.iload_n 2, 1) := by decide +kernel
theorem dX2_allows_7 : decode cX2_allows 7 = .ok (.iaload, 1) := by decide +kernel
theorem dX2_allows_8 : decode cX2_allows 8 = .ok (.iconst (-1), 1) := by decide +kernel
theorem dX2_allows_9 : decode cX2_allows 9 = .ok (.if_icmp .eq 7, 3) := by decide +kernel
theorem dX2_allows_12 : decode cX2_allows 12 = .ok (.iconst 1, 1) := by decide +kernel
theorem dX2_allows_13 : decode cX2_allows 13 = .ok (.goto 4, 3) := by decide +kernel
theorem dX2_allows_16 : decode cX2_allows 16 = .ok (.iconst 0, 1) := by decide +kernel
theorem dX2_allows_17 : decode cX2_allows 17 = .ok (.ireturn, 1) := by decide +kernel
theorem dX2_gainOf_0 : decode cX2_gainOf 0 = .ok (.aload_n 0, 1) := by decide +kernel
theorem dX2_gainOf_1 : decode cX2_gainOf 1 = .ok (.getfield 26, 3) := by decide +kernel
theorem dX2_gainOf_4 : decode cX2_gainOf 4 = .ok (.iconst 1, 1) := by decide +kernel
theorem dX2_gainOf_5 : decode cX2_gainOf 5 = .ok (.iadd, 1) := by decide +kernel
theorem dX2_gainOf_6 : decode cX2_gainOf 6 = .ok (.aload_n 0, 1) := by decide +kernel
theorem dX2_gainOf_7 : decode cX2_gainOf 7 = .ok (.getfield 11, 3) := by decide +kernel
theorem dX2_gainOf_10 : decode cX2_gainOf 10 = .ok (.iload_n 1, 1) := by decide +kernel
theorem dX2_gainOf_11 : decode cX2_gainOf 11 = .ok (.aaload, 1) := by decide +kernel
theorem dX2_gainOf_12 : decode cX2_gainOf 12 = .ok (.iload_n 2, 1) := by decide +kernel
theorem dX2_gainOf_13 : decode cX2_gainOf 13 = .ok (.iaload, 1) := by decide +kernel
theorem dX2_gainOf_14 : decode cX2_gainOf 14 = .ok (.imul, 1) := by decide +kernel
theorem dX2_gainOf_15 : decode cX2_gainOf 15 = .ok (.aload_n 0, 1) := by decide +kernel
theorem dX2_gainOf_16 : decode cX2_gainOf 16 = .ok (.getfield 23, 3) := by decide +kernel
theorem dX2_gainOf_19 : decode cX2_gainOf 19 = .ok (.iload_n 2, 1) := by decide +kernel
theorem dX2_gainOf_20 : decode cX2_gainOf 20 = .ok (.iaload, 1) := by decide +kernel
theorem dX2_gainOf_21 : decode cX2_gainOf 21 = .ok (.isub, 1) := by decide +kernel
theorem dX2_gainOf_22 : decode cX2_gainOf 22 = .ok (.ireturn, 1) := by decide +kernel
theorem dX2_bestOf_0 : decode cX2_bestOf 0 = .ok (.aload_n 0, 1) := by decide +kernel
theorem dX2_bestOf_1 : decode cX2_bestOf 1 = .ok (.iload_n 1, 1) := by decide +kernel
theorem dX2_bestOf_2 : decode cX2_bestOf 2 = .ok (.iconst (-1), 1) := by decide +kernel
theorem dX2_bestOf_3 : decode cX2_bestOf 3 = .ok (.invokevirtual 55, 3) := by decide +kernel
theorem dX2_bestOf_6 : decode cX2_bestOf 6 = .ok (.ireturn, 1) := by decide +kernel
theorem dX2_bestBut_0 : decode cX2_bestBut 0 = .ok (.iconst (-1), 1) := by decide +kernel
theorem dX2_bestBut_1 : decode cX2_bestBut 1 = .ok (.istore_n 3, 1) := by decide +kernel
theorem dX2_bestBut_2 : decode cX2_bestBut 2 = .ok (.iconst 0, 1) := by decide +kernel
theorem dX2_bestBut_3 : decode cX2_bestBut 3 = .ok (.istore 4, 2) := by decide +kernel
theorem dX2_bestBut_5 : decode cX2_bestBut 5 = .ok (.iconst 0, 1) := by decide +kernel
theorem dX2_bestBut_6 : decode cX2_bestBut 6 = .ok (.istore 5, 2) := by decide +kernel
theorem dX2_bestBut_8 : decode cX2_bestBut 8 = .ok (.iload 5, 2) := by decide +kernel
theorem dX2_bestBut_10 : decode cX2_bestBut 10 = .ok (.aload_n 0, 1) := by decide +kernel
theorem dX2_bestBut_11 : decode cX2_bestBut 11 = .ok (.getfield 26, 3) := by decide +kernel
theorem dX2_bestBut_14 : decode cX2_bestBut 14 = .ok (.if_icmp .ge 52, 3) := by decide +kernel
theorem dX2_bestBut_17 : decode cX2_bestBut 17 = .ok (.iload 5, 2) := by decide +kernel
theorem dX2_bestBut_19 : decode cX2_bestBut 19 = .ok (.iload_n 2, 1) := by decide +kernel
theorem dX2_bestBut_20 : decode cX2_bestBut 20 = .ok (.if_icmp .eq 40, 3) := by decide +kernel
theorem dX2_bestBut_23 : decode cX2_bestBut 23 = .ok (.aload_n 0, 1) := by decide +kernel
theorem dX2_bestBut_24 : decode cX2_bestBut 24 = .ok (.iload_n 1, 1) := by decide +kernel
theorem dX2_bestBut_25 : decode cX2_bestBut 25 = .ok (.iload 5, 2) := by decide +kernel
theorem dX2_bestBut_27 : decode cX2_bestBut 27 = .ok (.invokevirtual 59, 3) := by decide +kernel
theorem dX2_bestBut_30 : decode cX2_bestBut 30 = .ok (.ifCond .eq 30, 3) := by decide +kernel
theorem dX2_bestBut_33 : decode cX2_bestBut 33 = .ok (.aload_n 0, 1) := by decide +kernel
theorem dX2_bestBut_34 : decode cX2_bestBut 34 = .ok (.iload_n 1, 1) := by decide +kernel
theorem dX2_bestBut_35 : decode cX2_bestBut 35 = .ok (.iload 5, 2) := by decide +kernel
theorem dX2_bestBut_37 : decode cX2_bestBut 37 = .ok (.invokevirtual 63, 3) := by decide +kernel
theorem dX2_bestBut_40 : decode cX2_bestBut 40 = .ok (.istore 6, 2) := by decide +kernel
theorem dX2_bestBut_42 : decode cX2_bestBut 42 = .ok (.iload_n 3, 1) := by decide +kernel
theorem dX2_bestBut_43 : decode cX2_bestBut 43 = .ok (.ifCond .lt 10, 3) := by decide +kernel
theorem dX2_bestBut_46 : decode cX2_bestBut 46 = .ok (.iload 6, 2) := by decide +kernel
theorem dX2_bestBut_48 : decode cX2_bestBut 48 = .ok (.iload 4, 2) := by decide +kernel
theorem dX2_bestBut_50 : decode cX2_bestBut 50 = .ok (.if_icmp .le 10, 3) := by decide +kernel
theorem dX2_bestBut_53 : decode cX2_bestBut 53 = .ok (.iload 5, 2) := by decide +kernel
theorem dX2_bestBut_55 : decode cX2_bestBut 55 = .ok (.istore_n 3, 1) := by decide +kernel
theorem dX2_bestBut_56 : decode cX2_bestBut 56 = .ok (.iload 6, 2) := by decide +kernel
theorem dX2_bestBut_58 : decode cX2_bestBut 58 = .ok (.istore 4, 2) := by decide +kernel
theorem dX2_bestBut_60 : decode cX2_bestBut 60 = .ok (.iinc 5 1, 3) := by decide +kernel
theorem dX2_bestBut_63 : decode cX2_bestBut 63 = .ok (.goto (-55), 3) := by decide +kernel
theorem dX2_bestBut_66 : decode cX2_bestBut 66 = .ok (.iload_n 3, 1) := by decide +kernel
theorem dX2_bestBut_67 : decode cX2_bestBut 67 = .ok (.ireturn, 1) := by decide +kernel
theorem dX2_offerFor_0 : decode cX2_offerFor 0 = .ok (.aload_n 0, 1) := by decide +kernel
theorem dX2_offerFor_1 : decode cX2_offerFor 1 = .ok (.iload_n 1, 1) := by decide +kernel
theorem dX2_offerFor_2 : decode cX2_offerFor 2 = .ok (.iload_n 2, 1) := by decide +kernel
theorem dX2_offerFor_3 : decode cX2_offerFor 3 = .ok (.invokevirtual 55, 3) := by decide +kernel
theorem dX2_offerFor_6 : decode cX2_offerFor 6 = .ok (.istore_n 3, 1) := by decide +kernel
theorem dX2_offerFor_7 : decode cX2_offerFor 7 = .ok (.iload_n 3, 1) := by decide +kernel
theorem dX2_offerFor_8 : decode cX2_offerFor 8 = .ok (.ifCond .ge 8, 3) := by decide +kernel
theorem dX2_offerFor_11 : decode cX2_offerFor 11 = .ok (.bipush 100, 2) := by decide +kernel
theorem dX2_offerFor_13 : decode cX2_offerFor 13 = .ok (.goto 16, 3) := by decide +kernel
theorem dX2_offerFor_16 : decode cX2_offerFor 16 = .ok (.aload_n 0, 1) := by decide +kernel
theorem dX2_offerFor_17 : decode cX2_offerFor 17 = .ok (.iload_n 1, 1) := by decide +kernel
theorem dX2_offerFor_18 : decode cX2_offerFor 18 = .ok (.iload_n 2, 1) := by decide +kernel
theorem dX2_offerFor_19 : decode cX2_offerFor 19 = .ok (.invokevirtual 63, 3) := by decide +kernel
theorem dX2_offerFor_22 : decode cX2_offerFor 22 = .ok (.aload_n 0, 1) := by decide +kernel
theorem dX2_offerFor_23 : decode cX2_offerFor 23 = .ok (.iload_n 1, 1) := by decide +kernel
theorem dX2_offerFor_24 : decode cX2_offerFor 24 = .ok (.iload_n 3, 1) := by decide +kernel
theorem dX2_offerFor_25 : decode cX2_offerFor 25 = .ok (.invokevirtual 63, 3) := by decide +kernel
theorem dX2_offerFor_28 : decode cX2_offerFor 28 = .ok (.isub, 1) := by decide +kernel
theorem dX2_offerFor_29 : decode cX2_offerFor 29 = .ok (.istore 4, 2) := by decide +kernel
theorem dX2_offerFor_31 : decode cX2_offerFor 31 = .ok (.aload_n 0, 1) := by decide +kernel
theorem dX2_offerFor_32 : decode cX2_offerFor 32 = .ok (.getfield 23, 3) := by decide +kernel
theorem dX2_offerFor_35 : decode cX2_offerFor 35 = .ok (.iload_n 2, 1) := by decide +kernel
theorem dX2_offerFor_36 : decode cX2_offerFor 36 = .ok (.iaload, 1) := by decide +kernel
theorem dX2_offerFor_37 : decode cX2_offerFor 37 = .ok (.iload 4, 2) := by decide +kernel
theorem dX2_offerFor_39 : decode cX2_offerFor 39 = .ok (.iadd, 1) := by decide +kernel
theorem dX2_offerFor_40 : decode cX2_offerFor 40 = .ok (.aload_n 0, 1) := by decide +kernel
theorem dX2_offerFor_41 : decode cX2_offerFor 41 = .ok (.getfield 30, 3) := by decide +kernel
theorem dX2_offerFor_44 : decode cX2_offerFor 44 = .ok (.iadd, 1) := by decide +kernel
theorem dX2_offerFor_45 : decode cX2_offerFor 45 = .ok (.ireturn, 1) := by decide +kernel
theorem dX2_nextBidder_0 : decode cX2_nextBidder 0 = .ok (.iconst 0, 1) := by decide +kernel
theorem dX2_nextBidder_1 : decode cX2_nextBidder 1 = .ok (.istore_n 1, 1) := by decide +kernel
theorem dX2_nextBidder_2 : decode cX2_nextBidder 2 = .ok (.iload_n 1, 1) := by decide +kernel
theorem dX2_nextBidder_3 : decode cX2_nextBidder 3 = .ok (.aload_n 0, 1) := by decide +kernel
theorem dX2_nextBidder_4 : decode cX2_nextBidder 4 = .ok (.getfield 26, 3) := by decide +kernel
theorem dX2_nextBidder_7 : decode cX2_nextBidder 7 = .ok (.if_icmp .ge 28, 3) := by decide +kernel
theorem dX2_nextBidder_10 : decode cX2_nextBidder 10 = .ok (.aload_n 0, 1) := by decide +kernel
theorem dX2_nextBidder_11 : decode cX2_nextBidder 11 = .ok (.getfield 16, 3) := by decide +kernel
theorem dX2_nextBidder_14 : decode cX2_nextBidder 14 = .ok (.iload_n 1, 1) := by decide +kernel
theorem dX2_nextBidder_15 : decode cX2_nextBidder 15 = .ok (.iaload, 1) := by decide +kernel
theorem dX2_nextBidder_16 : decode cX2_nextBidder 16 = .ok (.ifCond .ge 13, 3) := by decide +kernel
theorem dX2_nextBidder_19 : decode cX2_nextBidder 19 = .ok (.aload_n 0, 1) := by decide +kernel
theorem dX2_nextBidder_20 : decode cX2_nextBidder 20 = .ok (.iload_n 1, 1) := by decide +kernel
theorem dX2_nextBidder_21 : decode cX2_nextBidder 21 = .ok (.invokevirtual 66, 3) := by decide +kernel
theorem dX2_nextBidder_24 : decode cX2_nextBidder 24 = .ok (.ifCond .eq 5, 3) := by decide +kernel
theorem dX2_nextBidder_27 : decode cX2_nextBidder 27 = .ok (.iload_n 1, 1) := by decide +kernel
theorem dX2_nextBidder_28 : decode cX2_nextBidder 28 = .ok (.ireturn, 1) := by decide +kernel
theorem dX2_nextBidder_29 : decode cX2_nextBidder 29 = .ok (.iinc 1 1, 3) := by decide +kernel
theorem dX2_nextBidder_32 : decode cX2_nextBidder 32 = .ok (.goto (-30), 3) := by decide +kernel
theorem dX2_nextBidder_35 : decode cX2_nextBidder 35 = .ok (.iconst (-1), 1) := by decide +kernel
theorem dX2_nextBidder_36 : decode cX2_nextBidder 36 = .ok (.ireturn, 1) := by decide +kernel
theorem dX2_nextOffer_0 : decode cX2_nextOffer 0 = .ok (.aload_n 0, 1) := by decide +kernel
theorem dX2_nextOffer_1 : decode cX2_nextOffer 1 = .ok (.invokevirtual 70, 3) := by decide +kernel
theorem dX2_nextOffer_4 : decode cX2_nextOffer 4 = .ok (.istore_n 1, 1) := by decide +kernel
theorem dX2_nextOffer_5 : decode cX2_nextOffer 5 = .ok (.iload_n 1, 1) := by decide +kernel
theorem dX2_nextOffer_6 : decode cX2_nextOffer 6 = .ok (.ifCond .ge 6, 3) := by decide +kernel
theorem dX2_nextOffer_9 : decode cX2_nextOffer 9 = .ok (.bipush (-5), 2) := by decide +kernel
theorem dX2_nextOffer_11 : decode cX2_nextOffer 11 = .ok (.ireturn, 1) := by decide +kernel
theorem dX2_nextOffer_12 : decode cX2_nextOffer 12 = .ok (.aload_n 0, 1) := by decide +kernel
theorem dX2_nextOffer_13 : decode cX2_nextOffer 13 = .ok (.iload_n 1, 1) := by decide +kernel
theorem dX2_nextOffer_14 : decode cX2_nextOffer 14 = .ok (.invokevirtual 74, 3) := by decide +kernel
theorem dX2_nextOffer_17 : decode cX2_nextOffer 17 = .ok (.istore_n 2, 1) := by decide +kernel
theorem dX2_nextOffer_18 : decode cX2_nextOffer 18 = .ok (.iload_n 2, 1) := by decide +kernel
theorem dX2_nextOffer_19 : decode cX2_nextOffer 19 = .ok (.ifCond .ge 8, 3) := by decide +kernel
theorem dX2_nextOffer_22 : decode cX2_nextOffer 22 = .ok (.bipush (-5), 2) := by decide +kernel
theorem dX2_nextOffer_24 : decode cX2_nextOffer 24 = .ok (.goto 9, 3) := by decide +kernel
theorem dX2_nextOffer_27 : decode cX2_nextOffer 27 = .ok (.aload_n 0, 1) := by decide +kernel
theorem dX2_nextOffer_28 : decode cX2_nextOffer 28 = .ok (.iload_n 1, 1) := by decide +kernel
theorem dX2_nextOffer_29 : decode cX2_nextOffer 29 = .ok (.iload_n 2, 1) := by decide +kernel
theorem dX2_nextOffer_30 : decode cX2_nextOffer 30 = .ok (.invokevirtual 78, 3) := by decide +kernel
theorem dX2_nextOffer_33 : decode cX2_nextOffer 33 = .ok (.ireturn, 1) := by decide +kernel
theorem dX2_letNextBid_0 : decode cX2_letNextBid 0 = .ok (.aload_n 0, 1) := by decide +kernel
theorem dX2_letNextBid_1 : decode cX2_letNextBid 1 = .ok (.invokevirtual 70, 3) := by decide +kernel
theorem dX2_letNextBid_4 : decode cX2_letNextBid 4 = .ok (.istore_n 1, 1) := by decide +kernel
theorem dX2_letNextBid_5 : decode cX2_letNextBid 5 = .ok (.iload_n 1, 1) := by decide +kernel
theorem dX2_letNextBid_6 : decode cX2_letNextBid 6 = .ok (.ifCond .ge 5, 3) := by decide +kernel
theorem dX2_letNextBid_9 : decode cX2_letNextBid 9 = .ok (.iconst (-1), 1) := by decide +kernel
theorem dX2_letNextBid_10 : decode cX2_letNextBid 10 = .ok (.ireturn, 1) := by decide +kernel
theorem dX2_letNextBid_11 : decode cX2_letNextBid 11 = .ok (.aload_n 0, 1) := by decide +kernel
theorem dX2_letNextBid_12 : decode cX2_letNextBid 12 = .ok (.iload_n 1, 1) := by decide +kernel
theorem dX2_letNextBid_13 : decode cX2_letNextBid 13 = .ok (.invokevirtual 74, 3) := by decide +kernel
theorem dX2_letNextBid_16 : decode cX2_letNextBid 16 = .ok (.istore_n 2, 1) := by decide +kernel
theorem dX2_letNextBid_17 : decode cX2_letNextBid 17 = .ok (.iload_n 2, 1) := by decide +kernel
theorem dX2_letNextBid_18 : decode cX2_letNextBid 18 = .ok (.ifCond .ge 5, 3) := by decide +kernel
theorem dX2_letNextBid_21 : decode cX2_letNextBid 21 = .ok (.iconst (-1), 1) := by decide +kernel
theorem dX2_letNextBid_22 : decode cX2_letNextBid 22 = .ok (.ireturn, 1) := by decide +kernel
theorem dX2_letNextBid_23 : decode cX2_letNextBid 23 = .ok (.aload_n 0, 1) := by decide +kernel
theorem dX2_letNextBid_24 : decode cX2_letNextBid 24 = .ok (.getfield 23, 3) := by decide +kernel
theorem dX2_letNextBid_27 : decode cX2_letNextBid 27 = .ok (.iload_n 2, 1) := by decide +kernel
theorem dX2_letNextBid_28 : decode cX2_letNextBid 28 = .ok (.aload_n 0, 1) := by decide +kernel
theorem dX2_letNextBid_29 : decode cX2_letNextBid 29 = .ok (.iload_n 1, 1) := by decide +kernel
theorem dX2_letNextBid_30 : decode cX2_letNextBid 30 = .ok (.iload_n 2, 1) := by decide +kernel
theorem dX2_letNextBid_31 : decode cX2_letNextBid 31 = .ok (.invokevirtual 78, 3) := by decide +kernel
theorem dX2_letNextBid_34 : decode cX2_letNextBid 34 = .ok (.iastore, 1) := by decide +kernel
theorem dX2_letNextBid_35 : decode cX2_letNextBid 35 = .ok (.aload_n 0, 1) := by decide +kernel
theorem dX2_letNextBid_36 : decode cX2_letNextBid 36 = .ok (.getfield 20, 3) := by decide +kernel
theorem dX2_letNextBid_39 : decode cX2_letNextBid 39 = .ok (.iload_n 2, 1) := by decide +kernel
theorem dX2_letNextBid_40 : decode cX2_letNextBid 40 = .ok (.iaload, 1) := by decide +kernel
theorem dX2_letNextBid_41 : decode cX2_letNextBid 41 = .ok (.istore_n 3, 1) := by decide +kernel
theorem dX2_letNextBid_42 : decode cX2_letNextBid 42 = .ok (.iload_n 3, 1) := by decide +kernel
theorem dX2_letNextBid_43 : decode cX2_letNextBid 43 = .ok (.ifCond .lt 10, 3) := by decide +kernel
theorem dX2_letNextBid_46 : decode cX2_letNextBid 46 = .ok (.aload_n 0, 1) := by decide +kernel
theorem dX2_letNextBid_47 : decode cX2_letNextBid 47 = .ok (.getfield 16, 3) := by decide +kernel
theorem dX2_letNextBid_50 : decode cX2_letNextBid 50 = .ok (.iload_n 3, 1) := by decide +kernel
theorem dX2_letNextBid_51 : decode cX2_letNextBid 51 = .ok (.iconst (-1), 1) := by decide +kernel
theorem dX2_letNextBid_52 : decode cX2_letNextBid 52 = .ok (.iastore, 1) := by decide +kernel
theorem dX2_letNextBid_53 : decode cX2_letNextBid 53 = .ok (.aload_n 0, 1) := by decide +kernel
theorem dX2_letNextBid_54 : decode cX2_letNextBid 54 = .ok (.getfield 20, 3) := by decide +kernel
theorem dX2_letNextBid_57 : decode cX2_letNextBid 57 = .ok (.iload_n 2, 1) := by decide +kernel
theorem dX2_letNextBid_58 : decode cX2_letNextBid 58 = .ok (.iload_n 1, 1) := by decide +kernel
theorem dX2_letNextBid_59 : decode cX2_letNextBid 59 = .ok (.iastore, 1) := by decide +kernel
theorem dX2_letNextBid_60 : decode cX2_letNextBid 60 = .ok (.aload_n 0, 1) := by decide +kernel
theorem dX2_letNextBid_61 : decode cX2_letNextBid 61 = .ok (.getfield 16, 3) := by decide +kernel
theorem dX2_letNextBid_64 : decode cX2_letNextBid 64 = .ok (.iload_n 1, 1) := by decide +kernel
theorem dX2_letNextBid_65 : decode cX2_letNextBid 65 = .ok (.iload_n 2, 1) := by decide +kernel
theorem dX2_letNextBid_66 : decode cX2_letNextBid 66 = .ok (.iastore, 1) := by decide +kernel
theorem dX2_letNextBid_67 : decode cX2_letNextBid 67 = .ok (.iload_n 2, 1) := by decide +kernel
theorem dX2_letNextBid_68 : decode cX2_letNextBid 68 = .ok (.ireturn, 1) := by decide +kernel
theorem dX2_runAuction_0 : decode cX2_runAuction 0 = .ok (.aload_n 0, 1) := by decide +kernel
theorem dX2_runAuction_1 : decode cX2_runAuction 1 = .ok (.iconst (-1), 1) := by decide +kernel
theorem dX2_runAuction_2 : decode cX2_runAuction 2 = .ok (.putfield 33, 3) := by decide +kernel
theorem dX2_runAuction_5 : decode cX2_runAuction 5 = .ok (.iconst 0, 1) := by decide +kernel
theorem dX2_runAuction_6 : decode cX2_runAuction 6 = .ok (.istore_n 1, 1) := by decide +kernel
theorem dX2_runAuction_7 : decode cX2_runAuction 7 = .ok (.aload_n 0, 1) := by decide +kernel
theorem dX2_runAuction_8 : decode cX2_runAuction 8 = .ok (.invokevirtual 81, 3) := by decide +kernel
theorem dX2_runAuction_11 : decode cX2_runAuction 11 = .ok (.istore_n 2, 1) := by decide +kernel
theorem dX2_runAuction_12 : decode cX2_runAuction 12 = .ok (.iload_n 2, 1) := by decide +kernel
theorem dX2_runAuction_13 : decode cX2_runAuction 13 = .ok (.ifCond .lt 44, 3) := by decide +kernel
theorem dX2_runAuction_16 : decode cX2_runAuction 16 = .ok (.iload_n 1, 1) := by decide +kernel
theorem dX2_runAuction_17 : decode cX2_runAuction 17 = .ok (.ldc 84, 2) := by decide +kernel
theorem dX2_runAuction_19 : decode cX2_runAuction 19 = .ok (.if_icmp .ge 38, 3) := by decide +kernel
theorem dX2_runAuction_22 : decode cX2_runAuction 22 = .ok (.iinc 1 1, 3) := by decide +kernel
theorem dX2_runAuction_25 : decode cX2_runAuction 25 = .ok (.aload_n 0, 1) := by decide +kernel
theorem dX2_runAuction_26 : decode cX2_runAuction 26 = .ok (.getfield 23, 3) := by decide +kernel
theorem dX2_runAuction_29 : decode cX2_runAuction 29 = .ok (.iload_n 2, 1) := by decide +kernel
theorem dX2_runAuction_30 : decode cX2_runAuction 30 = .ok (.iaload, 1) := by decide +kernel
theorem dX2_runAuction_31 : decode cX2_runAuction 31 = .ok (.sipush 2000, 3) := by decide +kernel
theorem dX2_runAuction_34 : decode cX2_runAuction 34 = .ok (.if_icmp .le 15, 3) := by decide +kernel
theorem dX2_runAuction_37 : decode cX2_runAuction 37 = .ok (.aload_n 0, 1) := by decide +kernel
theorem dX2_runAuction_38 : decode cX2_runAuction 38 = .ok (.aload_n 0, 1) := by decide +kernel
theorem dX2_runAuction_39 : decode cX2_runAuction 39 = .ok (.getfield 20, 3) := by decide +kernel
theorem dX2_runAuction_42 : decode cX2_runAuction 42 = .ok (.iload_n 2, 1) := by decide +kernel
theorem dX2_runAuction_43 : decode cX2_runAuction 43 = .ok (.iaload, 1) := by decide +kernel
theorem dX2_runAuction_44 : decode cX2_runAuction 44 = .ok (.putfield 33, 3) := by decide +kernel
theorem dX2_runAuction_47 : decode cX2_runAuction 47 = .ok (.iload_n 1, 1) := by decide +kernel
theorem dX2_runAuction_48 : decode cX2_runAuction 48 = .ok (.ireturn, 1) := by decide +kernel
theorem dX2_runAuction_49 : decode cX2_runAuction 49 = .ok (.aload_n 0, 1) := by decide +kernel
theorem dX2_runAuction_50 : decode cX2_runAuction 50 = .ok (.invokevirtual 81, 3) := by decide +kernel
theorem dX2_runAuction_53 : decode cX2_runAuction 53 = .ok (.istore_n 2, 1) := by decide +kernel
theorem dX2_runAuction_54 : decode cX2_runAuction 54 = .ok (.goto (-42), 3) := by decide +kernel
theorem dX2_runAuction_57 : decode cX2_runAuction 57 = .ok (.iload_n 1, 1) := by decide +kernel
theorem dX2_runAuction_58 : decode cX2_runAuction 58 = .ok (.ireturn, 1) := by decide +kernel
theorem dX2_runScaled_0 : decode cX2_runScaled 0 = .ok (.aload_n 0, 1) := by decide +kernel
theorem dX2_runScaled_1 : decode cX2_runScaled 1 = .ok (.getfield 30, 3) := by decide +kernel
theorem dX2_runScaled_4 : decode cX2_runScaled 4 = .ok (.istore_n 1, 1) := by decide +kernel
theorem dX2_runScaled_5 : decode cX2_runScaled 5 = .ok (.iconst 0, 1) := by decide +kernel
theorem dX2_runScaled_6 : decode cX2_runScaled 6 = .ok (.istore_n 2, 1) := by decide +kernel
theorem dX2_runScaled_7 : decode cX2_runScaled 7 = .ok (.aload_n 0, 1) := by decide +kernel
theorem dX2_runScaled_8 : decode cX2_runScaled 8 = .ok (.iconst (-1), 1) := by decide +kernel
theorem dX2_runScaled_9 : decode cX2_runScaled 9 = .ok (.putfield 33, 3) := by decide +kernel
theorem dX2_runScaled_12 : decode cX2_runScaled 12 = .ok (.iconst 0, 1) := by decide +kernel
theorem dX2_runScaled_13 : decode cX2_runScaled 13 = .ok (.istore_n 3, 1) := by decide +kernel
theorem dX2_runScaled_14 : decode cX2_runScaled 14 = .ok (.iload_n 3, 1) := by decide +kernel
theorem dX2_runScaled_15 : decode cX2_runScaled 15 = .ok (.getstatic 85, 3) := by decide +kernel
theorem dX2_runScaled_18 : decode cX2_runScaled 18 = .ok (.arraylength, 1) := by decide +kernel
theorem dX2_runScaled_19 : decode cX2_runScaled 19 = .ok (.if_icmp .ge 36, 3) := by decide +kernel
theorem dX2_runScaled_22 : decode cX2_runScaled 22 = .ok (.aload_n 0, 1) := by decide +kernel
theorem dX2_runScaled_23 : decode cX2_runScaled 23 = .ok (.getfield 33, 3) := by decide +kernel
theorem dX2_runScaled_26 : decode cX2_runScaled 26 = .ok (.ifCond .ge 29, 3) := by decide +kernel
theorem dX2_runScaled_29 : decode cX2_runScaled 29 = .ok (.aload_n 0, 1) := by decide +kernel
theorem dX2_runScaled_30 : decode cX2_runScaled 30 = .ok (.invokevirtual 49, 3) := by decide +kernel
theorem dX2_runScaled_33 : decode cX2_runScaled 33 = .ok (.aload_n 0, 1) := by decide +kernel
theorem dX2_runScaled_34 : decode cX2_runScaled 34 = .ok (.getstatic 85, 3) := by decide +kernel
theorem dX2_runScaled_37 : decode cX2_runScaled 37 = .ok (.iload_n 3, 1) := by decide +kernel
theorem dX2_runScaled_38 : decode cX2_runScaled 38 = .ok (.iaload, 1) := by decide +kernel
theorem dX2_runScaled_39 : decode cX2_runScaled 39 = .ok (.putfield 30, 3) := by decide +kernel
theorem dX2_runScaled_42 : decode cX2_runScaled 42 = .ok (.iload_n 2, 1) := by decide +kernel
theorem dX2_runScaled_43 : decode cX2_runScaled 43 = .ok (.aload_n 0, 1) := by decide +kernel
theorem dX2_runScaled_44 : decode cX2_runScaled 44 = .ok (.invokevirtual 88, 3) := by decide +kernel
theorem dX2_runScaled_47 : decode cX2_runScaled 47 = .ok (.iadd, 1) := by decide +kernel
theorem dX2_runScaled_48 : decode cX2_runScaled 48 = .ok (.istore_n 2, 1) := by decide +kernel
theorem dX2_runScaled_49 : decode cX2_runScaled 49 = .ok (.iinc 3 1, 3) := by decide +kernel
theorem dX2_runScaled_52 : decode cX2_runScaled 52 = .ok (.goto (-38), 3) := by decide +kernel
theorem dX2_runScaled_55 : decode cX2_runScaled 55 = .ok (.aload_n 0, 1) := by decide +kernel
theorem dX2_runScaled_56 : decode cX2_runScaled 56 = .ok (.iload_n 1, 1) := by decide +kernel
theorem dX2_runScaled_57 : decode cX2_runScaled 57 = .ok (.putfield 30, 3) := by decide +kernel
theorem dX2_runScaled_60 : decode cX2_runScaled 60 = .ok (.iload_n 2, 1) := by decide +kernel
theorem dX2_runScaled_61 : decode cX2_runScaled 61 = .ok (.ireturn, 1) := by decide +kernel
theorem dX2_hasBest_0 : decode cX2_hasBest 0 = .ok (.iconst 0, 1) := by decide +kernel
theorem dX2_hasBest_1 : decode cX2_hasBest 1 = .ok (.istore_n 2, 1) := by decide +kernel
theorem dX2_hasBest_2 : decode cX2_hasBest 2 = .ok (.iload_n 2, 1) := by decide +kernel
theorem dX2_hasBest_3 : decode cX2_hasBest 3 = .ok (.aload_n 0, 1) := by decide +kernel
theorem dX2_hasBest_4 : decode cX2_hasBest 4 = .ok (.getfield 26, 3) := by decide +kernel
theorem dX2_hasBest_7 : decode cX2_hasBest 7 = .ok (.if_icmp .ge 20, 3) := by decide +kernel
theorem dX2_hasBest_10 : decode cX2_hasBest 10 = .ok (.aload_n 0, 1) := by decide +kernel
theorem dX2_hasBest_11 : decode cX2_hasBest 11 = .ok (.iload_n 1, 1) := by decide +kernel
theorem dX2_hasBest_12 : decode cX2_hasBest 12 = .ok (.iload_n 2, 1) := by decide +kernel
theorem dX2_hasBest_13 : decode cX2_hasBest 13 = .ok (.invokevirtual 59, 3) := by decide +kernel
theorem dX2_hasBest_16 : decode cX2_hasBest 16 = .ok (.ifCond .eq 5, 3) := by decide +kernel
theorem dX2_hasBest_19 : decode cX2_hasBest 19 = .ok (.iconst 1, 1) := by decide +kernel
theorem dX2_hasBest_20 : decode cX2_hasBest 20 = .ok (.ireturn, 1) := by decide +kernel
theorem dX2_hasBest_21 : decode cX2_hasBest 21 = .ok (.iinc 2 1, 3) := by decide +kernel
theorem dX2_hasBest_24 : decode cX2_hasBest 24 = .ok (.goto (-22), 3) := by decide +kernel
theorem dX2_hasBest_27 : decode cX2_hasBest 27 = .ok (.iconst 0, 1) := by decide +kernel
theorem dX2_hasBest_28 : decode cX2_hasBest 28 = .ok (.ireturn, 1) := by decide +kernel
theorem dX2_allowedTo_0 : decode cX2_allowedTo 0 = .ok (.iconst 0, 1) := by decide +kernel
theorem dX2_allowedTo_1 : decode cX2_allowedTo 1 = .ok (.istore_n 2, 1) := by decide +kernel
theorem dX2_allowedTo_2 : decode cX2_allowedTo 2 = .ok (.iconst 0, 1) := by decide +kernel
theorem dX2_allowedTo_3 : decode cX2_allowedTo 3 = .ok (.istore_n 3, 1) := by decide +kernel
theorem dX2_allowedTo_4 : decode cX2_allowedTo 4 = .ok (.iload_n 3, 1) := by decide +kernel
theorem dX2_allowedTo_5 : decode cX2_allowedTo 5 = .ok (.aload_n 0, 1) := by decide +kernel
theorem dX2_allowedTo_6 : decode cX2_allowedTo 6 = .ok (.getfield 26, 3) := by decide +kernel
theorem dX2_allowedTo_9 : decode cX2_allowedTo 9 = .ok (.if_icmp .ge 24, 3) := by decide +kernel
theorem dX2_allowedTo_12 : decode cX2_allowedTo 12 = .ok (.aload_n 0, 1) := by decide +kernel
theorem dX2_allowedTo_13 : decode cX2_allowedTo 13 = .ok (.iload_n 1, 1) := by decide +kernel
theorem dX2_allowedTo_14 : decode cX2_allowedTo 14 = .ok (.iload_n 3, 1) := by decide +kernel
theorem dX2_allowedTo_15 : decode cX2_allowedTo 15 = .ok (.invokevirtual 59, 3) := by decide +kernel
theorem dX2_allowedTo_18 : decode cX2_allowedTo 18 = .ok (.ifCond .eq 9, 3) := by decide +kernel
theorem dX2_allowedTo_21 : decode cX2_allowedTo 21 = .ok (.iload_n 2, 1) := by decide +kernel
theorem dX2_allowedTo_22 : decode cX2_allowedTo 22 = .ok (.iconst 1, 1) := by decide +kernel
theorem dX2_allowedTo_23 : decode cX2_allowedTo 23 = .ok (.iload_n 3, 1) := by decide +kernel
theorem dX2_allowedTo_24 : decode cX2_allowedTo 24 = .ok (.ishl, 1) := by decide +kernel
theorem dX2_allowedTo_25 : decode cX2_allowedTo 25 = .ok (.ior, 1) := by decide +kernel
theorem dX2_allowedTo_26 : decode cX2_allowedTo 26 = .ok (.istore_n 2, 1) := by decide +kernel
theorem dX2_allowedTo_27 : decode cX2_allowedTo 27 = .ok (.iinc 3 1, 3) := by decide +kernel
theorem dX2_allowedTo_30 : decode cX2_allowedTo 30 = .ok (.goto (-26), 3) := by decide +kernel
theorem dX2_allowedTo_33 : decode cX2_allowedTo 33 = .ok (.iload_n 2, 1) := by decide +kernel
theorem dX2_allowedTo_34 : decode cX2_allowedTo 34 = .ok (.ireturn, 1) := by decide +kernel
theorem dX2_wantersOf_0 : decode cX2_wantersOf 0 = .ok (.iconst 0, 1) := by decide +kernel
theorem dX2_wantersOf_1 : decode cX2_wantersOf 1 = .ok (.istore_n 2, 1) := by decide +kernel
theorem dX2_wantersOf_2 : decode cX2_wantersOf 2 = .ok (.iconst 0, 1) := by decide +kernel
theorem dX2_wantersOf_3 : decode cX2_wantersOf 3 = .ok (.istore_n 3, 1) := by decide +kernel
theorem dX2_wantersOf_4 : decode cX2_wantersOf 4 = .ok (.iload_n 3, 1) := by decide +kernel
theorem dX2_wantersOf_5 : decode cX2_wantersOf 5 = .ok (.aload_n 0, 1) := by decide +kernel
theorem dX2_wantersOf_6 : decode cX2_wantersOf 6 = .ok (.getfield 26, 3) := by decide +kernel
theorem dX2_wantersOf_9 : decode cX2_wantersOf 9 = .ok (.if_icmp .ge 24, 3) := by decide +kernel
theorem dX2_wantersOf_12 : decode cX2_wantersOf 12 = .ok (.aload_n 0, 1) := by decide +kernel
theorem dX2_wantersOf_13 : decode cX2_wantersOf 13 = .ok (.iload_n 3, 1) := by decide +kernel
theorem dX2_wantersOf_14 : decode cX2_wantersOf 14 = .ok (.invokevirtual 74, 3) := by decide +kernel
theorem dX2_wantersOf_17 : decode cX2_wantersOf 17 = .ok (.iload_n 1, 1) := by decide +kernel
theorem dX2_wantersOf_18 : decode cX2_wantersOf 18 = .ok (.if_icmp .ne 9, 3) := by decide +kernel
theorem dX2_wantersOf_21 : decode cX2_wantersOf 21 = .ok (.iload_n 2, 1) := by decide +kernel
theorem dX2_wantersOf_22 : decode cX2_wantersOf 22 = .ok (.iconst 1, 1) := by decide +kernel
theorem dX2_wantersOf_23 : decode cX2_wantersOf 23 = .ok (.iload_n 3, 1) := by decide +kernel
theorem dX2_wantersOf_24 : decode cX2_wantersOf 24 = .ok (.ishl, 1) := by decide +kernel
theorem dX2_wantersOf_25 : decode cX2_wantersOf 25 = .ok (.ior, 1) := by decide +kernel
theorem dX2_wantersOf_26 : decode cX2_wantersOf 26 = .ok (.istore_n 2, 1) := by decide +kernel
theorem dX2_wantersOf_27 : decode cX2_wantersOf 27 = .ok (.iinc 3 1, 3) := by decide +kernel
theorem dX2_wantersOf_30 : decode cX2_wantersOf 30 = .ok (.goto (-26), 3) := by decide +kernel
theorem dX2_wantersOf_33 : decode cX2_wantersOf 33 = .ok (.iload_n 2, 1) := by decide +kernel
theorem dX2_wantersOf_34 : decode cX2_wantersOf 34 = .ok (.ireturn, 1) := by decide +kernel
theorem dX2_ownGain_0 : decode cX2_ownGain 0 = .ok (.aload_n 0, 1) := by decide +kernel
theorem dX2_ownGain_1 : decode cX2_ownGain 1 = .ok (.getfield 16, 3) := by decide +kernel
theorem dX2_ownGain_4 : decode cX2_ownGain 4 = .ok (.iload_n 1, 1) := by decide +kernel
theorem dX2_ownGain_5 : decode cX2_ownGain 5 = .ok (.iaload, 1) := by decide +kernel
theorem dX2_ownGain_6 : decode cX2_ownGain 6 = .ok (.istore_n 2, 1) := by decide +kernel
theorem dX2_ownGain_7 : decode cX2_ownGain 7 = .ok (.iload_n 2, 1) := by decide +kernel
theorem dX2_ownGain_8 : decode cX2_ownGain 8 = .ok (.ifCond .ge 7, 3) := by decide +kernel
theorem dX2_ownGain_11 : decode cX2_ownGain 11 = .ok (.iconst 0, 1) := by decide +kernel
theorem dX2_ownGain_12 : decode cX2_ownGain 12 = .ok (.goto 9, 3) := by decide +kernel
theorem dX2_ownGain_15 : decode cX2_ownGain 15 = .ok (.aload_n 0, 1) := by decide +kernel
theorem dX2_ownGain_16 : decode cX2_ownGain 16 = .ok (.iload_n 1, 1) := by decide +kernel
theorem dX2_ownGain_17 : decode cX2_ownGain 17 = .ok (.iload_n 2, 1) := by decide +kernel
theorem dX2_ownGain_18 : decode cX2_ownGain 18 = .ok (.invokevirtual 63, 3) := by decide +kernel
theorem dX2_ownGain_21 : decode cX2_ownGain 21 = .ok (.ireturn, 1) := by decide +kernel
theorem dX2_envyOf_0 : decode cX2_envyOf 0 = .ok (.iconst 0, 1) := by decide +kernel
theorem dX2_envyOf_1 : decode cX2_envyOf 1 = .ok (.istore_n 2, 1) := by decide +kernel
theorem dX2_envyOf_2 : decode cX2_envyOf 2 = .ok (.iconst 0, 1) := by decide +kernel
theorem dX2_envyOf_3 : decode cX2_envyOf 3 = .ok (.istore_n 3, 1) := by decide +kernel
theorem dX2_envyOf_4 : decode cX2_envyOf 4 = .ok (.iload_n 3, 1) := by decide +kernel
theorem dX2_envyOf_5 : decode cX2_envyOf 5 = .ok (.aload_n 0, 1) := by decide +kernel
theorem dX2_envyOf_6 : decode cX2_envyOf 6 = .ok (.getfield 26, 3) := by decide +kernel
theorem dX2_envyOf_9 : decode cX2_envyOf 9 = .ok (.if_icmp .ge 35, 3) := by decide +kernel
theorem dX2_envyOf_12 : decode cX2_envyOf 12 = .ok (.aload_n 0, 1) := by decide +kernel
theorem dX2_envyOf_13 : decode cX2_envyOf 13 = .ok (.iload_n 1, 1) := by decide +kernel
theorem dX2_envyOf_14 : decode cX2_envyOf 14 = .ok (.iload_n 3, 1) := by decide +kernel
theorem dX2_envyOf_15 : decode cX2_envyOf 15 = .ok (.invokevirtual 59, 3) := by decide +kernel
theorem dX2_envyOf_18 : decode cX2_envyOf 18 = .ok (.ifCond .eq 20, 3) := by decide +kernel
theorem dX2_envyOf_21 : decode cX2_envyOf 21 = .ok (.aload_n 0, 1) := by decide +kernel
theorem dX2_envyOf_22 : decode cX2_envyOf 22 = .ok (.iload_n 1, 1) := by decide +kernel
theorem dX2_envyOf_23 : decode cX2_envyOf 23 = .ok (.iload_n 3, 1) := by decide +kernel
theorem dX2_envyOf_24 : decode cX2_envyOf 24 = .ok (.invokevirtual 63, 3) := by decide +kernel
theorem dX2_envyOf_27 : decode cX2_envyOf 27 = .ok (.aload_n 0, 1) := by decide +kernel
theorem dX2_envyOf_28 : decode cX2_envyOf 28 = .ok (.iload_n 1, 1) := by decide +kernel
theorem dX2_envyOf_29 : decode cX2_envyOf 29 = .ok (.invokevirtual 91, 3) := by decide +kernel
theorem dX2_envyOf_32 : decode cX2_envyOf 32 = .ok (.if_icmp .le 6, 3) := by decide +kernel
theorem dX2_envyOf_35 : decode cX2_envyOf 35 = .ok (.iinc 2 1, 3) := by decide +kernel
theorem dX2_envyOf_38 : decode cX2_envyOf 38 = .ok (.iinc 3 1, 3) := by decide +kernel
theorem dX2_envyOf_41 : decode cX2_envyOf 41 = .ok (.goto (-37), 3) := by decide +kernel
theorem dX2_envyOf_44 : decode cX2_envyOf 44 = .ok (.iload_n 2, 1) := by decide +kernel
theorem dX2_envyOf_45 : decode cX2_envyOf 45 = .ok (.ireturn, 1) := by decide +kernel
theorem dX2_isSure_0 : decode cX2_isSure 0 = .ok (.iconst 0, 1) := by decide +kernel
theorem dX2_isSure_1 : decode cX2_isSure 1 = .ok (.istore_n 1, 1) := by decide +kernel
theorem dX2_isSure_2 : decode cX2_isSure 2 = .ok (.iload_n 1, 1) := by decide +kernel
theorem dX2_isSure_3 : decode cX2_isSure 3 = .ok (.aload_n 0, 1) := by decide +kernel
theorem dX2_isSure_4 : decode cX2_isSure 4 = .ok (.getfield 26, 3) := by decide +kernel
theorem dX2_isSure_7 : decode cX2_isSure 7 = .ok (.if_icmp .ge 49, 3) := by decide +kernel
theorem dX2_isSure_10 : decode cX2_isSure 10 = .ok (.aload_n 0, 1) := by decide +kernel
theorem dX2_isSure_11 : decode cX2_isSure 11 = .ok (.iload_n 1, 1) := by decide +kernel
theorem dX2_isSure_12 : decode cX2_isSure 12 = .ok (.invokevirtual 74, 3) := by decide +kernel
theorem dX2_isSure_15 : decode cX2_isSure 15 = .ok (.istore_n 2, 1) := by decide +kernel
theorem dX2_isSure_16 : decode cX2_isSure 16 = .ok (.aload_n 0, 1) := by decide +kernel
theorem dX2_isSure_17 : decode cX2_isSure 17 = .ok (.getfield 16, 3) := by decide +kernel
theorem dX2_isSure_20 : decode cX2_isSure 20 = .ok (.iload_n 1, 1) := by decide +kernel
theorem dX2_isSure_21 : decode cX2_isSure 21 = .ok (.iaload, 1) := by decide +kernel
theorem dX2_isSure_22 : decode cX2_isSure 22 = .ok (.ifCond .lt 26, 3) := by decide +kernel
theorem dX2_isSure_25 : decode cX2_isSure 25 = .ok (.iload_n 2, 1) := by decide +kernel
theorem dX2_isSure_26 : decode cX2_isSure 26 = .ok (.ifCond .lt 22, 3) := by decide +kernel
theorem dX2_isSure_29 : decode cX2_isSure 29 = .ok (.aload_n 0, 1) := by decide +kernel
theorem dX2_isSure_30 : decode cX2_isSure 30 = .ok (.iload_n 1, 1) := by decide +kernel
theorem dX2_isSure_31 : decode cX2_isSure 31 = .ok (.iload_n 2, 1) := by decide +kernel
theorem dX2_isSure_32 : decode cX2_isSure 32 = .ok (.invokevirtual 63, 3) := by decide +kernel
theorem dX2_isSure_35 : decode cX2_isSure 35 = .ok (.aload_n 0, 1) := by decide +kernel
theorem dX2_isSure_36 : decode cX2_isSure 36 = .ok (.iload_n 1, 1) := by decide +kernel
theorem dX2_isSure_37 : decode cX2_isSure 37 = .ok (.invokevirtual 91, 3) := by decide +kernel
theorem dX2_isSure_40 : decode cX2_isSure 40 = .ok (.aload_n 0, 1) := by decide +kernel
theorem dX2_isSure_41 : decode cX2_isSure 41 = .ok (.getfield 30, 3) := by decide +kernel
theorem dX2_isSure_44 : decode cX2_isSure 44 = .ok (.iadd, 1) := by decide +kernel
theorem dX2_isSure_45 : decode cX2_isSure 45 = .ok (.if_icmp .le 5, 3) := by decide +kernel
theorem dX2_isSure_48 : decode cX2_isSure 48 = .ok (.iconst 0, 1) := by decide +kernel
theorem dX2_isSure_49 : decode cX2_isSure 49 = .ok (.ireturn, 1) := by decide +kernel
theorem dX2_isSure_50 : decode cX2_isSure 50 = .ok (.iinc 1 1, 3) := by decide +kernel
theorem dX2_isSure_53 : decode cX2_isSure 53 = .ok (.goto (-51), 3) := by decide +kernel
theorem dX2_isSure_56 : decode cX2_isSure 56 = .ok (.iconst 1, 1) := by decide +kernel
theorem dX2_isSure_57 : decode cX2_isSure 57 = .ok (.ireturn, 1) := by decide +kernel
theorem dX2_leastWithout_0 : decode cX2_leastWithout 0 = .ok (.iconst 0, 1) := by decide +kernel
theorem dX2_leastWithout_1 : decode cX2_leastWithout 1 = .ok (.istore_n 1, 1) := by decide +kernel
theorem dX2_leastWithout_2 : decode cX2_leastWithout 2 = .ok (.iload_n 1, 1) := by decide +kernel
theorem dX2_leastWithout_3 : decode cX2_leastWithout 3 = .ok (.aload_n 0, 1) := by decide +kernel
theorem dX2_leastWithout_4 : decode cX2_leastWithout 4 = .ok (.getfield 26, 3) := by decide +kernel
theorem dX2_leastWithout_7 : decode cX2_leastWithout 7 = .ok (.if_icmp .ge 20, 3) := by decide +kernel
theorem dX2_leastWithout_10 : decode cX2_leastWithout 10 = .ok (.aload_n 0, 1) := by decide +kernel
theorem dX2_leastWithout_11 : decode cX2_leastWithout 11 = .ok (.getfield 16, 3) := by decide +kernel
theorem dX2_leastWithout_14 : decode cX2_leastWithout 14 = .ok (.iload_n 1, 1) := by decide +kernel
theorem dX2_leastWithout_15 : decode cX2_leastWithout 15 = .ok (.iaload, 1) := by decide +kernel
theorem dX2_leastWithout_16 : decode cX2_leastWithout 16 = .ok (.ifCond .ge 5, 3) := by decide +kernel
theorem dX2_leastWithout_19 : decode cX2_leastWithout 19 = .ok (.iload_n 1, 1) := by decide +kernel
theorem dX2_leastWithout_20 : decode cX2_leastWithout 20 = .ok (.ireturn, 1) := by decide +kernel
theorem dX2_leastWithout_21 : decode cX2_leastWithout 21 = .ok (.iinc 1 1, 3) := by decide +kernel
theorem dX2_leastWithout_24 : decode cX2_leastWithout 24 = .ok (.goto (-22), 3) := by decide +kernel
theorem dX2_leastWithout_27 : decode cX2_leastWithout 27 = .ok (.iconst (-1), 1) := by decide +kernel
theorem dX2_leastWithout_28 : decode cX2_leastWithout 28 = .ok (.ireturn, 1) := by decide +kernel
theorem dX2_ownersCounted_0 : decode cX2_ownersCounted 0 = .ok (.iconst 0, 1) := by decide +kernel
theorem dX2_ownersCounted_1 : decode cX2_ownersCounted 1 = .ok (.istore_n 1, 1) := by decide +kernel
theorem dX2_ownersCounted_2 : decode cX2_ownersCounted 2 = .ok (.iconst 0, 1) := by decide +kernel
theorem dX2_ownersCounted_3 : decode cX2_ownersCounted 3 = .ok (.istore_n 2, 1) := by decide +kernel
theorem dX2_ownersCounted_4 : decode cX2_ownersCounted 4 = .ok (.iload_n 2, 1) := by decide +kernel
theorem dX2_ownersCounted_5 : decode cX2_ownersCounted 5 = .ok (.aload_n 0, 1) := by decide +kernel
theorem dX2_ownersCounted_6 : decode cX2_ownersCounted 6 = .ok (.getfield 26, 3) := by decide +kernel
theorem dX2_ownersCounted_9 : decode cX2_ownersCounted 9 = .ok (.if_icmp .ge 21, 3) := by decide +kernel
theorem dX2_ownersCounted_12 : decode cX2_ownersCounted 12 = .ok (.aload_n 0, 1) := by decide +kernel
theorem dX2_ownersCounted_13 : decode cX2_ownersCounted 13 = .ok (.getfield 16, 3) := by decide +kernel
theorem dX2_ownersCounted_16 : decode cX2_ownersCounted 16 = .ok (.iload_n 2, 1) := by decide +kernel
theorem dX2_ownersCounted_17 : decode cX2_ownersCounted 17 = .ok (.iaload, 1) := by decide +kernel
theorem dX2_ownersCounted_18 : decode cX2_ownersCounted 18 = .ok (.ifCond .lt 6, 3) := by decide +kernel
theorem dX2_ownersCounted_21 : decode cX2_ownersCounted 21 = .ok (.iinc 1 1, 3) := by decide +kernel
theorem dX2_ownersCounted_24 : decode cX2_ownersCounted 24 = .ok (.iinc 2 1, 3) := by decide +kernel
theorem dX2_ownersCounted_27 : decode cX2_ownersCounted 27 = .ok (.goto (-23), 3) := by decide +kernel
theorem dX2_ownersCounted_30 : decode cX2_ownersCounted 30 = .ok (.iload_n 1, 1) := by decide +kernel
theorem dX2_ownersCounted_31 : decode cX2_ownersCounted 31 = .ok (.ireturn, 1) := by decide +kernel
theorem dX2_worthTogether_0 : decode cX2_worthTogether 0 = .ok (.iconst 0, 1) := by decide +kernel
theorem dX2_worthTogether_1 : decode cX2_worthTogether 1 = .ok (.istore_n 1, 1) := by decide +kernel
theorem dX2_worthTogether_2 : decode cX2_worthTogether 2 = .ok (.iconst 0, 1) := by decide +kernel
theorem dX2_worthTogether_3 : decode cX2_worthTogether 3 = .ok (.istore_n 2, 1) := by decide +kernel
theorem dX2_worthTogether_4 : decode cX2_worthTogether 4 = .ok (.iload_n 2, 1) := by decide +kernel
theorem dX2_worthTogether_5 : decode cX2_worthTogether 5 = .ok (.aload_n 0, 1) := by decide +kernel
theorem dX2_worthTogether_6 : decode cX2_worthTogether 6 = .ok (.getfield 26, 3) := by decide +kernel
theorem dX2_worthTogether_9 : decode cX2_worthTogether 9 = .ok (.if_icmp .ge 34, 3) := by decide +kernel
theorem dX2_worthTogether_12 : decode cX2_worthTogether 12 = .ok (.aload_n 0, 1) := by decide +kernel
theorem dX2_worthTogether_13 : decode cX2_worthTogether 13 = .ok (.getfield 16, 3) := by decide +kernel
theorem dX2_worthTogether_16 : decode cX2_worthTogether 16 = .ok (.iload_n 2, 1) := by decide +kernel
theorem dX2_worthTogether_17 : decode cX2_worthTogether 17 = .ok (.iaload, 1) := by decide +kernel
theorem dX2_worthTogether_18 : decode cX2_worthTogether 18 = .ok (.ifCond .lt 19, 3) := by decide +kernel
theorem dX2_worthTogether_21 : decode cX2_worthTogether 21 = .ok (.iload_n 1, 1) := by decide +kernel
theorem dX2_worthTogether_22 : decode cX2_worthTogether 22 = .ok (.aload_n 0, 1) := by decide +kernel
theorem dX2_worthTogether_23 : decode cX2_worthTogether 23 = .ok (.getfield 11, 3) := by decide +kernel
theorem dX2_worthTogether_26 : decode cX2_worthTogether 26 = .ok (.iload_n 2, 1) := by decide +kernel
theorem dX2_worthTogether_27 : decode cX2_worthTogether 27 = .ok (.aaload, 1) := by decide +kernel
theorem dX2_worthTogether_28 : decode cX2_worthTogether 28 = .ok (.aload_n 0, 1) := by decide +kernel
theorem dX2_worthTogether_29 : decode cX2_worthTogether 29 = .ok (.getfield 16, 3) := by decide +kernel
theorem dX2_worthTogether_32 : decode cX2_worthTogether 32 = .ok (.iload_n 2, 1) := by decide +kernel
theorem dX2_worthTogether_33 : decode cX2_worthTogether 33 = .ok (.iaload, 1) := by decide +kernel
theorem dX2_worthTogether_34 : decode cX2_worthTogether 34 = .ok (.iaload, 1) := by decide +kernel
theorem dX2_worthTogether_35 : decode cX2_worthTogether 35 = .ok (.iadd, 1) := by decide +kernel
theorem dX2_worthTogether_36 : decode cX2_worthTogether 36 = .ok (.istore_n 1, 1) := by decide +kernel
theorem dX2_worthTogether_37 : decode cX2_worthTogether 37 = .ok (.iinc 2 1, 3) := by decide +kernel
theorem dX2_worthTogether_40 : decode cX2_worthTogether 40 = .ok (.goto (-36), 3) := by decide +kernel
theorem dX2_worthTogether_43 : decode cX2_worthTogether 43 = .ok (.iload_n 1, 1) := by decide +kernel
theorem dX2_worthTogether_44 : decode cX2_worthTogether 44 = .ok (.ireturn, 1) := by decide +kernel
theorem dX2_pricesTogether_0 : decode cX2_pricesTogether 0 = .ok (.iconst 0, 1) := by decide +kernel
theorem dX2_pricesTogether_1 : decode cX2_pricesTogether 1 = .ok (.istore_n 1, 1) := by decide +kernel
theorem dX2_pricesTogether_2 : decode cX2_pricesTogether 2 = .ok (.iconst 0, 1) := by decide +kernel
theorem dX2_pricesTogether_3 : decode cX2_pricesTogether 3 = .ok (.istore_n 2, 1) := by decide +kernel
theorem dX2_pricesTogether_4 : decode cX2_pricesTogether 4 = .ok (.iload_n 2, 1) := by decide +kernel
theorem dX2_pricesTogether_5 : decode cX2_pricesTogether 5 = .ok (.aload_n 0, 1) := by decide +kernel
theorem dX2_pricesTogether_6 : decode cX2_pricesTogether 6 = .ok (.getfield 26, 3) := by decide +kernel
theorem dX2_pricesTogether_9 : decode cX2_pricesTogether 9 = .ok (.if_icmp .ge 18, 3) := by decide +kernel
theorem dX2_pricesTogether_12 : decode cX2_pricesTogether 12 = .ok (.iload_n 1, 1) := by decide +kernel
theorem dX2_pricesTogether_13 : decode cX2_pricesTogether 13 = .ok (.aload_n 0, 1) := by decide +kernel
theorem dX2_pricesTogether_14 : decode cX2_pricesTogether 14 = .ok (.getfield 23, 3) := by decide +kernel
theorem dX2_pricesTogether_17 : decode cX2_pricesTogether 17 = .ok (.iload_n 2, 1) := by decide +kernel
theorem dX2_pricesTogether_18 : decode cX2_pricesTogether 18 = .ok (.iaload, 1) := by decide +kernel
theorem dX2_pricesTogether_19 : decode cX2_pricesTogether 19 = .ok (.iadd, 1) := by decide +kernel
theorem dX2_pricesTogether_20 : decode cX2_pricesTogether 20 = .ok (.istore_n 1, 1) := by decide +kernel
theorem dX2_pricesTogether_21 : decode cX2_pricesTogether 21 = .ok (.iinc 2 1, 3) := by decide +kernel
theorem dX2_pricesTogether_24 : decode cX2_pricesTogether 24 = .ok (.goto (-20), 3) := by decide +kernel
theorem dX2_pricesTogether_27 : decode cX2_pricesTogether 27 = .ok (.iload_n 1, 1) := by decide +kernel
theorem dX2_pricesTogether_28 : decode cX2_pricesTogether 28 = .ok (.ireturn, 1) := by decide +kernel
theorem dX2_forbiddenCounted_0 : decode cX2_forbiddenCounted 0 = .ok (.iconst 0, 1) := by decide +kernel
theorem dX2_forbiddenCounted_1 : decode cX2_forbiddenCounted 1 = .ok (.istore_n 1, 1) := by decide +kernel
theorem dX2_forbiddenCounted_2 : decode cX2_forbiddenCounted 2 = .ok (.iconst 0, 1) := by decide +kernel
theorem dX2_forbiddenCounted_3 : decode cX2_forbiddenCounted 3 = .ok (.istore_n 2, 1) := by decide +kernel
theorem dX2_forbiddenCounted_4 : decode cX2_forbiddenCounted 4 = .ok (.iload_n 2, 1) := by decide +kernel
theorem dX2_forbiddenCounted_5 : decode cX2_forbiddenCounted 5 = .ok (.aload_n 0, 1) := by decide +kernel
theorem dX2_forbiddenCounted_6 : decode cX2_forbiddenCounted 6 = .ok (.getfield 26, 3) := by decide +kernel
theorem dX2_forbiddenCounted_9 : decode cX2_forbiddenCounted 9 = .ok (.if_icmp .ge 25, 3) := by decide +kernel
theorem dX2_forbiddenCounted_12 : decode cX2_forbiddenCounted 12 = .ok (.iload_n 1, 1) := by decide +kernel
theorem dX2_forbiddenCounted_13 : decode cX2_forbiddenCounted 13 = .ok (.aload_n 0, 1) := by decide +kernel
theorem dX2_forbiddenCounted_14 : decode cX2_forbiddenCounted 14 = .ok (.getfield 26, 3) := by decide +kernel
theorem dX2_forbiddenCounted_17 : decode cX2_forbiddenCounted 17 = .ok (.aload_n 0, 1) := by decide +kernel
theorem dX2_forbiddenCounted_18 : decode cX2_forbiddenCounted 18 = .ok (.iload_n 2, 1) := by decide +kernel
theorem dX2_forbiddenCounted_19 : decode cX2_forbiddenCounted 19 = .ok (.invokevirtual 94, 3) := by decide +kernel
theorem dX2_forbiddenCounted_22 : decode cX2_forbiddenCounted 22 = .ok (.invokestatic 97, 3) := by decide +kernel
theorem dX2_forbiddenCounted_25 : decode cX2_forbiddenCounted 25 = .ok (.isub, 1) := by decide +kernel
theorem dX2_forbiddenCounted_26 : decode cX2_forbiddenCounted 26 = .ok (.iadd, 1) := by decide +kernel
theorem dX2_forbiddenCounted_27 : decode cX2_forbiddenCounted 27 = .ok (.istore_n 1, 1) := by decide +kernel
theorem dX2_forbiddenCounted_28 : decode cX2_forbiddenCounted 28 = .ok (.iinc 2 1, 3) := by decide +kernel
theorem dX2_forbiddenCounted_31 : decode cX2_forbiddenCounted 31 = .ok (.goto (-27), 3) := by decide +kernel
theorem dX2_forbiddenCounted_34 : decode cX2_forbiddenCounted 34 = .ok (.iload_n 1, 1) := by decide +kernel
theorem dX2_forbiddenCounted_35 : decode cX2_forbiddenCounted 35 = .ok (.ireturn, 1) := by decide +kernel
theorem dX3_init_0 : decode cX3_init 0 = .ok (.aload_n 0, 1) := by decide +kernel
theorem dX3_init_1 : decode cX3_init 1 = .ok (.invokespecial 3, 3) := by decide +kernel
theorem dX3_init_4 : decode cX3_init 4 = .ok (.aload_n 0, 1) := by decide +kernel
theorem dX3_init_5 : decode cX3_init 5 = .ok (.sipush 256, 3) := by decide +kernel
theorem dX3_init_8 : decode cX3_init 8 = .ok (.newarray .int, 2) := by decide +kernel
theorem dX3_init_10 : decode cX3_init 10 = .ok (.putfield 9, 3) := by decide +kernel
theorem dX3_init_13 : decode cX3_init 13 = .ok (.return_, 1) := by decide +kernel
theorem dX3_mostWorth_0 : decode cX3_mostWorth 0 = .ok (.iconst 1, 1) := by decide +kernel
theorem dX3_mostWorth_1 : decode cX3_mostWorth 1 = .ok (.aload_n 1, 1) := by decide +kernel
theorem dX3_mostWorth_2 : decode cX3_mostWorth 2 = .ok (.getfield 15, 3) := by decide +kernel
theorem dX3_mostWorth_5 : decode cX3_mostWorth 5 = .ok (.ishl, 1) := by decide +kernel
theorem dX3_mostWorth_6 : decode cX3_mostWorth 6 = .ok (.istore_n 2, 1) := by decide +kernel
theorem dX3_mostWorth_7 : decode cX3_mostWorth 7 = .ok (.aload_n 0, 1) := by decide +kernel
theorem dX3_mostWorth_8 : decode cX3_mostWorth 8 = .ok (.getfield 9, 3) := by decide +kernel
theorem dX3_mostWorth_11 : decode cX3_mostWorth 11 = .ok (.iconst 0, 1) := by decide +kernel
theorem dX3_mostWorth_12 : decode cX3_mostWorth 12 = .ok (.iconst 0, 1) := by decide +kernel
theorem dX3_mostWorth_13 : decode cX3_mostWorth 13 = .ok (.iastore, 1) := by decide +kernel
theorem dX3_mostWorth_14 : decode cX3_mostWorth 14 = .ok (.iconst 1, 1) := by decide +kernel
theorem dX3_mostWorth_15 : decode cX3_mostWorth 15 = .ok (.istore_n 3, 1) := by decide +kernel
theorem dX3_mostWorth_16 : decode cX3_mostWorth 16 = .ok (.iload_n 3, 1) := by decide +kernel
theorem dX3_mostWorth_17 : decode cX3_mostWorth 17 = .ok (.iload_n 2, 1) := by decide +kernel
theorem dX3_mostWorth_18 : decode cX3_mostWorth 18 = .ok (.if_icmp .ge 21, 3) := by decide +kernel
theorem dX3_mostWorth_21 : decode cX3_mostWorth 21 = .ok (.aload_n 0, 1) := by decide +kernel
theorem dX3_mostWorth_22 : decode cX3_mostWorth 22 = .ok (.getfield 9, 3) := by decide +kernel
theorem dX3_mostWorth_25 : decode cX3_mostWorth 25 = .ok (.iload_n 3, 1) := by decide +kernel
theorem dX3_mostWorth_26 : decode cX3_mostWorth 26 = .ok (.aload_n 0, 1) := by decide +kernel
theorem dX3_mostWorth_27 : decode cX3_mostWorth 27 = .ok (.aload_n 1, 1) := by decide +kernel
theorem dX3_mostWorth_28 : decode cX3_mostWorth 28 = .ok (.iload_n 3, 1) := by decide +kernel
theorem dX3_mostWorth_29 : decode cX3_mostWorth 29 = .ok (.invokevirtual 21, 3) := by decide +kernel
theorem dX3_mostWorth_32 : decode cX3_mostWorth 32 = .ok (.iastore, 1) := by decide +kernel
theorem dX3_mostWorth_33 : decode cX3_mostWorth 33 = .ok (.iinc 3 1, 3) := by decide +kernel
theorem dX3_mostWorth_36 : decode cX3_mostWorth 36 = .ok (.goto (-20), 3) := by decide +kernel
theorem dX3_mostWorth_39 : decode cX3_mostWorth 39 = .ok (.aload_n 0, 1) := by decide +kernel
theorem dX3_mostWorth_40 : decode cX3_mostWorth 40 = .ok (.getfield 9, 3) := by decide +kernel
theorem dX3_mostWorth_43 : decode cX3_mostWorth 43 = .ok (.iload_n 2, 1) := by decide +kernel
theorem dX3_mostWorth_44 : decode cX3_mostWorth 44 = .ok (.iconst 1, 1) := by decide +kernel
theorem dX3_mostWorth_45 : decode cX3_mostWorth 45 = .ok (.isub, 1) := by decide +kernel
theorem dX3_mostWorth_46 : decode cX3_mostWorth 46 = .ok (.iaload, 1) := by decide +kernel
theorem dX3_mostWorth_47 : decode cX3_mostWorth 47 = .ok (.ireturn, 1) := by decide +kernel
theorem dX3_mostOfSet_0 : decode cX3_mostOfSet 0 = .ok (.iload_n 2, 1) := by decide +kernel
theorem dX3_mostOfSet_1 : decode cX3_mostOfSet 1 = .ok (.invokestatic 25, 3) := by decide +kernel
theorem dX3_mostOfSet_4 : decode cX3_mostOfSet 4 = .ok (.iconst 1, 1) := by decide +kernel
theorem dX3_mostOfSet_5 : decode cX3_mostOfSet 5 = .ok (.isub, 1) := by decide +kernel
theorem dX3_mostOfSet_6 : decode cX3_mostOfSet 6 = .ok (.istore_n 3, 1) := by decide +kernel
theorem dX3_mostOfSet_7 : decode cX3_mostOfSet 7 = .ok (.bipush (-5), 2) := by decide +kernel
theorem dX3_mostOfSet_9 : decode cX3_mostOfSet 9 = .ok (.istore 4, 2) := by decide +kernel
theorem dX3_mostOfSet_11 : decode cX3_mostOfSet 11 = .ok (.iconst 0, 1) := by decide +kernel
theorem dX3_mostOfSet_12 : decode cX3_mostOfSet 12 = .ok (.istore 5, 2) := by decide +kernel
theorem dX3_mostOfSet_14 : decode cX3_mostOfSet 14 = .ok (.iload 5, 2) := by decide +kernel
theorem dX3_mostOfSet_16 : decode cX3_mostOfSet 16 = .ok (.aload_n 1, 1) := by decide +kernel
theorem dX3_mostOfSet_17 : decode cX3_mostOfSet 17 = .ok (.getfield 15, 3) := by decide +kernel
theorem dX3_mostOfSet_20 : decode cX3_mostOfSet 20 = .ok (.if_icmp .ge 70, 3) := by decide +kernel
theorem dX3_mostOfSet_23 : decode cX3_mostOfSet 23 = .ok (.iconst 1, 1) := by decide +kernel
theorem dX3_mostOfSet_24 : decode cX3_mostOfSet 24 = .ok (.iload 5, 2) := by decide +kernel
theorem dX3_mostOfSet_26 : decode cX3_mostOfSet 26 = .ok (.ishl, 1) := by decide +kernel
theorem dX3_mostOfSet_27 : decode cX3_mostOfSet 27 = .ok (.istore 6, 2) := by decide +kernel
theorem dX3_mostOfSet_29 : decode cX3_mostOfSet 29 = .ok (.iload_n 2, 1) := by decide +kernel
theorem dX3_mostOfSet_30 : decode cX3_mostOfSet 30 = .ok (.iload 6, 2) := by decide +kernel
theorem dX3_mostOfSet_32 : decode cX3_mostOfSet 32 = .ok (.iand, 1) := by decide +kernel
theorem dX3_mostOfSet_33 : decode cX3_mostOfSet 33 = .ok (.ifCond .eq 51, 3) := by decide +kernel
theorem dX3_mostOfSet_36 : decode cX3_mostOfSet 36 = .ok (.aload_n 1, 1) := by decide +kernel
theorem dX3_mostOfSet_37 : decode cX3_mostOfSet 37 = .ok (.iload_n 3, 1) := by decide +kernel
theorem dX3_mostOfSet_38 : decode cX3_mostOfSet 38 = .ok (.iload 5, 2) := by decide +kernel
theorem dX3_mostOfSet_40 : decode cX3_mostOfSet 40 = .ok (.invokevirtual 31, 3) := by decide +kernel
theorem dX3_mostOfSet_43 : decode cX3_mostOfSet 43 = .ok (.ifCond .eq 41, 3) := by decide +kernel
theorem dX3_mostOfSet_46 : decode cX3_mostOfSet 46 = .ok (.aload_n 0, 1) := by decide +kernel
theorem dX3_mostOfSet_47 : decode cX3_mostOfSet 47 = .ok (.getfield 9, 3) := by decide +kernel
theorem dX3_mostOfSet_50 : decode cX3_mostOfSet 50 = .ok (.iload_n 2, 1) := by decide +kernel
theorem dX3_mostOfSet_51 : decode cX3_mostOfSet 51 = .ok (.iload 6, 2) := by decide +kernel
theorem dX3_mostOfSet_53 : decode cX3_mostOfSet 53 = .ok (.ixor, 1) := by decide +kernel
theorem dX3_mostOfSet_54 : decode cX3_mostOfSet 54 = .ok (.iaload, 1) := by decide +kernel
theorem dX3_mostOfSet_55 : decode cX3_mostOfSet 55 = .ok (.ifCond .lt 29, 3) := by decide +kernel
theorem dX3_mostOfSet_58 : decode cX3_mostOfSet 58 = .ok (.iload 4, 2) := by decide +kernel
theorem dX3_mostOfSet_60 : decode cX3_mostOfSet 60 = .ok (.aload_n 0, 1) := by decide +kernel
theorem dX3_mostOfSet_61 : decode cX3_mostOfSet 61 = .ok (.getfield 9, 3) := by decide +kernel
theorem dX3_mostOfSet_64 : decode cX3_mostOfSet 64 = .ok (.iload_n 2, 1) := by decide +kernel
theorem dX3_mostOfSet_65 : decode cX3_mostOfSet 65 = .ok (.iload 6, 2) := by decide +kernel
theorem dX3_mostOfSet_67 : decode cX3_mostOfSet 67 = .ok (.ixor, 1) := by decide +kernel
theorem dX3_mostOfSet_68 : decode cX3_mostOfSet 68 = .ok (.iaload, 1) := by decide +kernel
theorem dX3_mostOfSet_69 : decode cX3_mostOfSet 69 = .ok (.aload_n 1, 1) := by decide +kernel
theorem dX3_mostOfSet_70 : decode cX3_mostOfSet 70 = .ok (.getfield 35, 3) := by decide +kernel
theorem dX3_mostOfSet_73 : decode cX3_mostOfSet 73 = .ok (.iload_n 3, 1) := by decide +kernel
theorem dX3_mostOfSet_74 : decode cX3_mostOfSet 74 = .ok (.aaload, 1) := by decide +kernel
theorem dX3_mostOfSet_75 : decode cX3_mostOfSet 75 = .ok (.iload 5, 2) := by decide +kernel
theorem dX3_mostOfSet_77 : decode cX3_mostOfSet 77 = .ok (.iaload, 1) := by decide +kernel
theorem dX3_mostOfSet_78 : decode cX3_mostOfSet 78 = .ok (.iadd, 1) := by decide +kernel
theorem dX3_mostOfSet_79 : decode cX3_mostOfSet 79 = .ok (.invokestatic 39, 3) := by decide +kernel
theorem dX3_mostOfSet_82 : decode cX3_mostOfSet 82 = .ok (.istore 4, 2) := by decide +kernel
theorem dX3_mostOfSet_84 : decode cX3_mostOfSet 84 = .ok (.iinc 5 1, 3) := by decide +kernel
theorem dX3_mostOfSet_87 : decode cX3_mostOfSet 87 = .ok (.goto (-73), 3) := by decide +kernel
theorem dX3_mostOfSet_90 : decode cX3_mostOfSet 90 = .ok (.iload 4, 2) := by decide +kernel
theorem dX3_mostOfSet_92 : decode cX3_mostOfSet 92 = .ok (.ireturn, 1) := by decide +kernel
theorem dX3_leastLacking_0 : decode cX3_leastLacking 0 = .ok (.iconst 0, 1) := by decide +kernel
theorem dX3_leastLacking_1 : decode cX3_leastLacking 1 = .ok (.istore_n 2, 1) := by decide +kernel
theorem dX3_leastLacking_2 : decode cX3_leastLacking 2 = .ok (.iconst 1, 1) := by decide +kernel
theorem dX3_leastLacking_3 : decode cX3_leastLacking 3 = .ok (.aload_n 1, 1) := by decide +kernel
theorem dX3_leastLacking_4 : decode cX3_leastLacking 4 = .ok (.getfield 15, 3) := by decide +kernel
theorem dX3_leastLacking_7 : decode cX3_leastLacking 7 = .ok (.ishl, 1) := by decide +kernel
theorem dX3_leastLacking_8 : decode cX3_leastLacking 8 = .ok (.istore_n 3, 1) := by decide +kernel
theorem dX3_leastLacking_9 : decode cX3_leastLacking 9 = .ok (.iconst 1, 1) := by decide +kernel
theorem dX3_leastLacking_10 : decode cX3_leastLacking 10 = .ok (.istore 4, 2) := by decide +kernel
theorem dX3_leastLacking_12 : decode cX3_leastLacking 12 = .ok (.iload 4, 2) := by decide +kernel
theorem dX3_leastLacking_14 : decode cX3_leastLacking 14 = .ok (.iload_n 3, 1) := by decide +kernel
theorem dX3_leastLacking_15 : decode cX3_leastLacking 15 = .ok (.if_icmp .ge 59, 3) := by decide +kernel
theorem dX3_leastLacking_18 : decode cX3_leastLacking 18 = .ok (.iload 4, 2) := by decide +kernel
theorem dX3_leastLacking_20 : decode cX3_leastLacking 20 = .ok (.invokestatic 25, 3) := by decide +kernel
theorem dX3_leastLacking_23 : decode cX3_leastLacking 23 = .ok (.istore 5, 2) := by decide +kernel
theorem dX3_leastLacking_25 : decode cX3_leastLacking 25 = .ok (.iload_n 2, 1) := by decide +kernel
theorem dX3_leastLacking_26 : decode cX3_leastLacking 26 = .ok (.ifCond .eq 12, 3) := by decide +kernel
theorem dX3_leastLacking_29 : decode cX3_leastLacking 29 = .ok (.iload 5, 2) := by decide +kernel
theorem dX3_leastLacking_31 : decode cX3_leastLacking 31 = .ok (.iload_n 2, 1) := by decide +kernel
theorem dX3_leastLacking_32 : decode cX3_leastLacking 32 = .ok (.invokestatic 25, 3) := by decide +kernel
theorem dX3_leastLacking_35 : decode cX3_leastLacking 35 = .ok (.if_icmp .ge 7, 3) := by decide +kernel
theorem dX3_leastLacking_38 : decode cX3_leastLacking 38 = .ok (.iconst 1, 1) := by decide +kernel
theorem dX3_leastLacking_39 : decode cX3_leastLacking 39 = .ok (.goto 4, 3) := by decide +kernel
theorem dX3_leastLacking_42 : decode cX3_leastLacking 42 = .ok (.iconst 0, 1) := by decide +kernel
theorem dX3_leastLacking_43 : decode cX3_leastLacking 43 = .ok (.istore 6, 2) := by decide +kernel
theorem dX3_leastLacking_45 : decode cX3_leastLacking 45 = .ok (.iload 6, 2) := by decide +kernel
theorem dX3_leastLacking_47 : decode cX3_leastLacking 47 = .ok (.ifCond .eq 21, 3) := by decide +kernel
theorem dX3_leastLacking_50 : decode cX3_leastLacking 50 = .ok (.aload_n 0, 1) := by decide +kernel
theorem dX3_leastLacking_51 : decode cX3_leastLacking 51 = .ok (.aload_n 1, 1) := by decide +kernel
theorem dX3_leastLacking_52 : decode cX3_leastLacking 52 = .ok (.iload 4, 2) := by decide +kernel
theorem dX3_leastLacking_54 : decode cX3_leastLacking 54 = .ok (.invokevirtual 45, 3) := by decide +kernel
theorem dX3_leastLacking_57 : decode cX3_leastLacking 57 = .ok (.invokestatic 25, 3) := by decide +kernel
theorem dX3_leastLacking_60 : decode cX3_leastLacking 60 = .ok (.iload 5, 2) := by decide +kernel
theorem dX3_leastLacking_62 : decode cX3_leastLacking 62 = .ok (.if_icmp .ge 6, 3) := by decide +kernel
theorem dX3_leastLacking_65 : decode cX3_leastLacking 65 = .ok (.iload 4, 2) := by decide +kernel
theorem dX3_leastLacking_67 : decode cX3_leastLacking 67 = .ok (.istore_n 2, 1) := by decide +kernel
theorem dX3_leastLacking_68 : decode cX3_leastLacking 68 = .ok (.iinc 4 1, 3) := by decide +kernel
theorem dX3_leastLacking_71 : decode cX3_leastLacking 71 = .ok (.goto (-59), 3) := by decide +kernel
theorem dX3_leastLacking_74 : decode cX3_leastLacking 74 = .ok (.iload_n 2, 1) := by decide +kernel
theorem dX3_leastLacking_75 : decode cX3_leastLacking 75 = .ok (.ireturn, 1) := by decide +kernel
theorem dX3_allowedToSome_0 : decode cX3_allowedToSome 0 = .ok (.iconst 0, 1) := by decide +kernel
theorem dX3_allowedToSome_1 : decode cX3_allowedToSome 1 = .ok (.istore_n 3, 1) := by decide +kernel
theorem dX3_allowedToSome_2 : decode cX3_allowedToSome 2 = .ok (.iconst 0, 1) := by decide +kernel
theorem dX3_allowedToSome_3 : decode cX3_allowedToSome 3 = .ok (.istore 4, 2) := by decide +kernel
theorem dX3_allowedToSome_5 : decode cX3_allowedToSome 5 = .ok (.iload 4, 2) := by decide +kernel
theorem dX3_allowedToSome_7 : decode cX3_allowedToSome 7 = .ok (.aload_n 1, 1) := by decide +kernel
theorem dX3_allowedToSome_8 : decode cX3_allowedToSome 8 = .ok (.getfield 15, 3) := by decide +kernel
theorem dX3_allowedToSome_11 : decode cX3_allowedToSome 11 = .ok (.if_icmp .ge 27, 3) := by decide +kernel
theorem dX3_allowedToSome_14 : decode cX3_allowedToSome 14 = .ok (.iload_n 2, 1) := by decide +kernel
theorem dX3_allowedToSome_15 : decode cX3_allowedToSome 15 = .ok (.iconst 1, 1) := by decide +kernel
theorem dX3_allowedToSome_16 : decode cX3_allowedToSome 16 = .ok (.iload 4, 2) := by decide +kernel
theorem dX3_allowedToSome_18 : decode cX3_allowedToSome 18 = .ok (.ishl, 1) := by decide +kernel
theorem dX3_allowedToSome_19 : decode cX3_allowedToSome 19 = .ok (.iand, 1) := by decide +kernel
theorem dX3_allowedToSome_20 : decode cX3_allowedToSome 20 = .ok (.ifCond .eq 12, 3) := by decide +kernel
theorem dX3_allowedToSome_23 : decode cX3_allowedToSome 23 = .ok (.iload_n 3, 1) := by decide +kernel
theorem dX3_allowedToSome_24 : decode cX3_allowedToSome 24 = .ok (.aload_n 1, 1) := by decide +kernel
theorem dX3_allowedToSome_25 : decode cX3_allowedToSome 25 = .ok (.iload 4, 2) := by decide +kernel
theorem dX3_allowedToSome_27 : decode cX3_allowedToSome 27 = .ok (.invokevirtual 48, 3) := by decide +kernel
theorem dX3_allowedToSome_30 : decode cX3_allowedToSome 30 = .ok (.ior, 1) := by decide +kernel
theorem dX3_allowedToSome_31 : decode cX3_allowedToSome 31 = .ok (.istore_n 3, 1) := by decide +kernel
theorem dX3_allowedToSome_32 : decode cX3_allowedToSome 32 = .ok (.iinc 4 1, 3) := by decide +kernel
theorem dX3_allowedToSome_35 : decode cX3_allowedToSome 35 = .ok (.goto (-30), 3) := by decide +kernel
theorem dX3_allowedToSome_38 : decode cX3_allowedToSome 38 = .ok (.iload_n 3, 1) := by decide +kernel
theorem dX3_allowedToSome_39 : decode cX3_allowedToSome 39 = .ok (.ireturn, 1) := by decide +kernel
theorem dX4_init_0 : decode cX4_init 0 = .ok (.aload_n 0, 1) := by decide +kernel
theorem dX4_init_1 : decode cX4_init 1 = .ok (.invokespecial 3, 3) := by decide +kernel
theorem dX4_init_4 : decode cX4_init 4 = .ok (.aload_n 0, 1) := by decide +kernel
theorem dX4_init_5 : decode cX4_init 5 = .ok (.iconst 0, 1) := by decide +kernel
theorem dX4_init_6 : decode cX4_init 6 = .ok (.putfield 9, 3) := by decide +kernel
theorem dX4_init_9 : decode cX4_init 9 = .ok (.aload_n 0, 1) := by decide +kernel
theorem dX4_init_10 : decode cX4_init 10 = .ok (.iload_n 1, 1) := by decide +kernel
theorem dX4_init_11 : decode cX4_init 11 = .ok (.newarray .int, 2) := by decide +kernel
theorem dX4_init_13 : decode cX4_init 13 = .ok (.putfield 15, 3) := by decide +kernel
theorem dX4_init_16 : decode cX4_init 16 = .ok (.aload_n 0, 1) := by decide +kernel
theorem dX4_init_17 : decode cX4_init 17 = .ok (.iload_n 1, 1) := by decide +kernel
theorem dX4_init_18 : decode cX4_init 18 = .ok (.newarray .int, 2) := by decide +kernel
theorem dX4_init_20 : decode cX4_init 20 = .ok (.putfield 19, 3) := by decide +kernel
theorem dX4_init_23 : decode cX4_init 23 = .ok (.return_, 1) := by decide +kernel
theorem dX4_empty_0 : decode cX4_empty 0 = .ok (.aload_n 0, 1) := by decide +kernel
theorem dX4_empty_1 : decode cX4_empty 1 = .ok (.iconst 0, 1) := by decide +kernel
theorem dX4_empty_2 : decode cX4_empty 2 = .ok (.putfield 9, 3) := by decide +kernel
theorem dX4_empty_5 : decode cX4_empty 5 = .ok (.aload_n 0, 1) := by decide +kernel
theorem dX4_empty_6 : decode cX4_empty 6 = .ok (.getfield 9, 3) := by decide +kernel
theorem dX4_empty_9 : decode cX4_empty 9 = .ok (.ireturn, 1) := by decide +kernel
theorem dX4_append_0 : decode cX4_append 0 = .ok (.aload_n 0, 1) := by decide +kernel
theorem dX4_append_1 : decode cX4_append 1 = .ok (.getfield 9, 3) := by decide +kernel
theorem dX4_append_4 : decode cX4_append 4 = .ok (.aload_n 0, 1) := by decide +kernel
theorem dX4_append_5 : decode cX4_append 5 = .ok (.getfield 15, 3) := by decide +kernel
theorem dX4_append_8 : decode cX4_append 8 = .ok (.arraylength, 1) := by decide +kernel
theorem dX4_append_9 : decode cX4_append 9 = .ok (.if_icmp .lt 6, 3) := by decide +kernel
theorem dX4_append_12 : decode cX4_append 12 = .ok (.bipush (-4), 2) := by decide +kernel
theorem dX4_append_14 : decode cX4_append 14 = .ok (.ireturn, 1) := by decide +kernel
theorem dX4_append_15 : decode cX4_append 15 = .ok (.aload_n 0, 1) := by decide +kernel
theorem dX4_append_16 : decode cX4_append 16 = .ok (.getfield 15, 3) := by decide +kernel
theorem dX4_append_19 : decode cX4_append 19 = .ok (.aload_n 0, 1) := by decide +kernel
theorem dX4_append_20 : decode cX4_append 20 = .ok (.getfield 9, 3) := by decide +kernel
theorem dX4_append_23 : decode cX4_append 23 = .ok (.iload_n 1, 1) := by decide +kernel
theorem dX4_append_24 : decode cX4_append 24 = .ok (.iastore, 1) := by decide +kernel
theorem dX4_append_25 : decode cX4_append 25 = .ok (.aload_n 0, 1) := by decide +kernel
theorem dX4_append_26 : decode cX4_append 26 = .ok (.getfield 19, 3) := by decide +kernel
theorem dX4_append_29 : decode cX4_append 29 = .ok (.aload_n 0, 1) := by decide +kernel
theorem dX4_append_30 : decode cX4_append 30 = .ok (.getfield 9, 3) := by decide +kernel
theorem dX4_append_33 : decode cX4_append 33 = .ok (.iload_n 2, 1) := by decide +kernel
theorem dX4_append_34 : decode cX4_append 34 = .ok (.iastore, 1) := by decide +kernel
theorem dX4_append_35 : decode cX4_append 35 = .ok (.aload_n 0, 1) := by decide +kernel
theorem dX4_append_36 : decode cX4_append 36 = .ok (.dup, 1) := by decide +kernel
theorem dX4_append_37 : decode cX4_append 37 = .ok (.getfield 9, 3) := by decide +kernel
theorem dX4_append_40 : decode cX4_append 40 = .ok (.iconst 1, 1) := by decide +kernel
theorem dX4_append_41 : decode cX4_append 41 = .ok (.iadd, 1) := by decide +kernel
theorem dX4_append_42 : decode cX4_append 42 = .ok (.putfield 9, 3) := by decide +kernel
theorem dX4_append_45 : decode cX4_append 45 = .ok (.aload_n 0, 1) := by decide +kernel
theorem dX4_append_46 : decode cX4_append 46 = .ok (.getfield 9, 3) := by decide +kernel
theorem dX4_append_49 : decode cX4_append 49 = .ok (.ireturn, 1) := by decide +kernel
theorem dX4_become_0 : decode cX4_become 0 = .ok (.aload_n 0, 1) := by decide +kernel
theorem dX4_become_1 : decode cX4_become 1 = .ok (.aload_n 1, 1) := by decide +kernel
theorem dX4_become_2 : decode cX4_become 2 = .ok (.getfield 9, 3) := by decide +kernel
theorem dX4_become_5 : decode cX4_become 5 = .ok (.aload_n 0, 1) := by decide +kernel
theorem dX4_become_6 : decode cX4_become 6 = .ok (.getfield 15, 3) := by decide +kernel
theorem dX4_become_9 : decode cX4_become 9 = .ok (.arraylength, 1) := by decide +kernel
theorem dX4_become_10 : decode cX4_become 10 = .ok (.invokestatic 22, 3) := by decide +kernel
theorem dX4_become_13 : decode cX4_become 13 = .ok (.putfield 9, 3) := by decide +kernel
theorem dX4_become_16 : decode cX4_become 16 = .ok (.aload_n 1, 1) := by decide +kernel
theorem dX4_become_17 : decode cX4_become 17 = .ok (.getfield 15, 3) := by decide +kernel
theorem dX4_become_20 : decode cX4_become 20 = .ok (.iconst 0, 1) := by decide +kernel
theorem dX4_become_21 : decode cX4_become 21 = .ok (.aload_n 0, 1) := by decide +kernel
theorem dX4_become_22 : decode cX4_become 22 = .ok (.getfield 15, 3) := by decide +kernel
theorem dX4_become_25 : decode cX4_become 25 = .ok (.iconst 0, 1) := by decide +kernel
theorem dX4_become_26 : decode cX4_become 26 = .ok (.aload_n 0, 1) := by decide +kernel
theorem dX4_become_27 : decode cX4_become 27 = .ok (.getfield 9, 3) := by decide +kernel
theorem dX4_become_30 : decode cX4_become 30 = .ok (.invokestatic 28, 3) := by decide +kernel
theorem dX4_become_33 : decode cX4_become 33 = .ok (.aload_n 1, 1) := by decide +kernel
theorem dX4_become_34 : decode cX4_become 34 = .ok (.getfield 19, 3) := by decide +kernel
theorem dX4_become_37 : decode cX4_become 37 = .ok (.iconst 0, 1) := by decide +kernel
theorem dX4_become_38 : decode cX4_become 38 = .ok (.aload_n 0, 1) := by decide +kernel
theorem dX4_become_39 : decode cX4_become 39 = .ok (.getfield 19, 3) := by decide +kernel
theorem dX4_become_42 : decode cX4_become 42 = .ok (.iconst 0, 1) := by decide +kernel
theorem dX4_become_43 : decode cX4_become 43 = .ok (.aload_n 0, 1) := by decide +kernel
theorem dX4_become_44 : decode cX4_become 44 = .ok (.getfield 9, 3) := by decide +kernel
theorem dX4_become_47 : decode cX4_become 47 = .ok (.invokestatic 28, 3) := by decide +kernel
theorem dX4_become_50 : decode cX4_become 50 = .ok (.return_, 1) := by decide +kernel
theorem dX5_init_0 : decode cX5_init 0 = .ok (.aload_n 0, 1) := by decide +kernel
theorem dX5_init_1 : decode cX5_init 1 = .ok (.invokespecial 1, 3) := by decide +kernel
theorem dX5_init_4 : decode cX5_init 4 = .ok (.aload_n 0, 1) := by decide +kernel
theorem dX5_init_5 : decode cX5_init 5 = .ok (.bipush 60, 2) := by decide +kernel
theorem dX5_init_7 : decode cX5_init 7 = .ok (.newarray .long, 2) := by decide +kernel
theorem dX5_init_9 : decode cX5_init 9 = .ok (.putfield 9, 3) := by decide +kernel
theorem dX5_init_12 : decode cX5_init 12 = .ok (.aload_n 0, 1) := by decide +kernel
theorem dX5_init_13 : decode cX5_init 13 = .ok (.iconst (-1), 1) := by decide +kernel
theorem dX5_init_14 : decode cX5_init 14 = .ok (.putfield 13, 3) := by decide +kernel
theorem dX5_init_17 : decode cX5_init 17 = .ok (.aload_n 0, 1) := by decide +kernel
theorem dX5_init_18 : decode cX5_init 18 = .ok (.iconst 0, 1) := by decide +kernel
theorem dX5_init_19 : decode cX5_init 19 = .ok (.putfield 17, 3) := by decide +kernel
theorem dX5_init_22 : decode cX5_init 22 = .ok (.return_, 1) := by decide +kernel
theorem dX5_becomeRow_0 : decode cX5_becomeRow 0 = .ok (.aload_n 0, 1) := by decide +kernel
theorem dX5_becomeRow_1 : decode cX5_becomeRow 1 = .ok (.iload_n 1, 1) := by decide +kernel
theorem dX5_becomeRow_2 : decode cX5_becomeRow 2 = .ok (.putfield 13, 3) := by decide +kernel
theorem dX5_becomeRow_5 : decode cX5_becomeRow 5 = .ok (.aload_n 0, 1) := by decide +kernel
theorem dX5_becomeRow_6 : decode cX5_becomeRow 6 = .ok (.iload_n 2, 1) := by decide +kernel
theorem dX5_becomeRow_7 : decode cX5_becomeRow 7 = .ok (.putfield 17, 3) := by decide +kernel
theorem dX5_becomeRow_10 : decode cX5_becomeRow 10 = .ok (.iconst 0, 1) := by decide +kernel
theorem dX5_becomeRow_11 : decode cX5_becomeRow 11 = .ok (.istore_n 3, 1) := by decide +kernel
theorem dX5_becomeRow_12 : decode cX5_becomeRow 12 = .ok (.iload_n 3, 1) := by decide +kernel
theorem dX5_becomeRow_13 : decode cX5_becomeRow 13 = .ok (.bipush 60, 2) := by decide +kernel
theorem dX5_becomeRow_15 : decode cX5_becomeRow 15 = .ok (.if_icmp .ge 16, 3) := by decide +kernel
theorem dX5_becomeRow_18 : decode cX5_becomeRow 18 = .ok (.aload_n 0, 1) := by decide +kernel
theorem dX5_becomeRow_19 : decode cX5_becomeRow 19 = .ok (.getfield 9, 3) := by decide +kernel
theorem dX5_becomeRow_22 : decode cX5_becomeRow 22 = .ok (.iload_n 3, 1) := by decide +kernel
theorem dX5_becomeRow_23 : decode cX5_becomeRow 23 = .ok (.lconst 0, 1) := by decide +kernel
theorem dX5_becomeRow_24 : decode cX5_becomeRow 24 = .ok (.lastore, 1) := by decide +kernel
theorem dX5_becomeRow_25 : decode cX5_becomeRow 25 = .ok (.iinc 3 1, 3) := by decide +kernel
theorem dX5_becomeRow_28 : decode cX5_becomeRow 28 = .ok (.goto (-16), 3) := by decide +kernel
theorem dX5_becomeRow_31 : decode cX5_becomeRow 31 = .ok (.return_, 1) := by decide +kernel
theorem dX5_hasPlace_0 : decode cX5_hasPlace 0 = .ok (.iload_n 1, 1) := by decide +kernel
theorem dX5_hasPlace_1 : decode cX5_hasPlace 1 = .ok (.ifCond .lt 15, 3) := by decide +kernel
theorem dX5_hasPlace_4 : decode cX5_hasPlace 4 = .ok (.iload_n 1, 1) := by decide +kernel
theorem dX5_hasPlace_5 : decode cX5_hasPlace 5 = .ok (.aload_n 0, 1) := by decide +kernel
theorem dX5_hasPlace_6 : decode cX5_hasPlace 6 = .ok (.getfield 17, 3) := by decide +kernel
theorem dX5_hasPlace_9 : decode cX5_hasPlace 9 = .ok (.if_icmp .ge 7, 3) := by decide +kernel
theorem dX5_hasPlace_12 : decode cX5_hasPlace 12 = .ok (.iconst 1, 1) := by decide +kernel
theorem dX5_hasPlace_13 : decode cX5_hasPlace 13 = .ok (.goto 4, 3) := by decide +kernel
theorem dX5_hasPlace_16 : decode cX5_hasPlace 16 = .ok (.iconst 0, 1) := by decide +kernel
theorem dX5_hasPlace_17 : decode cX5_hasPlace 17 = .ok (.ireturn, 1) := by decide +kernel
theorem dX5_hasRun_0 : decode cX5_hasRun 0 = .ok (.iload_n 2, 1) := by decide +kernel
theorem dX5_hasRun_1 : decode cX5_hasRun 1 = .ok (.ifCond .lt 29, 3) := by decide +kernel
theorem dX5_hasRun_4 : decode cX5_hasRun 4 = .ok (.iload_n 1, 1) := by decide +kernel
theorem dX5_hasRun_5 : decode cX5_hasRun 5 = .ok (.ifCond .lt 25, 3) := by decide +kernel
theorem dX5_hasRun_8 : decode cX5_hasRun 8 = .ok (.iload_n 2, 1) := by decide +kernel
theorem dX5_hasRun_9 : decode cX5_hasRun 9 = .ok (.aload_n 0, 1) := by decide +kernel
theorem dX5_hasRun_10 : decode cX5_hasRun 10 = .ok (.getfield 17, 3) := by decide +kernel
theorem dX5_hasRun_13 : decode cX5_hasRun 13 = .ok (.if_icmp .gt 17, 3) := by decide +kernel
theorem dX5_hasRun_16 : decode cX5_hasRun 16 = .ok (.iload_n 1, 1) := by decide +kernel
theorem dX5_hasRun_17 : decode cX5_hasRun 17 = .ok (.aload_n 0, 1) := by decide +kernel
theorem dX5_hasRun_18 : decode cX5_hasRun 18 = .ok (.getfield 17, 3) := by decide +kernel
theorem dX5_hasRun_21 : decode cX5_hasRun 21 = .ok (.iload_n 2, 1) := by decide +kernel
theorem dX5_hasRun_22 : decode cX5_hasRun 22 = .ok (.isub, 1) := by decide +kernel
theorem dX5_hasRun_23 : decode cX5_hasRun 23 = .ok (.if_icmp .gt 7, 3) := by decide +kernel
theorem dX5_hasRun_26 : decode cX5_hasRun 26 = .ok (.iconst 1, 1) := by decide +kernel
theorem dX5_hasRun_27 : decode cX5_hasRun 27 = .ok (.goto 4, 3) := by decide +kernel
theorem dX5_hasRun_30 : decode cX5_hasRun 30 = .ok (.iconst 0, 1) := by decide +kernel
theorem dX5_hasRun_31 : decode cX5_hasRun 31 = .ok (.ireturn, 1) := by decide +kernel
theorem dX5_asItem_0 : decode cX5_asItem 0 = .ok (.aload_n 0, 1) := by decide +kernel
theorem dX5_asItem_1 : decode cX5_asItem 1 = .ok (.getfield 13, 3) := by decide +kernel
theorem dX5_asItem_4 : decode cX5_asItem 4 = .ok (.tableswitch 62 0 4 #[36, 41, 46, 62, 50], 36) := by decide +kernel
theorem dX5_asItem_40 : decode cX5_asItem 40 = .ok (.lload_n 1, 1) := by decide +kernel
theorem dX5_asItem_41 : decode cX5_asItem 41 = .ok (.l2i, 1) := by decide +kernel
theorem dX5_asItem_42 : decode cX5_asItem 42 = .ok (.i2b, 1) := by decide +kernel
theorem dX5_asItem_43 : decode cX5_asItem 43 = .ok (.i2l, 1) := by decide +kernel
theorem dX5_asItem_44 : decode cX5_asItem 44 = .ok (.lreturn, 1) := by decide +kernel
theorem dX5_asItem_45 : decode cX5_asItem 45 = .ok (.lload_n 1, 1) := by decide +kernel
theorem dX5_asItem_46 : decode cX5_asItem 46 = .ok (.l2i, 1) := by decide +kernel
theorem dX5_asItem_47 : decode cX5_asItem 47 = .ok (.i2s, 1) := by decide +kernel
theorem dX5_asItem_48 : decode cX5_asItem 48 = .ok (.i2l, 1) := by decide +kernel
theorem dX5_asItem_49 : decode cX5_asItem 49 = .ok (.lreturn, 1) := by decide +kernel
theorem dX5_asItem_50 : decode cX5_asItem 50 = .ok (.lload_n 1, 1) := by decide +kernel
theorem dX5_asItem_51 : decode cX5_asItem 51 = .ok (.l2i, 1) := by decide +kernel
theorem dX5_asItem_52 : decode cX5_asItem 52 = .ok (.i2l, 1) := by decide +kernel
theorem dX5_asItem_53 : decode cX5_asItem 53 = .ok (.lreturn, 1) := by decide +kernel
theorem dX5_asItem_54 : decode cX5_asItem 54 = .ok (.lload_n 1, 1) := by decide +kernel
theorem dX5_asItem_55 : decode cX5_asItem 55 = .ok (.lconst 0, 1) := by decide +kernel
theorem dX5_asItem_56 : decode cX5_asItem 56 = .ok (.lcmp, 1) := by decide +kernel
theorem dX5_asItem_57 : decode cX5_asItem 57 = .ok (.ifCond .eq 7, 3) := by decide +kernel
theorem dX5_asItem_60 : decode cX5_asItem 60 = .ok (.lconst 1, 1) := by decide +kernel
theorem dX5_asItem_61 : decode cX5_asItem 61 = .ok (.goto 4, 3) := by decide +kernel
theorem dX5_asItem_64 : decode cX5_asItem 64 = .ok (.lconst 0, 1) := by decide +kernel
theorem dX5_asItem_65 : decode cX5_asItem 65 = .ok (.lreturn, 1) := by decide +kernel
theorem dX5_asItem_66 : decode cX5_asItem 66 = .ok (.lload_n 1, 1) := by decide +kernel
theorem dX5_asItem_67 : decode cX5_asItem 67 = .ok (.lreturn, 1) := by decide +kernel
theorem dX6_init_0 : decode cX6_init 0 = .ok (.aload_n 0, 1) := by decide +kernel
theorem dX6_init_1 : decode cX6_init 1 = .ok (.invokespecial 3, 3) := by decide +kernel
theorem dX6_init_4 : decode cX6_init 4 = .ok (.aload_n 0, 1) := by decide +kernel
theorem dX6_init_5 : decode cX6_init 5 = .ok (.bipush 100, 2) := by decide +kernel
theorem dX6_init_7 : decode cX6_init 7 = .ok (.newarray .int, 2) := by decide +kernel
theorem dX6_init_9 : decode cX6_init 9 = .ok (.putfield 11, 3) := by decide +kernel
theorem dX6_init_12 : decode cX6_init 12 = .ok (.aload_n 0, 1) := by decide +kernel
theorem dX6_init_13 : decode cX6_init 13 = .ok (.iconst 0, 1) := by decide +kernel
theorem dX6_init_14 : decode cX6_init 14 = .ok (.putfield 15, 3) := by decide +kernel
theorem dX6_init_17 : decode cX6_init 17 = .ok (.aload_n 0, 1) := by decide +kernel
theorem dX6_init_18 : decode cX6_init 18 = .ok (.bipush 16, 2) := by decide +kernel
theorem dX6_init_20 : decode cX6_init 20 = .ok (.newarray .int, 2) := by decide +kernel
theorem dX6_init_22 : decode cX6_init 22 = .ok (.putfield 19, 3) := by decide +kernel
theorem dX6_init_25 : decode cX6_init 25 = .ok (.aload_n 0, 1) := by decide +kernel
theorem dX6_init_26 : decode cX6_init 26 = .ok (.bipush 16, 2) := by decide +kernel
theorem dX6_init_28 : decode cX6_init 28 = .ok (.newarray .int, 2) := by decide +kernel
theorem dX6_init_30 : decode cX6_init 30 = .ok (.putfield 22, 3) := by decide +kernel
theorem dX6_init_33 : decode cX6_init 33 = .ok (.aload_n 0, 1) := by decide +kernel
theorem dX6_init_34 : decode cX6_init 34 = .ok (.bipush 16, 2) := by decide +kernel
theorem dX6_init_36 : decode cX6_init 36 = .ok (.newarray .int, 2) := by decide +kernel
theorem dX6_init_38 : decode cX6_init 38 = .ok (.putfield 25, 3) := by decide +kernel
theorem dX6_init_41 : decode cX6_init 41 = .ok (.aload_n 0, 1) := by decide +kernel
theorem dX6_init_42 : decode cX6_init 42 = .ok (.iconst 0, 1) := by decide +kernel
theorem dX6_init_43 : decode cX6_init 43 = .ok (.putfield 28, 3) := by decide +kernel
theorem dX6_init_46 : decode cX6_init 46 = .ok (.aload_n 0, 1) := by decide +kernel
theorem dX6_init_47 : decode cX6_init 47 = .ok (.iconst 0, 1) := by decide +kernel
theorem dX6_init_48 : decode cX6_init 48 = .ok (.putfield 31, 3) := by decide +kernel
theorem dX6_init_51 : decode cX6_init 51 = .ok (.aload_n 0, 1) := by decide +kernel
theorem dX6_init_52 : decode cX6_init 52 = .ok (.iconst 0, 1) := by decide +kernel
theorem dX6_init_53 : decode cX6_init 53 = .ok (.putfield 34, 3) := by decide +kernel
theorem dX6_init_56 : decode cX6_init 56 = .ok (.return_, 1) := by decide +kernel
theorem dX6_empty_0 : decode cX6_empty 0 = .ok (.aload_n 0, 1) := by decide +kernel
theorem dX6_empty_1 : decode cX6_empty 1 = .ok (.iconst 0, 1) := by decide +kernel
theorem dX6_empty_2 : decode cX6_empty 2 = .ok (.putfield 15, 3) := by decide +kernel
theorem dX6_empty_5 : decode cX6_empty 5 = .ok (.return_, 1) := by decide +kernel
theorem dX6_append_0 : decode cX6_append 0 = .ok (.aload_n 0, 1) := by decide +kernel
theorem dX6_append_1 : decode cX6_append 1 = .ok (.getfield 15, 3) := by decide +kernel
theorem dX6_append_4 : decode cX6_append 4 = .ok (.bipush 100, 2) := by decide +kernel
theorem dX6_append_6 : decode cX6_append 6 = .ok (.if_icmp .lt 6, 3) := by decide +kernel
theorem dX6_append_9 : decode cX6_append 9 = .ok (.bipush (-4), 2) := by decide +kernel
theorem dX6_append_11 : decode cX6_append 11 = .ok (.ireturn, 1) := by decide +kernel
theorem dX6_append_12 : decode cX6_append 12 = .ok (.aload_n 0, 1) := by decide +kernel
theorem dX6_append_13 : decode cX6_append 13 = .ok (.getfield 11, 3) := by decide +kernel
theorem dX6_append_16 : decode cX6_append 16 = .ok (.aload_n 0, 1) := by decide +kernel
theorem dX6_append_17 : decode cX6_append 17 = .ok (.getfield 15, 3) := by decide +kernel
theorem dX6_append_20 : decode cX6_append 20 = .ok (.iload_n 1, 1) := by decide +kernel
theorem dX6_append_21 : decode cX6_append 21 = .ok (.iastore, 1) := by decide +kernel
theorem dX6_append_22 : decode cX6_append 22 = .ok (.aload_n 0, 1) := by decide +kernel
theorem dX6_append_23 : decode cX6_append 23 = .ok (.dup, 1) := by decide +kernel
theorem dX6_append_24 : decode cX6_append 24 = .ok (.getfield 15, 3) := by decide +kernel
theorem dX6_append_27 : decode cX6_append 27 = .ok (.iconst 1, 1) := by decide +kernel
theorem dX6_append_28 : decode cX6_append 28 = .ok (.iadd, 1) := by decide +kernel
theorem dX6_append_29 : decode cX6_append 29 = .ok (.putfield 15, 3) := by decide +kernel
theorem dX6_append_32 : decode cX6_append 32 = .ok (.aload_n 0, 1) := by decide +kernel
theorem dX6_append_33 : decode cX6_append 33 = .ok (.getfield 15, 3) := by decide +kernel
theorem dX6_append_36 : decode cX6_append 36 = .ok (.ireturn, 1) := by decide +kernel
theorem dX6_findClauses_0 : decode cX6_findClauses 0 = .ok (.aload_n 0, 1) := by decide +kernel
theorem dX6_findClauses_1 : decode cX6_findClauses 1 = .ok (.iconst 0, 1) := by decide +kernel
theorem dX6_findClauses_2 : decode cX6_findClauses 2 = .ok (.putfield 31, 3) := by decide +kernel
theorem dX6_findClauses_5 : decode cX6_findClauses 5 = .ok (.aload_n 0, 1) := by decide +kernel
theorem dX6_findClauses_6 : decode cX6_findClauses 6 = .ok (.iconst 0, 1) := by decide +kernel
theorem dX6_findClauses_7 : decode cX6_findClauses 7 = .ok (.putfield 34, 3) := by decide +kernel
theorem dX6_findClauses_10 : decode cX6_findClauses 10 = .ok (.aload_n 0, 1) := by decide +kernel
theorem dX6_findClauses_11 : decode cX6_findClauses 11 = .ok (.iconst 0, 1) := by decide +kernel
theorem dX6_findClauses_12 : decode cX6_findClauses 12 = .ok (.putfield 28, 3) := by decide +kernel
theorem dX6_findClauses_15 : decode cX6_findClauses 15 = .ok (.iconst 0, 1) := by decide +kernel
theorem dX6_findClauses_16 : decode cX6_findClauses 16 = .ok (.istore_n 2, 1) := by decide +kernel
theorem dX6_findClauses_17 : decode cX6_findClauses 17 = .ok (.iload_n 2, 1) := by decide +kernel
theorem dX6_findClauses_18 : decode cX6_findClauses 18 = .ok (.bipush 16, 2) := by decide +kernel
theorem dX6_findClauses_20 : decode cX6_findClauses 20 = .ok (.if_icmp .ge 45, 3) := by decide +kernel
theorem dX6_findClauses_23 : decode cX6_findClauses 23 = .ok (.aload_n 0, 1) := by decide +kernel
theorem dX6_findClauses_24 : decode cX6_findClauses 24 = .ok (.iload_n 1, 1) := by decide +kernel
theorem dX6_findClauses_25 : decode cX6_findClauses 25 = .ok (.invokevirtual 37, 3) := by decide +kernel
theorem dX6_findClauses_28 : decode cX6_findClauses 28 = .ok (.aload_n 0, 1) := by decide +kernel
theorem dX6_findClauses_29 : decode cX6_findClauses 29 = .ok (.getfield 34, 3) := by decide +kernel
theorem dX6_findClauses_32 : decode cX6_findClauses 32 = .ok (.ifCond .ne 14, 3) := by decide +kernel
theorem dX6_findClauses_35 : decode cX6_findClauses 35 = .ok (.aload_n 0, 1) := by decide +kernel
theorem dX6_findClauses_36 : decode cX6_findClauses 36 = .ok (.getfield 31, 3) := by decide +kernel
theorem dX6_findClauses_39 : decode cX6_findClauses 39 = .ok (.aload_n 0, 1) := by decide +kernel
theorem dX6_findClauses_40 : decode cX6_findClauses 40 = .ok (.getfield 15, 3) := by decide +kernel
theorem dX6_findClauses_43 : decode cX6_findClauses 43 = .ok (.if_icmp .lt 4, 3) := by decide +kernel
theorem dX6_findClauses_46 : decode cX6_findClauses 46 = .ok (.return_, 1) := by decide +kernel
theorem dX6_findClauses_47 : decode cX6_findClauses 47 = .ok (.aload_n 0, 1) := by decide +kernel
theorem dX6_findClauses_48 : decode cX6_findClauses 48 = .ok (.invokevirtual 41, 3) := by decide +kernel
theorem dX6_findClauses_51 : decode cX6_findClauses 51 = .ok (.aload_n 0, 1) := by decide +kernel
theorem dX6_findClauses_52 : decode cX6_findClauses 52 = .ok (.getfield 34, 3) := by decide +kernel
theorem dX6_findClauses_55 : decode cX6_findClauses 55 = .ok (.ifCond .eq 4, 3) := by decide +kernel
theorem dX6_findClauses_58 : decode cX6_findClauses 58 = .ok (.return_, 1) := by decide +kernel
theorem dX6_findClauses_59 : decode cX6_findClauses 59 = .ok (.iinc 2 1, 3) := by decide +kernel
theorem dX6_findClauses_62 : decode cX6_findClauses 62 = .ok (.goto (-45), 3) := by decide +kernel
theorem dX6_findClauses_65 : decode cX6_findClauses 65 = .ok (.return_, 1) := by decide +kernel
theorem dX6_passBetween_0 : decode cX6_passBetween 0 = .ok (.aload_n 0, 1) := by decide +kernel
theorem dX6_passBetween_1 : decode cX6_passBetween 1 = .ok (.invokevirtual 44, 3) := by decide +kernel
theorem dX6_passBetween_4 : decode cX6_passBetween 4 = .ok (.bipush 59, 2) := by decide +kernel
theorem dX6_passBetween_6 : decode cX6_passBetween 6 = .ok (.if_icmp .ne 25, 3) := by decide +kernel
theorem dX6_passBetween_9 : decode cX6_passBetween 9 = .ok (.aload_n 0, 1) := by decide +kernel
theorem dX6_passBetween_10 : decode cX6_passBetween 10 = .ok (.getfield 28, 3) := by decide +kernel
theorem dX6_passBetween_13 : decode cX6_passBetween 13 = .ok (.bipush 16, 2) := by decide +kernel
theorem dX6_passBetween_15 : decode cX6_passBetween 15 = .ok (.if_icmp .ge 16, 3) := by decide +kernel
theorem dX6_passBetween_18 : decode cX6_passBetween 18 = .ok (.aload_n 0, 1) := by decide +kernel
theorem dX6_passBetween_19 : decode cX6_passBetween 19 = .ok (.dup, 1) := by decide +kernel
theorem dX6_passBetween_20 : decode cX6_passBetween 20 = .ok (.getfield 31, 3) := by decide +kernel
theorem dX6_passBetween_23 : decode cX6_passBetween 23 = .ok (.iconst 1, 1) := by decide +kernel
theorem dX6_passBetween_24 : decode cX6_passBetween 24 = .ok (.iadd, 1) := by decide +kernel
theorem dX6_passBetween_25 : decode cX6_passBetween 25 = .ok (.putfield 31, 3) := by decide +kernel
theorem dX6_passBetween_28 : decode cX6_passBetween 28 = .ok (.goto 8, 3) := by decide +kernel
theorem dX6_passBetween_31 : decode cX6_passBetween 31 = .ok (.aload_n 0, 1) := by decide +kernel
theorem dX6_passBetween_32 : decode cX6_passBetween 32 = .ok (.iconst 1, 1) := by decide +kernel
theorem dX6_passBetween_33 : decode cX6_passBetween 33 = .ok (.putfield 34, 3) := by decide +kernel
theorem dX6_passBetween_36 : decode cX6_passBetween 36 = .ok (.return_, 1) := by decide +kernel
theorem dX6_findClause_0 : decode cX6_findClause 0 = .ok (.aload_n 0, 1) := by decide +kernel
theorem dX6_findClause_1 : decode cX6_findClause 1 = .ok (.bipush 97, 2) := by decide +kernel
theorem dX6_findClause_3 : decode cX6_findClause 3 = .ok (.iload_n 1, 1) := by decide +kernel
theorem dX6_findClause_4 : decode cX6_findClause 4 = .ok (.iconst 2, 1) := by decide +kernel
theorem dX6_findClause_5 : decode cX6_findClause 5 = .ok (.invokevirtual 50, 3) := by decide +kernel
theorem dX6_findClause_8 : decode cX6_findClause 8 = .ok (.istore_n 2, 1) := by decide +kernel
theorem dX6_findClause_9 : decode cX6_findClause 9 = .ok (.aload_n 0, 1) := by decide +kernel
theorem dX6_findClause_10 : decode cX6_findClause 10 = .ok (.getfield 34, 3) := by decide +kernel
theorem dX6_findClause_13 : decode cX6_findClause 13 = .ok (.ifCond .ne 14, 3) := by decide +kernel
theorem dX6_findClause_16 : decode cX6_findClause 16 = .ok (.aload_n 0, 1) := by decide +kernel
theorem dX6_findClause_17 : decode cX6_findClause 17 = .ok (.bipush 48, 2) := by decide +kernel
theorem dX6_findClause_19 : decode cX6_findClause 19 = .ok (.iload_n 1, 1) := by decide +kernel
theorem dX6_findClause_20 : decode cX6_findClause 20 = .ok (.iconst 3, 1) := by decide +kernel
theorem dX6_findClause_21 : decode cX6_findClause 21 = .ok (.invokevirtual 50, 3) := by decide +kernel
theorem dX6_findClause_24 : decode cX6_findClause 24 = .ok (.goto 4, 3) := by decide +kernel
theorem dX6_findClause_27 : decode cX6_findClause 27 = .ok (.iconst 0, 1) := by decide +kernel
theorem dX6_findClause_28 : decode cX6_findClause 28 = .ok (.istore_n 3, 1) := by decide +kernel
theorem dX6_findClause_29 : decode cX6_findClause 29 = .ok (.aload_n 0, 1) := by decide +kernel
theorem dX6_findClause_30 : decode cX6_findClause 30 = .ok (.getfield 34, 3) := by decide +kernel
theorem dX6_findClause_33 : decode cX6_findClause 33 = .ok (.ifCond .ne 10, 3) := by decide +kernel
theorem dX6_findClause_36 : decode cX6_findClause 36 = .ok (.aload_n 0, 1) := by decide +kernel
theorem dX6_findClause_37 : decode cX6_findClause 37 = .ok (.invokevirtual 54, 3) := by decide +kernel
theorem dX6_findClause_40 : decode cX6_findClause 40 = .ok (.goto 4, 3) := by decide +kernel
theorem dX6_findClause_43 : decode cX6_findClause 43 = .ok (.iconst 0, 1) := by decide +kernel
theorem dX6_findClause_44 : decode cX6_findClause 44 = .ok (.istore 4, 2) := by decide +kernel
theorem dX6_findClause_46 : decode cX6_findClause 46 = .ok (.aload_n 0, 1) := by decide +kernel
theorem dX6_findClause_47 : decode cX6_findClause 47 = .ok (.getfield 34, 3) := by decide +kernel
theorem dX6_findClause_50 : decode cX6_findClause 50 = .ok (.ifCond .ne 53, 3) := by decide +kernel
theorem dX6_findClause_53 : decode cX6_findClause 53 = .ok (.aload_n 0, 1) := by decide +kernel
theorem dX6_findClause_54 : decode cX6_findClause 54 = .ok (.getfield 28, 3) := by decide +kernel
theorem dX6_findClause_57 : decode cX6_findClause 57 = .ok (.bipush 16, 2) := by decide +kernel
theorem dX6_findClause_59 : decode cX6_findClause 59 = .ok (.if_icmp .ge 44, 3) := by decide +kernel
theorem dX6_findClause_62 : decode cX6_findClause 62 = .ok (.aload_n 0, 1) := by decide +kernel
theorem dX6_findClause_63 : decode cX6_findClause 63 = .ok (.getfield 19, 3) := by decide +kernel
theorem dX6_findClause_66 : decode cX6_findClause 66 = .ok (.aload_n 0, 1) := by decide +kernel
theorem dX6_findClause_67 : decode cX6_findClause 67 = .ok (.getfield 28, 3) := by decide +kernel
theorem dX6_findClause_70 : decode cX6_findClause 70 = .ok (.iload_n 2, 1) := by decide +kernel
theorem dX6_findClause_71 : decode cX6_findClause 71 = .ok (.iastore, 1) := by decide +kernel
theorem dX6_findClause_72 : decode cX6_findClause 72 = .ok (.aload_n 0, 1) := by decide +kernel
theorem dX6_findClause_73 : decode cX6_findClause 73 = .ok (.getfield 22, 3) := by decide +kernel
theorem dX6_findClause_76 : decode cX6_findClause 76 = .ok (.aload_n 0, 1) := by decide +kernel
theorem dX6_findClause_77 : decode cX6_findClause 77 = .ok (.getfield 28, 3) := by decide +kernel
theorem dX6_findClause_80 : decode cX6_findClause 80 = .ok (.iload_n 3, 1) := by decide +kernel
theorem dX6_findClause_81 : decode cX6_findClause 81 = .ok (.iastore, 1) := by decide +kernel
theorem dX6_findClause_82 : decode cX6_findClause 82 = .ok (.aload_n 0, 1) := by decide +kernel
theorem dX6_findClause_83 : decode cX6_findClause 83 = .ok (.getfield 25, 3) := by decide +kernel
theorem dX6_findClause_86 : decode cX6_findClause 86 = .ok (.aload_n 0, 1) := by decide +kernel
theorem dX6_findClause_87 : decode cX6_findClause 87 = .ok (.getfield 28, 3) := by decide +kernel
theorem dX6_findClause_90 : decode cX6_findClause 90 = .ok (.iload 4, 2) := by decide +kernel
theorem dX6_findClause_92 : decode cX6_findClause 92 = .ok (.iastore, 1) := by decide +kernel
theorem dX6_findClause_93 : decode cX6_findClause 93 = .ok (.aload_n 0, 1) := by decide +kernel
theorem dX6_findClause_94 : decode cX6_findClause 94 = .ok (.dup, 1) := by decide +kernel
theorem dX6_findClause_95 : decode cX6_findClause 95 = .ok (.getfield 28, 3) := by decide +kernel
theorem dX6_findClause_98 : decode cX6_findClause 98 = .ok (.iconst 1, 1) := by decide +kernel
theorem dX6_findClause_99 : decode cX6_findClause 99 = .ok (.iadd, 1) := by decide +kernel
theorem dX6_findClause_100 : decode cX6_findClause 100 = .ok (.putfield 28, 3) := by decide +kernel
theorem dX6_findClause_103 : decode cX6_findClause 103 = .ok (.return_, 1) := by decide +kernel
theorem dX6_findNumber_0 : decode cX6_findNumber 0 = .ok (.aload_n 0, 1) := by decide +kernel
theorem dX6_findNumber_1 : decode cX6_findNumber 1 = .ok (.invokevirtual 44, 3) := by decide +kernel
theorem dX6_findNumber_4 : decode cX6_findNumber 4 = .ok (.iload_n 1, 1) := by decide +kernel
theorem dX6_findNumber_5 : decode cX6_findNumber 5 = .ok (.isub, 1) := by decide +kernel
theorem dX6_findNumber_6 : decode cX6_findNumber 6 = .ok (.istore 4, 2) := by decide +kernel
theorem dX6_findNumber_8 : decode cX6_findNumber 8 = .ok (.iload 4, 2) := by decide +kernel
theorem dX6_findNumber_10 : decode cX6_findNumber 10 = .ok (.ifCond .lt 10, 3) := by decide +kernel
theorem dX6_findNumber_13 : decode cX6_findNumber 13 = .ok (.iload 4, 2) := by decide +kernel
theorem dX6_findNumber_15 : decode cX6_findNumber 15 = .ok (.bipush 8, 2) := by decide +kernel
theorem dX6_findNumber_17 : decode cX6_findNumber 17 = .ok (.if_icmp .lt 11, 3) := by decide +kernel
theorem dX6_findNumber_20 : decode cX6_findNumber 20 = .ok (.aload_n 0, 1) := by decide +kernel
theorem dX6_findNumber_21 : decode cX6_findNumber 21 = .ok (.iconst 1, 1) := by decide +kernel
theorem dX6_findNumber_22 : decode cX6_findNumber 22 = .ok (.putfield 34, 3) := by decide +kernel
theorem dX6_findNumber_25 : decode cX6_findNumber 25 = .ok (.goto 27, 3) := by decide +kernel
theorem dX6_findNumber_28 : decode cX6_findNumber 28 = .ok (.iload 4, 2) := by decide +kernel
theorem dX6_findNumber_30 : decode cX6_findNumber 30 = .ok (.iload_n 2, 1) := by decide +kernel
theorem dX6_findNumber_31 : decode cX6_findNumber 31 = .ok (.if_icmp .lt 11, 3) := by decide +kernel
theorem dX6_findNumber_34 : decode cX6_findNumber 34 = .ok (.aload_n 0, 1) := by decide +kernel
theorem dX6_findNumber_35 : decode cX6_findNumber 35 = .ok (.iload_n 3, 1) := by decide +kernel
theorem dX6_findNumber_36 : decode cX6_findNumber 36 = .ok (.putfield 34, 3) := by decide +kernel
theorem dX6_findNumber_39 : decode cX6_findNumber 39 = .ok (.goto 13, 3) := by decide +kernel
theorem dX6_findNumber_42 : decode cX6_findNumber 42 = .ok (.aload_n 0, 1) := by decide +kernel
theorem dX6_findNumber_43 : decode cX6_findNumber 43 = .ok (.dup, 1) := by decide +kernel
theorem dX6_findNumber_44 : decode cX6_findNumber 44 = .ok (.getfield 31, 3) := by decide +kernel
theorem dX6_findNumber_47 : decode cX6_findNumber 47 = .ok (.iconst 1, 1) := by decide +kernel
theorem dX6_findNumber_48 : decode cX6_findNumber 48 = .ok (.iadd, 1) := by decide +kernel
theorem dX6_findNumber_49 : decode cX6_findNumber 49 = .ok (.putfield 31, 3) := by decide +kernel
theorem dX6_findNumber_52 : decode cX6_findNumber 52 = .ok (.iload 4, 2) := by decide +kernel
theorem dX6_findNumber_54 : decode cX6_findNumber 54 = .ok (.ireturn, 1) := by decide +kernel
theorem dX6_findWorth_0 : decode cX6_findWorth 0 = .ok (.aload_n 0, 1) := by decide +kernel
theorem dX6_findWorth_1 : decode cX6_findWorth 1 = .ok (.invokevirtual 44, 3) := by decide +kernel
theorem dX6_findWorth_4 : decode cX6_findWorth 4 = .ok (.bipush 33, 2) := by decide +kernel
theorem dX6_findWorth_6 : decode cX6_findWorth 6 = .ok (.if_icmp .ne 15, 3) := by decide +kernel
theorem dX6_findWorth_9 : decode cX6_findWorth 9 = .ok (.aload_n 0, 1) := by decide +kernel
theorem dX6_findWorth_10 : decode cX6_findWorth 10 = .ok (.dup, 1) := by decide +kernel
theorem dX6_findWorth_11 : decode cX6_findWorth 11 = .ok (.getfield 31, 3) := by decide +kernel
theorem dX6_findWorth_14 : decode cX6_findWorth 14 = .ok (.iconst 1, 1) := by decide +kernel
theorem dX6_findWorth_15 : decode cX6_findWorth 15 = .ok (.iadd, 1) := by decide +kernel
theorem dX6_findWorth_16 : decode cX6_findWorth 16 = .ok (.putfield 31, 3) := by decide +kernel
theorem dX6_findWorth_19 : decode cX6_findWorth 19 = .ok (.iconst (-1), 1) := by decide +kernel
theorem dX6_findWorth_20 : decode cX6_findWorth 20 = .ok (.ireturn, 1) := by decide +kernel
theorem dX6_findWorth_21 : decode cX6_findWorth 21 = .ok (.aload_n 0, 1) := by decide +kernel
theorem dX6_findWorth_22 : decode cX6_findWorth 22 = .ok (.invokevirtual 44, 3) := by decide +kernel
theorem dX6_findWorth_25 : decode cX6_findWorth 25 = .ok (.bipush 61, 2) := by decide +kernel
theorem dX6_findWorth_27 : decode cX6_findWorth 27 = .ok (.if_icmp .ne 28, 3) := by decide +kernel
theorem dX6_findWorth_30 : decode cX6_findWorth 30 = .ok (.aload_n 0, 1) := by decide +kernel
theorem dX6_findWorth_31 : decode cX6_findWorth 31 = .ok (.dup, 1) := by decide +kernel
theorem dX6_findWorth_32 : decode cX6_findWorth 32 = .ok (.getfield 31, 3) := by decide +kernel
theorem dX6_findWorth_35 : decode cX6_findWorth 35 = .ok (.iconst 1, 1) := by decide +kernel
theorem dX6_findWorth_36 : decode cX6_findWorth 36 = .ok (.iadd, 1) := by decide +kernel
theorem dX6_findWorth_37 : decode cX6_findWorth 37 = .ok (.putfield 31, 3) := by decide +kernel
theorem dX6_findWorth_40 : decode cX6_findWorth 40 = .ok (.aload_n 0, 1) := by decide +kernel
theorem dX6_findWorth_41 : decode cX6_findWorth 41 = .ok (.invokevirtual 44, 3) := by decide +kernel
theorem dX6_findWorth_44 : decode cX6_findWorth 44 = .ok (.invokestatic 57, 3) := by decide +kernel
theorem dX6_findWorth_47 : decode cX6_findWorth 47 = .ok (.ifCond .eq 8, 3) := by decide +kernel
theorem dX6_findWorth_50 : decode cX6_findWorth 50 = .ok (.aload_n 0, 1) := by decide +kernel
theorem dX6_findWorth_51 : decode cX6_findWorth 51 = .ok (.invokevirtual 61, 3) := by decide +kernel
theorem dX6_findWorth_54 : decode cX6_findWorth 54 = .ok (.ireturn, 1) := by decide +kernel
theorem dX6_findWorth_55 : decode cX6_findWorth 55 = .ok (.aload_n 0, 1) := by decide +kernel
theorem dX6_findWorth_56 : decode cX6_findWorth 56 = .ok (.iconst 1, 1) := by decide +kernel
theorem dX6_findWorth_57 : decode cX6_findWorth 57 = .ok (.putfield 34, 3) := by decide +kernel
theorem dX6_findWorth_60 : decode cX6_findWorth 60 = .ok (.iconst (-1), 1) := by decide +kernel
theorem dX6_findWorth_61 : decode cX6_findWorth 61 = .ok (.ireturn, 1) := by decide +kernel
theorem dX6_findDigits_0 : decode cX6_findDigits 0 = .ok (.aload_n 0, 1) := by decide +kernel
theorem dX6_findDigits_1 : decode cX6_findDigits 1 = .ok (.invokevirtual 44, 3) := by decide +kernel
theorem dX6_findDigits_4 : decode cX6_findDigits 4 = .ok (.bipush 48, 2) := by decide +kernel
theorem dX6_findDigits_6 : decode cX6_findDigits 6 = .ok (.isub, 1) := by decide +kernel
theorem dX6_findDigits_7 : decode cX6_findDigits 7 = .ok (.istore_n 1, 1) := by decide +kernel
theorem dX6_findDigits_8 : decode cX6_findDigits 8 = .ok (.aload_n 0, 1) := by decide +kernel
theorem dX6_findDigits_9 : decode cX6_findDigits 9 = .ok (.dup, 1) := by decide +kernel
theorem dX6_findDigits_10 : decode cX6_findDigits 10 = .ok (.getfield 31, 3) := by decide +kernel
theorem dX6_findDigits_13 : decode cX6_findDigits 13 = .ok (.iconst 1, 1) := by decide +kernel
theorem dX6_findDigits_14 : decode cX6_findDigits 14 = .ok (.iadd, 1) := by decide +kernel
theorem dX6_findDigits_15 : decode cX6_findDigits 15 = .ok (.putfield 31, 3) := by decide +kernel
theorem dX6_findDigits_18 : decode cX6_findDigits 18 = .ok (.aload_n 0, 1) := by decide +kernel
theorem dX6_findDigits_19 : decode cX6_findDigits 19 = .ok (.invokevirtual 44, 3) := by decide +kernel
theorem dX6_findDigits_22 : decode cX6_findDigits 22 = .ok (.invokestatic 57, 3) := by decide +kernel
theorem dX6_findDigits_25 : decode cX6_findDigits 25 = .ok (.ifCond .eq 26, 3) := by decide +kernel
theorem dX6_findDigits_28 : decode cX6_findDigits 28 = .ok (.iload_n 1, 1) := by decide +kernel
theorem dX6_findDigits_29 : decode cX6_findDigits 29 = .ok (.bipush 10, 2) := by decide +kernel
theorem dX6_findDigits_31 : decode cX6_findDigits 31 = .ok (.imul, 1) := by decide +kernel
theorem dX6_findDigits_32 : decode cX6_findDigits 32 = .ok (.aload_n 0, 1) := by decide +kernel
theorem dX6_findDigits_33 : decode cX6_findDigits 33 = .ok (.invokevirtual 44, 3) := by decide +kernel
theorem dX6_findDigits_36 : decode cX6_findDigits 36 = .ok (.iadd, 1) := by decide +kernel
theorem dX6_findDigits_37 : decode cX6_findDigits 37 = .ok (.bipush 48, 2) := by decide +kernel
theorem dX6_findDigits_39 : decode cX6_findDigits 39 = .ok (.isub, 1) := by decide +kernel
theorem dX6_findDigits_40 : decode cX6_findDigits 40 = .ok (.istore_n 1, 1) := by decide +kernel
theorem dX6_findDigits_41 : decode cX6_findDigits 41 = .ok (.aload_n 0, 1) := by decide +kernel
theorem dX6_findDigits_42 : decode cX6_findDigits 42 = .ok (.dup, 1) := by decide +kernel
theorem dX6_findDigits_43 : decode cX6_findDigits 43 = .ok (.getfield 31, 3) := by decide +kernel
theorem dX6_findDigits_46 : decode cX6_findDigits 46 = .ok (.iconst 1, 1) := by decide +kernel
theorem dX6_findDigits_47 : decode cX6_findDigits 47 = .ok (.iadd, 1) := by decide +kernel
theorem dX6_findDigits_48 : decode cX6_findDigits 48 = .ok (.putfield 31, 3) := by decide +kernel
theorem dX6_findDigits_51 : decode cX6_findDigits 51 = .ok (.iload_n 1, 1) := by decide +kernel
theorem dX6_findDigits_52 : decode cX6_findDigits 52 = .ok (.ireturn, 1) := by decide +kernel
theorem dX6_isDigit_0 : decode cX6_isDigit 0 = .ok (.iload_n 0, 1) := by decide +kernel
theorem dX6_isDigit_1 : decode cX6_isDigit 1 = .ok (.bipush 48, 2) := by decide +kernel
theorem dX6_isDigit_3 : decode cX6_isDigit 3 = .ok (.if_icmp .lt 13, 3) := by decide +kernel
theorem dX6_isDigit_6 : decode cX6_isDigit 6 = .ok (.iload_n 0, 1) := by decide +kernel
theorem dX6_isDigit_7 : decode cX6_isDigit 7 = .ok (.bipush 57, 2) := by decide +kernel
theorem dX6_isDigit_9 : decode cX6_isDigit 9 = .ok (.if_icmp .gt 7, 3) := by decide +kernel
theorem dX6_isDigit_12 : decode cX6_isDigit 12 = .ok (.iconst 1, 1) := by decide +kernel
theorem dX6_isDigit_13 : decode cX6_isDigit 13 = .ok (.goto 4, 3) := by decide +kernel
theorem dX6_isDigit_16 : decode cX6_isDigit 16 = .ok (.iconst 0, 1) := by decide +kernel
theorem dX6_isDigit_17 : decode cX6_isDigit 17 = .ok (.ireturn, 1) := by decide +kernel
theorem dX6_sign_0 : decode cX6_sign 0 = .ok (.aload_n 0, 1) := by decide +kernel
theorem dX6_sign_1 : decode cX6_sign 1 = .ok (.getfield 31, 3) := by decide +kernel
theorem dX6_sign_4 : decode cX6_sign 4 = .ok (.ifCond .lt 26, 3) := by decide +kernel
theorem dX6_sign_7 : decode cX6_sign 7 = .ok (.aload_n 0, 1) := by decide +kernel
theorem dX6_sign_8 : decode cX6_sign 8 = .ok (.getfield 31, 3) := by decide +kernel
theorem dX6_sign_11 : decode cX6_sign 11 = .ok (.aload_n 0, 1) := by decide +kernel
theorem dX6_sign_12 : decode cX6_sign 12 = .ok (.getfield 15, 3) := by decide +kernel
theorem dX6_sign_15 : decode cX6_sign 15 = .ok (.if_icmp .ge 15, 3) := by decide +kernel
theorem dX6_sign_18 : decode cX6_sign 18 = .ok (.aload_n 0, 1) := by decide +kernel
theorem dX6_sign_19 : decode cX6_sign 19 = .ok (.getfield 11, 3) := by decide +kernel
theorem dX6_sign_22 : decode cX6_sign 22 = .ok (.aload_n 0, 1) := by decide +kernel
theorem dX6_sign_23 : decode cX6_sign 23 = .ok (.getfield 31, 3) := by decide +kernel
theorem dX6_sign_26 : decode cX6_sign 26 = .ok (.iaload, 1) := by decide +kernel
theorem dX6_sign_27 : decode cX6_sign 27 = .ok (.goto 4, 3) := by decide +kernel
theorem dX6_sign_30 : decode cX6_sign 30 = .ok (.iconst (-1), 1) := by decide +kernel
theorem dX6_sign_31 : decode cX6_sign 31 = .ok (.ireturn, 1) := by decide +kernel
theorem dX7_init_0 : decode cX7_init 0 = .ok (.aload_n 0, 1) := by decide +kernel
theorem dX7_init_1 : decode cX7_init 1 = .ok (.invokespecial 3, 3) := by decide +kernel
theorem dX7_init_4 : decode cX7_init 4 = .ok (.aload_n 0, 1) := by decide +kernel
theorem dX7_init_5 : decode cX7_init 5 = .ok (.new 9, 3) := by decide +kernel
theorem dX7_init_8 : decode cX7_init 8 = .ok (.dup, 1) := by decide +kernel
theorem dX7_init_9 : decode cX7_init 9 = .ok (.invokespecial 11, 3) := by decide +kernel
theorem dX7_init_12 : decode cX7_init 12 = .ok (.putfield 12, 3) := by decide +kernel
theorem dX7_init_15 : decode cX7_init 15 = .ok (.aload_n 0, 1) := by decide +kernel
theorem dX7_init_16 : decode cX7_init 16 = .ok (.new 9, 3) := by decide +kernel
theorem dX7_init_19 : decode cX7_init 19 = .ok (.dup, 1) := by decide +kernel
theorem dX7_init_20 : decode cX7_init 20 = .ok (.invokespecial 11, 3) := by decide +kernel
theorem dX7_init_23 : decode cX7_init 23 = .ok (.putfield 18, 3) := by decide +kernel
theorem dX7_init_26 : decode cX7_init 26 = .ok (.aload_n 0, 1) := by decide +kernel
theorem dX7_init_27 : decode cX7_init 27 = .ok (.new 21, 3) := by decide +kernel
theorem dX7_init_30 : decode cX7_init 30 = .ok (.dup, 1) := by decide +kernel
theorem dX7_init_31 : decode cX7_init 31 = .ok (.invokespecial 23, 3) := by decide +kernel
theorem dX7_init_34 : decode cX7_init 34 = .ok (.putfield 24, 3) := by decide +kernel
theorem dX7_init_37 : decode cX7_init 37 = .ok (.aload_n 0, 1) := by decide +kernel
theorem dX7_init_38 : decode cX7_init 38 = .ok (.new 28, 3) := by decide +kernel
theorem dX7_init_41 : decode cX7_init 41 = .ok (.dup, 1) := by decide +kernel
theorem dX7_init_42 : decode cX7_init 42 = .ok (.invokespecial 30, 3) := by decide +kernel
theorem dX7_init_45 : decode cX7_init 45 = .ok (.putfield 31, 3) := by decide +kernel
theorem dX7_init_48 : decode cX7_init 48 = .ok (.aload_n 0, 1) := by decide +kernel
theorem dX7_init_49 : decode cX7_init 49 = .ok (.new 35, 3) := by decide +kernel
theorem dX7_init_52 : decode cX7_init 52 = .ok (.dup, 1) := by decide +kernel
theorem dX7_init_53 : decode cX7_init 53 = .ok (.invokespecial 37, 3) := by decide +kernel
theorem dX7_init_56 : decode cX7_init 56 = .ok (.putfield 38, 3) := by decide +kernel
theorem dX7_init_59 : decode cX7_init 59 = .ok (.aload_n 0, 1) := by decide +kernel
theorem dX7_init_60 : decode cX7_init 60 = .ok (.new 42, 3) := by decide +kernel
theorem dX7_init_63 : decode cX7_init 63 = .ok (.dup, 1) := by decide +kernel
theorem dX7_init_64 : decode cX7_init 64 = .ok (.invokespecial 44, 3) := by decide +kernel
theorem dX7_init_67 : decode cX7_init 67 = .ok (.putfield 45, 3) := by decide +kernel
theorem dX7_init_70 : decode cX7_init 70 = .ok (.aload_n 0, 1) := by decide +kernel
theorem dX7_init_71 : decode cX7_init 71 = .ok (.bipush 6, 2) := by decide +kernel
theorem dX7_init_73 : decode cX7_init 73 = .ok (.anewarray 49, 3) := by decide +kernel
theorem dX7_init_76 : decode cX7_init 76 = .ok (.putfield 51, 3) := by decide +kernel
theorem dX7_init_79 : decode cX7_init 79 = .ok (.aload_n 0, 1) := by decide +kernel
theorem dX7_init_80 : decode cX7_init 80 = .ok (.iconst 0, 1) := by decide +kernel
theorem dX7_init_81 : decode cX7_init 81 = .ok (.putfield 55, 3) := by decide +kernel
theorem dX7_init_84 : decode cX7_init 84 = .ok (.iconst 0, 1) := by decide +kernel
theorem dX7_init_85 : decode cX7_init 85 = .ok (.istore_n 1, 1) := by decide +kernel
theorem dX7_init_86 : decode cX7_init 86 = .ok (.iload_n 1, 1) := by decide +kernel
theorem dX7_init_87 : decode cX7_init 87 = .ok (.bipush 6, 2) := by decide +kernel
theorem dX7_init_89 : decode cX7_init 89 = .ok (.if_icmp .ge 22, 3) := by decide +kernel
theorem dX7_init_92 : decode cX7_init 92 = .ok (.aload_n 0, 1) := by decide +kernel
theorem dX7_init_93 : decode cX7_init 93 = .ok (.getfield 51, 3) := by decide +kernel
theorem dX7_init_96 : decode cX7_init 96 = .ok (.iload_n 1, 1) := by decide +kernel
theorem dX7_init_97 : decode cX7_init 97 = .ok (.new 49, 3) := by decide +kernel
theorem dX7_init_100 : decode cX7_init 100 = .ok (.dup, 1) := by decide +kernel
theorem dX7_init_101 : decode cX7_init 101 = .ok (.invokespecial 59, 3) := by decide +kernel
theorem dX7_init_104 : decode cX7_init 104 = .ok (.aastore, 1) := by decide +kernel
theorem dX7_init_105 : decode cX7_init 105 = .ok (.iinc 1 1, 3) := by decide +kernel
theorem dX7_init_108 : decode cX7_init 108 = .ok (.goto (-22), 3) := by decide +kernel
theorem dX7_init_111 : decode cX7_init 111 = .ok (.return_, 1) := by decide +kernel
theorem dX7_size_0 : decode cX7_size 0 = .ok (.iload_n 1, 1) := by decide +kernel
theorem dX7_size_1 : decode cX7_size 1 = .ok (.iconst 1, 1) := by decide +kernel
theorem dX7_size_2 : decode cX7_size 2 = .ok (.if_icmp .lt 9, 3) := by decide +kernel
theorem dX7_size_5 : decode cX7_size 5 = .ok (.iload_n 1, 1) := by decide +kernel
theorem dX7_size_6 : decode cX7_size 6 = .ok (.bipush 8, 2) := by decide +kernel
theorem dX7_size_8 : decode cX7_size 8 = .ok (.if_icmp .le 6, 3) := by decide +kernel
theorem dX7_size_11 : decode cX7_size 11 = .ok (.bipush (-2), 2) := by decide +kernel
theorem dX7_size_13 : decode cX7_size 13 = .ok (.ireturn, 1) := by decide +kernel
theorem dX7_size_14 : decode cX7_size 14 = .ok (.aload_n 0, 1) := by decide +kernel
theorem dX7_size_15 : decode cX7_size 15 = .ok (.getfield 12, 3) := by decide +kernel
theorem dX7_size_18 : decode cX7_size 18 = .ok (.getfield 60, 3) := by decide +kernel
theorem dX7_size_21 : decode cX7_size 21 = .ok (.getfield 63, 3) := by decide +kernel
theorem dX7_size_24 : decode cX7_size 24 = .ok (.istore_n 2, 1) := by decide +kernel
theorem dX7_size_25 : decode cX7_size 25 = .ok (.aload_n 0, 1) := by decide +kernel
theorem dX7_size_26 : decode cX7_size 26 = .ok (.getfield 12, 3) := by decide +kernel
theorem dX7_size_29 : decode cX7_size 29 = .ok (.getfield 60, 3) := by decide +kernel
theorem dX7_size_32 : decode cX7_size 32 = .ok (.iload_n 1, 1) := by decide +kernel
theorem dX7_size_33 : decode cX7_size 33 = .ok (.invokevirtual 67, 3) := by decide +kernel
theorem dX7_size_36 : decode cX7_size 36 = .ok (.aload_n 0, 1) := by decide +kernel
theorem dX7_size_37 : decode cX7_size 37 = .ok (.getfield 12, 3) := by decide +kernel
theorem dX7_size_40 : decode cX7_size 40 = .ok (.getfield 71, 3) := by decide +kernel
theorem dX7_size_43 : decode cX7_size 43 = .ok (.invokevirtual 75, 3) := by decide +kernel
theorem dX7_size_46 : decode cX7_size 46 = .ok (.pop, 1) := by decide +kernel
theorem dX7_size_47 : decode cX7_size 47 = .ok (.aload_n 0, 1) := by decide +kernel
theorem dX7_size_48 : decode cX7_size 48 = .ok (.getfield 12, 3) := by decide +kernel
theorem dX7_size_51 : decode cX7_size 51 = .ok (.getfield 81, 3) := by decide +kernel
theorem dX7_size_54 : decode cX7_size 54 = .ok (.invokevirtual 75, 3) := by decide +kernel
theorem dX7_size_57 : decode cX7_size 57 = .ok (.pop, 1) := by decide +kernel
theorem dX7_size_58 : decode cX7_size 58 = .ok (.aload_n 0, 1) := by decide +kernel
theorem dX7_size_59 : decode cX7_size 59 = .ok (.getfield 12, 3) := by decide +kernel
theorem dX7_size_62 : decode cX7_size 62 = .ok (.getfield 84, 3) := by decide +kernel
theorem dX7_size_65 : decode cX7_size 65 = .ok (.invokevirtual 75, 3) := by decide +kernel
theorem dX7_size_68 : decode cX7_size 68 = .ok (.pop, 1) := by decide +kernel
theorem dX7_size_69 : decode cX7_size 69 = .ok (.iload_n 2, 1) := by decide +kernel
theorem dX7_size_70 : decode cX7_size 70 = .ok (.ireturn, 1) := by decide +kernel
theorem dX7_worth_0 : decode cX7_worth 0 = .ok (.aload_n 0, 1) := by decide +kernel
theorem dX7_worth_1 : decode cX7_worth 1 = .ok (.getfield 12, 3) := by decide +kernel
theorem dX7_worth_4 : decode cX7_worth 4 = .ok (.getfield 60, 3) := by decide +kernel
theorem dX7_worth_7 : decode cX7_worth 7 = .ok (.iload_n 1, 1) := by decide +kernel
theorem dX7_worth_8 : decode cX7_worth 8 = .ok (.invokevirtual 87, 3) := by decide +kernel
theorem dX7_worth_11 : decode cX7_worth 11 = .ok (.ifCond .eq 17, 3) := by decide +kernel
theorem dX7_worth_14 : decode cX7_worth 14 = .ok (.aload_n 0, 1) := by decide +kernel
theorem dX7_worth_15 : decode cX7_worth 15 = .ok (.getfield 12, 3) := by decide +kernel
theorem dX7_worth_18 : decode cX7_worth 18 = .ok (.getfield 60, 3) := by decide +kernel
theorem dX7_worth_21 : decode cX7_worth 21 = .ok (.iload_n 2, 1) := by decide +kernel
theorem dX7_worth_22 : decode cX7_worth 22 = .ok (.invokevirtual 87, 3) := by decide +kernel
theorem dX7_worth_25 : decode cX7_worth 25 = .ok (.ifCond .ne 5, 3) := by decide +kernel
theorem dX7_worth_28 : decode cX7_worth 28 = .ok (.iconst (-1), 1) := by decide +kernel
theorem dX7_worth_29 : decode cX7_worth 29 = .ok (.ireturn, 1) := by decide +kernel
theorem dX7_worth_30 : decode cX7_worth 30 = .ok (.iload_n 3, 1) := by decide +kernel
theorem dX7_worth_31 : decode cX7_worth 31 = .ok (.iconst (-1), 1) := by decide +kernel
theorem dX7_worth_32 : decode cX7_worth 32 = .ok (.if_icmp .lt 9, 3) := by decide +kernel
theorem dX7_worth_35 : decode cX7_worth 35 = .ok (.iload_n 3, 1) := by decide +kernel
theorem dX7_worth_36 : decode cX7_worth 36 = .ok (.bipush 99, 2) := by decide +kernel
theorem dX7_worth_38 : decode cX7_worth 38 = .ok (.if_icmp .le 6, 3) := by decide +kernel
theorem dX7_worth_41 : decode cX7_worth 41 = .ok (.bipush (-2), 2) := by decide +kernel
theorem dX7_worth_43 : decode cX7_worth 43 = .ok (.ireturn, 1) := by decide +kernel
theorem dX7_worth_44 : decode cX7_worth 44 = .ok (.aload_n 0, 1) := by decide +kernel
theorem dX7_worth_45 : decode cX7_worth 45 = .ok (.iload_n 1, 1) := by decide +kernel
theorem dX7_worth_46 : decode cX7_worth 46 = .ok (.iload_n 2, 1) := by decide +kernel
theorem dX7_worth_47 : decode cX7_worth 47 = .ok (.invokevirtual 91, 3) := by decide +kernel
theorem dX7_worth_50 : decode cX7_worth 50 = .ok (.istore 4, 2) := by decide +kernel
theorem dX7_worth_52 : decode cX7_worth 52 = .ok (.aload_n 0, 1) := by decide +kernel
theorem dX7_worth_53 : decode cX7_worth 53 = .ok (.getfield 12, 3) := by decide +kernel
theorem dX7_worth_56 : decode cX7_worth 56 = .ok (.getfield 60, 3) := by decide +kernel
theorem dX7_worth_59 : decode cX7_worth 59 = .ok (.iload_n 1, 1) := by decide +kernel
theorem dX7_worth_60 : decode cX7_worth 60 = .ok (.iload_n 2, 1) := by decide +kernel
theorem dX7_worth_61 : decode cX7_worth 61 = .ok (.iload_n 3, 1) := by decide +kernel
theorem dX7_worth_62 : decode cX7_worth 62 = .ok (.invokevirtual 95, 3) := by decide +kernel
theorem dX7_worth_65 : decode cX7_worth 65 = .ok (.iload 4, 2) := by decide +kernel
theorem dX7_worth_67 : decode cX7_worth 67 = .ok (.ireturn, 1) := by decide +kernel
theorem dX7_step_0 : decode cX7_step 0 = .ok (.iload_n 1, 1) := by decide +kernel
theorem dX7_step_1 : decode cX7_step 1 = .ok (.invokestatic 99, 3) := by decide +kernel
theorem dX7_step_4 : decode cX7_step 4 = .ok (.ifCond .ne 6, 3) := by decide +kernel
theorem dX7_step_7 : decode cX7_step 7 = .ok (.bipush (-2), 2) := by decide +kernel
theorem dX7_step_9 : decode cX7_step 9 = .ok (.ireturn, 1) := by decide +kernel
theorem dX7_step_10 : decode cX7_step 10 = .ok (.aload_n 0, 1) := by decide +kernel
theorem dX7_step_11 : decode cX7_step 11 = .ok (.getfield 12, 3) := by decide +kernel
theorem dX7_step_14 : decode cX7_step 14 = .ok (.getfield 60, 3) := by decide +kernel
theorem dX7_step_17 : decode cX7_step 17 = .ok (.getfield 102, 3) := by decide +kernel
theorem dX7_step_20 : decode cX7_step 20 = .ok (.istore_n 2, 1) := by decide +kernel
theorem dX7_step_21 : decode cX7_step 21 = .ok (.aload_n 0, 1) := by decide +kernel
theorem dX7_step_22 : decode cX7_step 22 = .ok (.getfield 12, 3) := by decide +kernel
theorem dX7_step_25 : decode cX7_step 25 = .ok (.getfield 60, 3) := by decide +kernel
theorem dX7_step_28 : decode cX7_step 28 = .ok (.iload_n 1, 1) := by decide +kernel
theorem dX7_step_29 : decode cX7_step 29 = .ok (.putfield 102, 3) := by decide +kernel
theorem dX7_step_32 : decode cX7_step 32 = .ok (.iload_n 2, 1) := by decide +kernel
theorem dX7_step_33 : decode cX7_step 33 = .ok (.ireturn, 1) := by decide +kernel
theorem dX7_feed_0 : decode cX7_feed 0 = .ok (.iload_n 1, 1) := by decide +kernel
theorem dX7_feed_1 : decode cX7_feed 1 = .ok (.ifCond .lt 9, 3) := by decide +kernel
theorem dX7_feed_4 : decode cX7_feed 4 = .ok (.iload_n 1, 1) := by decide +kernel
theorem dX7_feed_5 : decode cX7_feed 5 = .ok (.bipush 127, 2) := by decide +kernel
theorem dX7_feed_7 : decode cX7_feed 7 = .ok (.if_icmp .le 6, 3) := by decide +kernel
theorem dX7_feed_10 : decode cX7_feed 10 = .ok (.bipush (-2), 2) := by decide +kernel
theorem dX7_feed_12 : decode cX7_feed 12 = .ok (.ireturn, 1) := by decide +kernel
theorem dX7_feed_13 : decode cX7_feed 13 = .ok (.aload_n 0, 1) := by decide +kernel
theorem dX7_feed_14 : decode cX7_feed 14 = .ok (.getfield 38, 3) := by decide +kernel
theorem dX7_feed_17 : decode cX7_feed 17 = .ok (.iload_n 1, 1) := by decide +kernel
theorem dX7_feed_18 : decode cX7_feed 18 = .ok (.invokevirtual 105, 3) := by decide +kernel
theorem dX7_feed_21 : decode cX7_feed 21 = .ok (.ireturn, 1) := by decide +kernel
theorem dX7_read_0 : decode cX7_read 0 = .ok (.aload_n 0, 1) := by decide +kernel
theorem dX7_read_1 : decode cX7_read 1 = .ok (.getfield 38, 3) := by decide +kernel
theorem dX7_read_4 : decode cX7_read 4 = .ok (.aload_n 0, 1) := by decide +kernel
theorem dX7_read_5 : decode cX7_read 5 = .ok (.getfield 12, 3) := by decide +kernel
theorem dX7_read_8 : decode cX7_read 8 = .ok (.getfield 60, 3) := by decide +kernel
theorem dX7_read_11 : decode cX7_read 11 = .ok (.getfield 63, 3) := by decide +kernel
theorem dX7_read_14 : decode cX7_read 14 = .ok (.invokevirtual 109, 3) := by decide +kernel
theorem dX7_read_17 : decode cX7_read 17 = .ok (.aload_n 0, 1) := by decide +kernel
theorem dX7_read_18 : decode cX7_read 18 = .ok (.getfield 38, 3) := by decide +kernel
theorem dX7_read_21 : decode cX7_read 21 = .ok (.getfield 112, 3) := by decide +kernel
theorem dX7_read_24 : decode cX7_read 24 = .ok (.istore_n 1, 1) := by decide +kernel
theorem dX7_read_25 : decode cX7_read 25 = .ok (.aload_n 0, 1) := by decide +kernel
theorem dX7_read_26 : decode cX7_read 26 = .ok (.getfield 38, 3) := by decide +kernel
theorem dX7_read_29 : decode cX7_read 29 = .ok (.getfield 115, 3) := by decide +kernel
theorem dX7_read_32 : decode cX7_read 32 = .ok (.istore_n 2, 1) := by decide +kernel
theorem dX7_read_33 : decode cX7_read 33 = .ok (.aload_n 0, 1) := by decide +kernel
theorem dX7_read_34 : decode cX7_read 34 = .ok (.getfield 38, 3) := by decide +kernel
theorem dX7_read_37 : decode cX7_read 37 = .ok (.getfield 118, 3) := by decide +kernel
theorem dX7_read_40 : decode cX7_read 40 = .ok (.ifCond .eq 7, 3) := by decide +kernel
theorem dX7_read_43 : decode cX7_read 43 = .ok (.iconst 1, 1) := by decide +kernel
theorem dX7_read_44 : decode cX7_read 44 = .ok (.goto 4, 3) := by decide +kernel
theorem dX7_read_47 : decode cX7_read 47 = .ok (.iconst 0, 1) := by decide +kernel
theorem dX7_read_48 : decode cX7_read 48 = .ok (.istore_n 3, 1) := by decide +kernel
theorem dX7_read_49 : decode cX7_read 49 = .ok (.iload_n 3, 1) := by decide +kernel
theorem dX7_read_50 : decode cX7_read 50 = .ok (.ifCond .eq 26, 3) := by decide +kernel
theorem dX7_read_53 : decode cX7_read 53 = .ok (.aload_n 0, 1) := by decide +kernel
theorem dX7_read_54 : decode cX7_read 54 = .ok (.getfield 45, 3) := by decide +kernel
theorem dX7_read_57 : decode cX7_read 57 = .ok (.aload_n 0, 1) := by decide +kernel
theorem dX7_read_58 : decode cX7_read 58 = .ok (.getfield 38, 3) := by decide +kernel
theorem dX7_read_61 : decode cX7_read 61 = .ok (.getfield 118, 3) := by decide +kernel
theorem dX7_read_64 : decode cX7_read 64 = .ok (.bipush 100, 2) := by decide +kernel
theorem dX7_read_66 : decode cX7_read 66 = .ok (.iload_n 1, 1) := by decide +kernel
theorem dX7_read_67 : decode cX7_read 67 = .ok (.iadd, 1) := by decide +kernel
theorem dX7_read_68 : decode cX7_read 68 = .ok (.bipush (-5), 2) := by decide +kernel
theorem dX7_read_70 : decode cX7_read 70 = .ok (.invokevirtual 121, 3) := by decide +kernel
theorem dX7_read_73 : decode cX7_read 73 = .ok (.goto 58, 3) := by decide +kernel
theorem dX7_read_76 : decode cX7_read 76 = .ok (.iconst 0, 1) := by decide +kernel
theorem dX7_read_77 : decode cX7_read 77 = .ok (.istore 4, 2) := by decide +kernel
theorem dX7_read_79 : decode cX7_read 79 = .ok (.iload 4, 2) := by decide +kernel
theorem dX7_read_81 : decode cX7_read 81 = .ok (.iload_n 1, 1) := by decide +kernel
theorem dX7_read_82 : decode cX7_read 82 = .ok (.if_icmp .ge 49, 3) := by decide +kernel
theorem dX7_read_85 : decode cX7_read 85 = .ok (.aload_n 0, 1) := by decide +kernel
theorem dX7_read_86 : decode cX7_read 86 = .ok (.getfield 12, 3) := by decide +kernel
theorem dX7_read_89 : decode cX7_read 89 = .ok (.getfield 60, 3) := by decide +kernel
theorem dX7_read_92 : decode cX7_read 92 = .ok (.aload_n 0, 1) := by decide +kernel
theorem dX7_read_93 : decode cX7_read 93 = .ok (.getfield 38, 3) := by decide +kernel
theorem dX7_read_96 : decode cX7_read 96 = .ok (.getfield 124, 3) := by decide +kernel
theorem dX7_read_99 : decode cX7_read 99 = .ok (.iload 4, 2) := by decide +kernel
theorem dX7_read_101 : decode cX7_read 101 = .ok (.iaload, 1) := by decide +kernel
theorem dX7_read_102 : decode cX7_read 102 = .ok (.aload_n 0, 1) := by decide +kernel
theorem dX7_read_103 : decode cX7_read 103 = .ok (.getfield 38, 3) := by decide +kernel
theorem dX7_read_106 : decode cX7_read 106 = .ok (.getfield 128, 3) := by decide +kernel
theorem dX7_read_109 : decode cX7_read 109 = .ok (.iload 4, 2) := by decide +kernel
theorem dX7_read_111 : decode cX7_read 111 = .ok (.iaload, 1) := by decide +kernel
theorem dX7_read_112 : decode cX7_read 112 = .ok (.aload_n 0, 1) := by decide +kernel
theorem dX7_read_113 : decode cX7_read 113 = .ok (.getfield 38, 3) := by decide +kernel
theorem dX7_read_116 : decode cX7_read 116 = .ok (.getfield 131, 3) := by decide +kernel
theorem dX7_read_119 : decode cX7_read 119 = .ok (.iload 4, 2) := by decide +kernel
theorem dX7_read_121 : decode cX7_read 121 = .ok (.iaload, 1) := by decide +kernel
theorem dX7_read_122 : decode cX7_read 122 = .ok (.invokevirtual 95, 3) := by decide +kernel
theorem dX7_read_125 : decode cX7_read 125 = .ok (.iinc 4 1, 3) := by decide +kernel
theorem dX7_read_128 : decode cX7_read 128 = .ok (.goto (-49), 3) := by decide +kernel
theorem dX7_read_131 : decode cX7_read 131 = .ok (.aload_n 0, 1) := by decide +kernel
theorem dX7_read_132 : decode cX7_read 132 = .ok (.getfield 38, 3) := by decide +kernel
theorem dX7_read_135 : decode cX7_read 135 = .ok (.invokevirtual 134, 3) := by decide +kernel
theorem dX7_read_138 : decode cX7_read 138 = .ok (.iload_n 3, 1) := by decide +kernel
theorem dX7_read_139 : decode cX7_read 139 = .ok (.ifCond .eq 10, 3) := by decide +kernel
theorem dX7_read_142 : decode cX7_read 142 = .ok (.bipush (-10), 2) := by decide +kernel
theorem dX7_read_144 : decode cX7_read 144 = .ok (.iload_n 2, 1) := by decide +kernel
theorem dX7_read_145 : decode cX7_read 145 = .ok (.isub, 1) := by decide +kernel
theorem dX7_read_146 : decode cX7_read 146 = .ok (.goto 4, 3) := by decide +kernel
theorem dX7_read_149 : decode cX7_read 149 = .ok (.iload_n 1, 1) := by decide +kernel
theorem dX7_read_150 : decode cX7_read 150 = .ok (.ireturn, 1) := by decide +kernel
theorem dX7_of_0 : decode cX7_of 0 = .ok (.aload_n 0, 1) := by decide +kernel
theorem dX7_of_1 : decode cX7_of 1 = .ok (.getfield 12, 3) := by decide +kernel
theorem dX7_of_4 : decode cX7_of 4 = .ok (.getfield 60, 3) := by decide +kernel
theorem dX7_of_7 : decode cX7_of 7 = .ok (.iload_n 1, 1) := by decide +kernel
theorem dX7_of_8 : decode cX7_of 8 = .ok (.invokevirtual 87, 3) := by decide +kernel
theorem dX7_of_11 : decode cX7_of 11 = .ok (.ifCond .eq 17, 3) := by decide +kernel
theorem dX7_of_14 : decode cX7_of 14 = .ok (.aload_n 0, 1) := by decide +kernel
theorem dX7_of_15 : decode cX7_of 15 = .ok (.getfield 12, 3) := by decide +kernel
theorem dX7_of_18 : decode cX7_of 18 = .ok (.getfield 60, 3) := by decide +kernel
theorem dX7_of_21 : decode cX7_of 21 = .ok (.iload_n 2, 1) := by decide +kernel
theorem dX7_of_22 : decode cX7_of 22 = .ok (.invokevirtual 87, 3) := by decide +kernel
theorem dX7_of_25 : decode cX7_of 25 = .ok (.ifCond .ne 7, 3) := by decide +kernel
theorem dX7_of_28 : decode cX7_of 28 = .ok (.ldc2_w 136, 3) := by decide +kernel
theorem dX7_of_31 : decode cX7_of 31 = .ok (.lreturn, 1) := by decide +kernel
theorem dX7_of_32 : decode cX7_of 32 = .ok (.iload_n 3, 1) := by decide +kernel
theorem dX7_of_33 : decode cX7_of 33 = .ok (.ifCond .ne 11, 3) := by decide +kernel
theorem dX7_of_36 : decode cX7_of 36 = .ok (.aload_n 0, 1) := by decide +kernel
theorem dX7_of_37 : decode cX7_of 37 = .ok (.iload_n 1, 1) := by decide +kernel
theorem dX7_of_38 : decode cX7_of 38 = .ok (.iload_n 2, 1) := by decide +kernel
theorem dX7_of_39 : decode cX7_of 39 = .ok (.invokevirtual 91, 3) := by decide +kernel
theorem dX7_of_42 : decode cX7_of 42 = .ok (.i2l, 1) := by decide +kernel
theorem dX7_of_43 : decode cX7_of 43 = .ok (.lreturn, 1) := by decide +kernel
theorem dX7_of_44 : decode cX7_of 44 = .ok (.iload_n 3, 1) := by decide +kernel
theorem dX7_of_45 : decode cX7_of 45 = .ok (.iconst 1, 1) := by decide +kernel
theorem dX7_of_46 : decode cX7_of 46 = .ok (.if_icmp .ne 32, 3) := by decide +kernel
theorem dX7_of_49 : decode cX7_of 49 = .ok (.aload_n 0, 1) := by decide +kernel
theorem dX7_of_50 : decode cX7_of 50 = .ok (.getfield 12, 3) := by decide +kernel
theorem dX7_of_53 : decode cX7_of 53 = .ok (.getfield 60, 3) := by decide +kernel
theorem dX7_of_56 : decode cX7_of 56 = .ok (.iload_n 1, 1) := by decide +kernel
theorem dX7_of_57 : decode cX7_of 57 = .ok (.iload_n 2, 1) := by decide +kernel
theorem dX7_of_58 : decode cX7_of 58 = .ok (.invokevirtual 138, 3) := by decide +kernel
theorem dX7_of_61 : decode cX7_of 61 = .ok (.ifCond .eq 17, 3) := by decide +kernel
theorem dX7_of_64 : decode cX7_of 64 = .ok (.aload_n 0, 1) := by decide +kernel
theorem dX7_of_65 : decode cX7_of 65 = .ok (.getfield 12, 3) := by decide +kernel
theorem dX7_of_68 : decode cX7_of 68 = .ok (.getfield 60, 3) := by decide +kernel
theorem dX7_of_71 : decode cX7_of 71 = .ok (.iload_n 1, 1) := by decide +kernel
theorem dX7_of_72 : decode cX7_of 72 = .ok (.iload_n 2, 1) := by decide +kernel
theorem dX7_of_73 : decode cX7_of 73 = .ok (.invokevirtual 142, 3) := by decide +kernel
theorem dX7_of_76 : decode cX7_of 76 = .ok (.i2l, 1) := by decide +kernel
theorem dX7_of_77 : decode cX7_of 77 = .ok (.lreturn, 1) := by decide +kernel
theorem dX7_of_78 : decode cX7_of 78 = .ok (.ldc2_w 136, 3) := by decide +kernel
theorem dX7_of_81 : decode cX7_of 81 = .ok (.lreturn, 1) := by decide +kernel
theorem dX7_person_0 : decode cX7_person 0 = .ok (.aload_n 0, 1) := by decide +kernel
theorem dX7_person_1 : decode cX7_person 1 = .ok (.getfield 12, 3) := by decide +kernel
theorem dX7_person_4 : decode cX7_person 4 = .ok (.getfield 60, 3) := by decide +kernel
theorem dX7_person_7 : decode cX7_person 7 = .ok (.iload_n 1, 1) := by decide +kernel
theorem dX7_person_8 : decode cX7_person 8 = .ok (.invokevirtual 87, 3) := by decide +kernel
theorem dX7_person_11 : decode cX7_person 11 = .ok (.ifCond .ne 5, 3) := by decide +kernel
theorem dX7_person_14 : decode cX7_person 14 = .ok (.iconst (-1), 1) := by decide +kernel
theorem dX7_person_15 : decode cX7_person 15 = .ok (.ireturn, 1) := by decide +kernel
theorem dX7_person_16 : decode cX7_person 16 = .ok (.iload_n 2, 1) := by decide +kernel
theorem dX7_person_17 : decode cX7_person 17 = .ok (.tableswitch 89 0 3 #[31, 47, 62, 74], 31) := by decide +kernel
theorem dX7_person_48 : decode cX7_person 48 = .ok (.aload_n 0, 1) := by decide +kernel
theorem dX7_person_49 : decode cX7_person 49 = .ok (.getfield 12, 3) := by decide +kernel
theorem dX7_person_52 : decode cX7_person 52 = .ok (.getfield 60, 3) := by decide +kernel
theorem dX7_person_55 : decode cX7_person 55 = .ok (.getfield 145, 3) := by decide +kernel
theorem dX7_person_58 : decode cX7_person 58 = .ok (.iload_n 1, 1) := by decide +kernel
theorem dX7_person_59 : decode cX7_person 59 = .ok (.iaload, 1) := by decide +kernel
theorem dX7_person_60 : decode cX7_person 60 = .ok (.invokestatic 148, 3) := by decide +kernel
theorem dX7_person_63 : decode cX7_person 63 = .ok (.ireturn, 1) := by decide +kernel
theorem dX7_person_64 : decode cX7_person 64 = .ok (.aload_n 0, 1) := by decide +kernel
theorem dX7_person_65 : decode cX7_person 65 = .ok (.getfield 12, 3) := by decide +kernel
theorem dX7_person_68 : decode cX7_person 68 = .ok (.getfield 60, 3) := by decide +kernel
theorem dX7_person_71 : decode cX7_person 71 = .ok (.iload_n 1, 1) := by decide +kernel
theorem dX7_person_72 : decode cX7_person 72 = .ok (.invokevirtual 151, 3) := by decide +kernel
theorem dX7_person_75 : decode cX7_person 75 = .ok (.invokestatic 148, 3) := by decide +kernel
theorem dX7_person_78 : decode cX7_person 78 = .ok (.ireturn, 1) := by decide +kernel
theorem dX7_person_79 : decode cX7_person 79 = .ok (.aload_n 0, 1) := by decide +kernel
theorem dX7_person_80 : decode cX7_person 80 = .ok (.getfield 12, 3) := by decide +kernel
theorem dX7_person_83 : decode cX7_person 83 = .ok (.getfield 60, 3) := by decide +kernel
theorem dX7_person_86 : decode cX7_person 86 = .ok (.iload_n 1, 1) := by decide +kernel
theorem dX7_person_87 : decode cX7_person 87 = .ok (.invokevirtual 154, 3) := by decide +kernel
theorem dX7_person_90 : decode cX7_person 90 = .ok (.ireturn, 1) := by decide +kernel
theorem dX7_person_91 : decode cX7_person 91 = .ok (.aload_n 0, 1) := by decide +kernel
theorem dX7_person_92 : decode cX7_person 92 = .ok (.getfield 12, 3) := by decide +kernel
theorem dX7_person_95 : decode cX7_person 95 = .ok (.getfield 60, 3) := by decide +kernel
theorem dX7_person_98 : decode cX7_person 98 = .ok (.iload_n 1, 1) := by decide +kernel
theorem dX7_person_99 : decode cX7_person 99 = .ok (.invokevirtual 157, 3) := by decide +kernel
theorem dX7_person_102 : decode cX7_person 102 = .ok (.invokestatic 160, 3) := by decide +kernel
theorem dX7_person_105 : decode cX7_person 105 = .ok (.ireturn, 1) := by decide +kernel
theorem dX7_person_106 : decode cX7_person 106 = .ok (.iconst (-1), 1) := by decide +kernel
theorem dX7_person_107 : decode cX7_person 107 = .ok (.ireturn, 1) := by decide +kernel
theorem dX7_thing_0 : decode cX7_thing 0 = .ok (.aload_n 0, 1) := by decide +kernel
theorem dX7_thing_1 : decode cX7_thing 1 = .ok (.getfield 12, 3) := by decide +kernel
theorem dX7_thing_4 : decode cX7_thing 4 = .ok (.getfield 60, 3) := by decide +kernel
theorem dX7_thing_7 : decode cX7_thing 7 = .ok (.iload_n 1, 1) := by decide +kernel
theorem dX7_thing_8 : decode cX7_thing 8 = .ok (.invokevirtual 87, 3) := by decide +kernel
theorem dX7_thing_11 : decode cX7_thing 11 = .ok (.ifCond .ne 5, 3) := by decide +kernel
theorem dX7_thing_14 : decode cX7_thing 14 = .ok (.iconst (-1), 1) := by decide +kernel
theorem dX7_thing_15 : decode cX7_thing 15 = .ok (.ireturn, 1) := by decide +kernel
theorem dX7_thing_16 : decode cX7_thing 16 = .ok (.iload_n 2, 1) := by decide +kernel
theorem dX7_thing_17 : decode cX7_thing 17 = .ok (.tableswitch 68 0 2 #[27, 40, 56], 27) := by decide +kernel
theorem dX7_thing_44 : decode cX7_thing 44 = .ok (.aload_n 0, 1) := by decide +kernel
theorem dX7_thing_45 : decode cX7_thing 45 = .ok (.getfield 12, 3) := by decide +kernel
theorem dX7_thing_48 : decode cX7_thing 48 = .ok (.getfield 60, 3) := by decide +kernel
theorem dX7_thing_51 : decode cX7_thing 51 = .ok (.getfield 165, 3) := by decide +kernel
theorem dX7_thing_54 : decode cX7_thing 54 = .ok (.iload_n 1, 1) := by decide +kernel
theorem dX7_thing_55 : decode cX7_thing 55 = .ok (.iaload, 1) := by decide +kernel
theorem dX7_thing_56 : decode cX7_thing 56 = .ok (.ireturn, 1) := by decide +kernel
theorem dX7_thing_57 : decode cX7_thing 57 = .ok (.aload_n 0, 1) := by decide +kernel
theorem dX7_thing_58 : decode cX7_thing 58 = .ok (.getfield 12, 3) := by decide +kernel
theorem dX7_thing_61 : decode cX7_thing 61 = .ok (.getfield 60, 3) := by decide +kernel
theorem dX7_thing_64 : decode cX7_thing 64 = .ok (.getfield 168, 3) := by decide +kernel
theorem dX7_thing_67 : decode cX7_thing 67 = .ok (.iload_n 1, 1) := by decide +kernel
theorem dX7_thing_68 : decode cX7_thing 68 = .ok (.iaload, 1) := by decide +kernel
theorem dX7_thing_69 : decode cX7_thing 69 = .ok (.invokestatic 148, 3) := by decide +kernel
theorem dX7_thing_72 : decode cX7_thing 72 = .ok (.ireturn, 1) := by decide +kernel
theorem dX7_thing_73 : decode cX7_thing 73 = .ok (.aload_n 0, 1) := by decide +kernel
theorem dX7_thing_74 : decode cX7_thing 74 = .ok (.getfield 12, 3) := by decide +kernel
theorem dX7_thing_77 : decode cX7_thing 77 = .ok (.getfield 60, 3) := by decide +kernel
theorem dX7_thing_80 : decode cX7_thing 80 = .ok (.iload_n 1, 1) := by decide +kernel
theorem dX7_thing_81 : decode cX7_thing 81 = .ok (.invokevirtual 171, 3) := by decide +kernel
theorem dX7_thing_84 : decode cX7_thing 84 = .ok (.ireturn, 1) := by decide +kernel
theorem dX7_thing_85 : decode cX7_thing 85 = .ok (.iconst (-1), 1) := by decide +kernel
theorem dX7_thing_86 : decode cX7_thing 86 = .ok (.ireturn, 1) := by decide +kernel
theorem dX7_bid_0 : decode cX7_bid 0 = .ok (.aload_n 0, 1) := by decide +kernel
theorem dX7_bid_1 : decode cX7_bid 1 = .ok (.getfield 12, 3) := by decide +kernel
theorem dX7_bid_4 : decode cX7_bid 4 = .ok (.getfield 60, 3) := by decide +kernel
theorem dX7_bid_7 : decode cX7_bid 7 = .ok (.invokevirtual 174, 3) := by decide +kernel
theorem dX7_bid_10 : decode cX7_bid 10 = .ok (.invokestatic 148, 3) := by decide +kernel
theorem dX7_bid_13 : decode cX7_bid 13 = .ok (.ireturn, 1) := by decide +kernel
theorem dX7_auction_0 : decode cX7_auction 0 = .ok (.aload_n 0, 1) := by decide +kernel
theorem dX7_auction_1 : decode cX7_auction 1 = .ok (.aload_n 0, 1) := by decide +kernel
theorem dX7_auction_2 : decode cX7_auction 2 = .ok (.getfield 12, 3) := by decide +kernel
theorem dX7_auction_5 : decode cX7_auction 5 = .ok (.getfield 60, 3) := by decide +kernel
theorem dX7_auction_8 : decode cX7_auction 8 = .ok (.invokevirtual 177, 3) := by decide +kernel
theorem dX7_auction_11 : decode cX7_auction 11 = .ok (.invokevirtual 180, 3) := by decide +kernel
theorem dX7_auction_14 : decode cX7_auction 14 = .ok (.ireturn, 1) := by decide +kernel
theorem dX7_scaled_0 : decode cX7_scaled 0 = .ok (.aload_n 0, 1) := by decide +kernel
theorem dX7_scaled_1 : decode cX7_scaled 1 = .ok (.aload_n 0, 1) := by decide +kernel
theorem dX7_scaled_2 : decode cX7_scaled 2 = .ok (.getfield 12, 3) := by decide +kernel
theorem dX7_scaled_5 : decode cX7_scaled 5 = .ok (.getfield 60, 3) := by decide +kernel
theorem dX7_scaled_8 : decode cX7_scaled 8 = .ok (.invokevirtual 183, 3) := by decide +kernel
theorem dX7_scaled_11 : decode cX7_scaled 11 = .ok (.invokevirtual 180, 3) := by decide +kernel
theorem dX7_scaled_14 : decode cX7_scaled 14 = .ok (.ireturn, 1) := by decide +kernel
theorem dX7_fresh_0 : decode cX7_fresh 0 = .ok (.aload_n 0, 1) := by decide +kernel
theorem dX7_fresh_1 : decode cX7_fresh 1 = .ok (.getfield 12, 3) := by decide +kernel
theorem dX7_fresh_4 : decode cX7_fresh 4 = .ok (.getfield 60, 3) := by decide +kernel
theorem dX7_fresh_7 : decode cX7_fresh 7 = .ok (.invokevirtual 186, 3) := by decide +kernel
theorem dX7_fresh_10 : decode cX7_fresh 10 = .ok (.istore_n 1, 1) := by decide +kernel
theorem dX7_fresh_11 : decode cX7_fresh 11 = .ok (.aload_n 0, 1) := by decide +kernel
theorem dX7_fresh_12 : decode cX7_fresh 12 = .ok (.getfield 12, 3) := by decide +kernel
theorem dX7_fresh_15 : decode cX7_fresh 15 = .ok (.getfield 60, 3) := by decide +kernel
theorem dX7_fresh_18 : decode cX7_fresh 18 = .ok (.invokevirtual 189, 3) := by decide +kernel
theorem dX7_fresh_21 : decode cX7_fresh 21 = .ok (.iload_n 1, 1) := by decide +kernel
theorem dX7_fresh_22 : decode cX7_fresh 22 = .ok (.ireturn, 1) := by decide +kernel
theorem dX7_leave_0 : decode cX7_leave 0 = .ok (.aload_n 0, 1) := by decide +kernel
theorem dX7_leave_1 : decode cX7_leave 1 = .ok (.getfield 12, 3) := by decide +kernel
theorem dX7_leave_4 : decode cX7_leave 4 = .ok (.getfield 60, 3) := by decide +kernel
theorem dX7_leave_7 : decode cX7_leave 7 = .ok (.iload_n 1, 1) := by decide +kernel
theorem dX7_leave_8 : decode cX7_leave 8 = .ok (.invokevirtual 87, 3) := by decide +kernel
theorem dX7_leave_11 : decode cX7_leave 11 = .ok (.ifCond .ne 5, 3) := by decide +kernel
theorem dX7_leave_14 : decode cX7_leave 14 = .ok (.iconst (-1), 1) := by decide +kernel
theorem dX7_leave_15 : decode cX7_leave 15 = .ok (.ireturn, 1) := by decide +kernel
theorem dX7_leave_16 : decode cX7_leave 16 = .ok (.aload_n 0, 1) := by decide +kernel
theorem dX7_leave_17 : decode cX7_leave 17 = .ok (.getfield 12, 3) := by decide +kernel
theorem dX7_leave_20 : decode cX7_leave 20 = .ok (.getfield 60, 3) := by decide +kernel
theorem dX7_leave_23 : decode cX7_leave 23 = .ok (.getfield 145, 3) := by decide +kernel
theorem dX7_leave_26 : decode cX7_leave 26 = .ok (.iload_n 1, 1) := by decide +kernel
theorem dX7_leave_27 : decode cX7_leave 27 = .ok (.iaload, 1) := by decide +kernel
theorem dX7_leave_28 : decode cX7_leave 28 = .ok (.istore_n 2, 1) := by decide +kernel
theorem dX7_leave_29 : decode cX7_leave 29 = .ok (.iload_n 2, 1) := by decide +kernel
theorem dX7_leave_30 : decode cX7_leave 30 = .ok (.ifCond .ge 6, 3) := by decide +kernel
theorem dX7_leave_33 : decode cX7_leave 33 = .ok (.bipush (-3), 2) := by decide +kernel
theorem dX7_leave_35 : decode cX7_leave 35 = .ok (.ireturn, 1) := by decide +kernel
theorem dX7_leave_36 : decode cX7_leave 36 = .ok (.aload_n 0, 1) := by decide +kernel
theorem dX7_leave_37 : decode cX7_leave 37 = .ok (.getfield 12, 3) := by decide +kernel
theorem dX7_leave_40 : decode cX7_leave 40 = .ok (.getfield 60, 3) := by decide +kernel
theorem dX7_leave_43 : decode cX7_leave 43 = .ok (.iload_n 1, 1) := by decide +kernel
theorem dX7_leave_44 : decode cX7_leave 44 = .ok (.invokevirtual 192, 3) := by decide +kernel
theorem dX7_leave_47 : decode cX7_leave 47 = .ok (.iload_n 2, 1) := by decide +kernel
theorem dX7_leave_48 : decode cX7_leave 48 = .ok (.ireturn, 1) := by decide +kernel
theorem dX7_told_0 : decode cX7_told 0 = .ok (.iload_n 1, 1) := by decide +kernel
theorem dX7_told_1 : decode cX7_told 1 = .ok (.tableswitch 184 0 9 #[55, 66, 77, 88, 103, 122, 137, 151, 162, 173], 55) := by decide +kernel
theorem dX7_told_56 : decode cX7_told 56 = .ok (.aload_n 0, 1) := by decide +kernel
theorem dX7_told_57 : decode cX7_told 57 = .ok (.getfield 12, 3) := by decide +kernel
theorem dX7_told_60 : decode cX7_told 60 = .ok (.getfield 60, 3) := by decide +kernel
theorem dX7_told_63 : decode cX7_told 63 = .ok (.getfield 63, 3) := by decide +kernel
theorem dX7_told_66 : decode cX7_told 66 = .ok (.ireturn, 1) := by decide +kernel
theorem dX7_told_67 : decode cX7_told 67 = .ok (.aload_n 0, 1) := by decide +kernel
theorem dX7_told_68 : decode cX7_told 68 = .ok (.getfield 12, 3) := by decide +kernel
theorem dX7_told_71 : decode cX7_told 71 = .ok (.getfield 60, 3) := by decide +kernel
theorem dX7_told_74 : decode cX7_told 74 = .ok (.getfield 102, 3) := by decide +kernel
theorem dX7_told_77 : decode cX7_told 77 = .ok (.ireturn, 1) := by decide +kernel
theorem dX7_told_78 : decode cX7_told 78 = .ok (.aload_n 0, 1) := by decide +kernel
theorem dX7_told_79 : decode cX7_told 79 = .ok (.getfield 12, 3) := by decide +kernel
theorem dX7_told_82 : decode cX7_told 82 = .ok (.getfield 60, 3) := by decide +kernel
theorem dX7_told_85 : decode cX7_told 85 = .ok (.invokevirtual 195, 3) := by decide +kernel
theorem dX7_told_88 : decode cX7_told 88 = .ok (.ireturn, 1) := by decide +kernel
theorem dX7_told_89 : decode cX7_told 89 = .ok (.aload_n 0, 1) := by decide +kernel
theorem dX7_told_90 : decode cX7_told 90 = .ok (.getfield 31, 3) := by decide +kernel
theorem dX7_told_93 : decode cX7_told 93 = .ok (.aload_n 0, 1) := by decide +kernel
theorem dX7_told_94 : decode cX7_told 94 = .ok (.getfield 12, 3) := by decide +kernel
theorem dX7_told_97 : decode cX7_told 97 = .ok (.getfield 60, 3) := by decide +kernel
theorem dX7_told_100 : decode cX7_told 100 = .ok (.invokevirtual 198, 3) := by decide +kernel
theorem dX7_told_103 : decode cX7_told 103 = .ok (.ireturn, 1) := by decide +kernel
theorem dX7_told_104 : decode cX7_told 104 = .ok (.aload_n 0, 1) := by decide +kernel
theorem dX7_told_105 : decode cX7_told 105 = .ok (.getfield 12, 3) := by decide +kernel
theorem dX7_told_108 : decode cX7_told 108 = .ok (.getfield 60, 3) := by decide +kernel
theorem dX7_told_111 : decode cX7_told 111 = .ok (.invokevirtual 202, 3) := by decide +kernel
theorem dX7_told_114 : decode cX7_told 114 = .ok (.ifCond .eq 7, 3) := by decide +kernel
theorem dX7_told_117 : decode cX7_told 117 = .ok (.iconst 1, 1) := by decide +kernel
theorem dX7_told_118 : decode cX7_told 118 = .ok (.goto 4, 3) := by decide +kernel
theorem dX7_told_121 : decode cX7_told 121 = .ok (.iconst 0, 1) := by decide +kernel
theorem dX7_told_122 : decode cX7_told 122 = .ok (.ireturn, 1) := by decide +kernel
theorem dX7_told_123 : decode cX7_told 123 = .ok (.aload_n 0, 1) := by decide +kernel
theorem dX7_told_124 : decode cX7_told 124 = .ok (.getfield 31, 3) := by decide +kernel
theorem dX7_told_127 : decode cX7_told 127 = .ok (.aload_n 0, 1) := by decide +kernel
theorem dX7_told_128 : decode cX7_told 128 = .ok (.getfield 12, 3) := by decide +kernel
theorem dX7_told_131 : decode cX7_told 131 = .ok (.getfield 60, 3) := by decide +kernel
theorem dX7_told_134 : decode cX7_told 134 = .ok (.invokevirtual 206, 3) := by decide +kernel
theorem dX7_told_137 : decode cX7_told 137 = .ok (.ireturn, 1) := by decide +kernel
theorem dX7_told_138 : decode cX7_told 138 = .ok (.aload_n 0, 1) := by decide +kernel
theorem dX7_told_139 : decode cX7_told 139 = .ok (.getfield 12, 3) := by decide +kernel
theorem dX7_told_142 : decode cX7_told 142 = .ok (.getfield 60, 3) := by decide +kernel
theorem dX7_told_145 : decode cX7_told 145 = .ok (.invokevirtual 209, 3) := by decide +kernel
theorem dX7_told_148 : decode cX7_told 148 = .ok (.invokestatic 148, 3) := by decide +kernel
theorem dX7_told_151 : decode cX7_told 151 = .ok (.ireturn, 1) := by decide +kernel
theorem dX7_told_152 : decode cX7_told 152 = .ok (.aload_n 0, 1) := by decide +kernel
theorem dX7_told_153 : decode cX7_told 153 = .ok (.getfield 12, 3) := by decide +kernel
theorem dX7_told_156 : decode cX7_told 156 = .ok (.getfield 60, 3) := by decide +kernel
theorem dX7_told_159 : decode cX7_told 159 = .ok (.invokevirtual 212, 3) := by decide +kernel
theorem dX7_told_162 : decode cX7_told 162 = .ok (.ireturn, 1) := by decide +kernel
theorem dX7_told_163 : decode cX7_told 163 = .ok (.aload_n 0, 1) := by decide +kernel
theorem dX7_told_164 : decode cX7_told 164 = .ok (.getfield 12, 3) := by decide +kernel
theorem dX7_told_167 : decode cX7_told 167 = .ok (.getfield 60, 3) := by decide +kernel
theorem dX7_told_170 : decode cX7_told 170 = .ok (.invokevirtual 186, 3) := by decide +kernel
theorem dX7_told_173 : decode cX7_told 173 = .ok (.ireturn, 1) := by decide +kernel
theorem dX7_told_174 : decode cX7_told 174 = .ok (.aload_n 0, 1) := by decide +kernel
theorem dX7_told_175 : decode cX7_told 175 = .ok (.getfield 12, 3) := by decide +kernel
theorem dX7_told_178 : decode cX7_told 178 = .ok (.getfield 60, 3) := by decide +kernel
theorem dX7_told_181 : decode cX7_told 181 = .ok (.invokevirtual 215, 3) := by decide +kernel
theorem dX7_told_184 : decode cX7_told 184 = .ok (.ireturn, 1) := by decide +kernel
theorem dX7_told_185 : decode cX7_told 185 = .ok (.iconst (-1), 1) := by decide +kernel
theorem dX7_told_186 : decode cX7_told 186 = .ok (.ireturn, 1) := by decide +kernel
theorem dX7_wrong_0 : decode cX7_wrong 0 = .ok (.iload_n 1, 1) := by decide +kernel
theorem dX7_wrong_1 : decode cX7_wrong 1 = .ok (.tableswitch 51 0 2 #[27, 35, 43], 27) := by decide +kernel
theorem dX7_wrong_28 : decode cX7_wrong 28 = .ok (.aload_n 0, 1) := by decide +kernel
theorem dX7_wrong_29 : decode cX7_wrong 29 = .ok (.getfield 45, 3) := by decide +kernel
theorem dX7_wrong_32 : decode cX7_wrong 32 = .ok (.getfield 218, 3) := by decide +kernel
theorem dX7_wrong_35 : decode cX7_wrong 35 = .ok (.ireturn, 1) := by decide +kernel
theorem dX7_wrong_36 : decode cX7_wrong 36 = .ok (.aload_n 0, 1) := by decide +kernel
theorem dX7_wrong_37 : decode cX7_wrong 37 = .ok (.getfield 45, 3) := by decide +kernel
theorem dX7_wrong_40 : decode cX7_wrong 40 = .ok (.getfield 219, 3) := by decide +kernel
theorem dX7_wrong_43 : decode cX7_wrong 43 = .ok (.ireturn, 1) := by decide +kernel
theorem dX7_wrong_44 : decode cX7_wrong 44 = .ok (.aload_n 0, 1) := by decide +kernel
theorem dX7_wrong_45 : decode cX7_wrong 45 = .ok (.getfield 45, 3) := by decide +kernel
theorem dX7_wrong_48 : decode cX7_wrong 48 = .ok (.getfield 222, 3) := by decide +kernel
theorem dX7_wrong_51 : decode cX7_wrong 51 = .ok (.ireturn, 1) := by decide +kernel
theorem dX7_wrong_52 : decode cX7_wrong 52 = .ok (.iload_n 1, 1) := by decide +kernel
theorem dX7_wrong_53 : decode cX7_wrong 53 = .ok (.ifCond .ge 7, 3) := by decide +kernel
theorem dX7_wrong_56 : decode cX7_wrong 56 = .ok (.iconst (-1), 1) := by decide +kernel
theorem dX7_wrong_57 : decode cX7_wrong 57 = .ok (.goto 5, 3) := by decide +kernel
theorem dX7_wrong_60 : decode cX7_wrong 60 = .ok (.bipush (-5), 2) := by decide +kernel
theorem dX7_wrong_62 : decode cX7_wrong 62 = .ok (.ireturn, 1) := by decide +kernel
theorem dX7_see_0 : decode cX7_see 0 = .ok (.iload_n 1, 1) := by decide +kernel
theorem dX7_see_1 : decode cX7_see 1 = .ok (.iconst (-1), 1) := by decide +kernel
theorem dX7_see_2 : decode cX7_see 2 = .ok (.if_icmp .ne 14, 3) := by decide +kernel
theorem dX7_see_5 : decode cX7_see 5 = .ok (.aload_n 0, 1) := by decide +kernel
theorem dX7_see_6 : decode cX7_see 6 = .ok (.getfield 12, 3) := by decide +kernel
theorem dX7_see_9 : decode cX7_see 9 = .ok (.getfield 71, 3) := by decide +kernel
theorem dX7_see_12 : decode cX7_see 12 = .ok (.invokevirtual 75, 3) := by decide +kernel
theorem dX7_see_15 : decode cX7_see 15 = .ok (.ireturn, 1) := by decide +kernel
theorem dX7_see_16 : decode cX7_see 16 = .ok (.aload_n 0, 1) := by decide +kernel
theorem dX7_see_17 : decode cX7_see 17 = .ok (.getfield 12, 3) := by decide +kernel
theorem dX7_see_20 : decode cX7_see 20 = .ok (.getfield 60, 3) := by decide +kernel
theorem dX7_see_23 : decode cX7_see 23 = .ok (.iload_n 1, 1) := by decide +kernel
theorem dX7_see_24 : decode cX7_see 24 = .ok (.invokevirtual 87, 3) := by decide +kernel
theorem dX7_see_27 : decode cX7_see 27 = .ok (.ifCond .eq 17, 3) := by decide +kernel
theorem dX7_see_30 : decode cX7_see 30 = .ok (.aload_n 0, 1) := by decide +kernel
theorem dX7_see_31 : decode cX7_see 31 = .ok (.getfield 12, 3) := by decide +kernel
theorem dX7_see_34 : decode cX7_see 34 = .ok (.getfield 60, 3) := by decide +kernel
theorem dX7_see_37 : decode cX7_see 37 = .ok (.iload_n 2, 1) := by decide +kernel
theorem dX7_see_38 : decode cX7_see 38 = .ok (.invokevirtual 87, 3) := by decide +kernel
theorem dX7_see_41 : decode cX7_see 41 = .ok (.ifCond .ne 5, 3) := by decide +kernel
theorem dX7_see_44 : decode cX7_see 44 = .ok (.iconst (-1), 1) := by decide +kernel
theorem dX7_see_45 : decode cX7_see 45 = .ok (.ireturn, 1) := by decide +kernel
theorem dX7_see_46 : decode cX7_see 46 = .ok (.aload_n 0, 1) := by decide +kernel
theorem dX7_see_47 : decode cX7_see 47 = .ok (.getfield 12, 3) := by decide +kernel
theorem dX7_see_50 : decode cX7_see 50 = .ok (.getfield 71, 3) := by decide +kernel
theorem dX7_see_53 : decode cX7_see 53 = .ok (.iload_n 1, 1) := by decide +kernel
theorem dX7_see_54 : decode cX7_see 54 = .ok (.iload_n 2, 1) := by decide +kernel
theorem dX7_see_55 : decode cX7_see 55 = .ok (.invokevirtual 225, 3) := by decide +kernel
theorem dX7_see_58 : decode cX7_see 58 = .ok (.ireturn, 1) := by decide +kernel
theorem dX7_fits_0 : decode cX7_fits 0 = .ok (.aload_n 0, 1) := by decide +kernel
theorem dX7_fits_1 : decode cX7_fits 1 = .ok (.getfield 12, 3) := by decide +kernel
theorem dX7_fits_4 : decode cX7_fits 4 = .ok (.getfield 60, 3) := by decide +kernel
theorem dX7_fits_7 : decode cX7_fits 7 = .ok (.iload_n 1, 1) := by decide +kernel
theorem dX7_fits_8 : decode cX7_fits 8 = .ok (.invokevirtual 87, 3) := by decide +kernel
theorem dX7_fits_11 : decode cX7_fits 11 = .ok (.ifCond .eq 26, 3) := by decide +kernel
theorem dX7_fits_14 : decode cX7_fits 14 = .ok (.aload_n 0, 1) := by decide +kernel
theorem dX7_fits_15 : decode cX7_fits 15 = .ok (.getfield 12, 3) := by decide +kernel
theorem dX7_fits_18 : decode cX7_fits 18 = .ok (.getfield 60, 3) := by decide +kernel
theorem dX7_fits_21 : decode cX7_fits 21 = .ok (.iload_n 2, 1) := by decide +kernel
theorem dX7_fits_22 : decode cX7_fits 22 = .ok (.invokevirtual 87, 3) := by decide +kernel
theorem dX7_fits_25 : decode cX7_fits 25 = .ok (.ifCond .eq 12, 3) := by decide +kernel
theorem dX7_fits_28 : decode cX7_fits 28 = .ok (.iload_n 3, 1) := by decide +kernel
theorem dX7_fits_29 : decode cX7_fits 29 = .ok (.ifCond .lt 8, 3) := by decide +kernel
theorem dX7_fits_32 : decode cX7_fits 32 = .ok (.iload_n 3, 1) := by decide +kernel
theorem dX7_fits_33 : decode cX7_fits 33 = .ok (.iconst 1, 1) := by decide +kernel
theorem dX7_fits_34 : decode cX7_fits 34 = .ok (.if_icmp .le 5, 3) := by decide +kernel
theorem dX7_fits_37 : decode cX7_fits 37 = .ok (.iconst (-1), 1) := by decide +kernel
theorem dX7_fits_38 : decode cX7_fits 38 = .ok (.ireturn, 1) := by decide +kernel
theorem dX7_fits_39 : decode cX7_fits 39 = .ok (.iconst 0, 1) := by decide +kernel
theorem dX7_fits_40 : decode cX7_fits 40 = .ok (.istore 4, 2) := by decide +kernel
theorem dX7_fits_42 : decode cX7_fits 42 = .ok (.bipush (-5), 2) := by decide +kernel
theorem dX7_fits_44 : decode cX7_fits 44 = .ok (.istore 5, 2) := by decide +kernel
theorem dX7_fits_46 : decode cX7_fits 46 = .ok (.iconst 0, 1) := by decide +kernel
theorem dX7_fits_47 : decode cX7_fits 47 = .ok (.istore 6, 2) := by decide +kernel
theorem dX7_fits_49 : decode cX7_fits 49 = .ok (.iload 6, 2) := by decide +kernel
theorem dX7_fits_51 : decode cX7_fits 51 = .ok (.bipush 90, 2) := by decide +kernel
theorem dX7_fits_53 : decode cX7_fits 53 = .ok (.if_icmp .gt 77, 3) := by decide +kernel
theorem dX7_fits_56 : decode cX7_fits 56 = .ok (.aload_n 0, 1) := by decide +kernel
theorem dX7_fits_57 : decode cX7_fits 57 = .ok (.getfield 24, 3) := by decide +kernel
theorem dX7_fits_60 : decode cX7_fits 60 = .ok (.aload_n 0, 1) := by decide +kernel
theorem dX7_fits_61 : decode cX7_fits 61 = .ok (.getfield 12, 3) := by decide +kernel
theorem dX7_fits_64 : decode cX7_fits 64 = .ok (.getfield 60, 3) := by decide +kernel
theorem dX7_fits_67 : decode cX7_fits 67 = .ok (.invokevirtual 227, 3) := by decide +kernel
theorem dX7_fits_70 : decode cX7_fits 70 = .ok (.aload_n 0, 1) := by decide +kernel
theorem dX7_fits_71 : decode cX7_fits 71 = .ok (.getfield 24, 3) := by decide +kernel
theorem dX7_fits_74 : decode cX7_fits 74 = .ok (.iload_n 1, 1) := by decide +kernel
theorem dX7_fits_75 : decode cX7_fits 75 = .ok (.iload_n 2, 1) := by decide +kernel
theorem dX7_fits_76 : decode cX7_fits 76 = .ok (.iload 6, 2) := by decide +kernel
theorem dX7_fits_78 : decode cX7_fits 78 = .ok (.invokevirtual 95, 3) := by decide +kernel
theorem dX7_fits_81 : decode cX7_fits 81 = .ok (.aload_n 0, 1) := by decide +kernel
theorem dX7_fits_82 : decode cX7_fits 82 = .ok (.getfield 24, 3) := by decide +kernel
theorem dX7_fits_85 : decode cX7_fits 85 = .ok (.invokevirtual 189, 3) := by decide +kernel
theorem dX7_fits_88 : decode cX7_fits 88 = .ok (.aload_n 0, 1) := by decide +kernel
theorem dX7_fits_89 : decode cX7_fits 89 = .ok (.getfield 24, 3) := by decide +kernel
theorem dX7_fits_92 : decode cX7_fits 92 = .ok (.invokevirtual 177, 3) := by decide +kernel
theorem dX7_fits_95 : decode cX7_fits 95 = .ok (.pop, 1) := by decide +kernel
theorem dX7_fits_96 : decode cX7_fits 96 = .ok (.aload_n 0, 1) := by decide +kernel
theorem dX7_fits_97 : decode cX7_fits 97 = .ok (.aload_n 0, 1) := by decide +kernel
theorem dX7_fits_98 : decode cX7_fits 98 = .ok (.getfield 24, 3) := by decide +kernel
theorem dX7_fits_101 : decode cX7_fits 101 = .ok (.invokevirtual 231, 3) := by decide +kernel
theorem dX7_fits_104 : decode cX7_fits 104 = .ok (.ifCond .eq 20, 3) := by decide +kernel
theorem dX7_fits_107 : decode cX7_fits 107 = .ok (.iload 4, 2) := by decide +kernel
theorem dX7_fits_109 : decode cX7_fits 109 = .ok (.ifCond .ne 8, 3) := by decide +kernel
theorem dX7_fits_112 : decode cX7_fits 112 = .ok (.iload 6, 2) := by decide +kernel
theorem dX7_fits_114 : decode cX7_fits 114 = .ok (.goto 5, 3) := by decide +kernel
theorem dX7_fits_117 : decode cX7_fits 117 = .ok (.iload 5, 2) := by decide +kernel
theorem dX7_fits_119 : decode cX7_fits 119 = .ok (.istore 5, 2) := by decide +kernel
theorem dX7_fits_121 : decode cX7_fits 121 = .ok (.iinc 4 1, 3) := by decide +kernel
theorem dX7_fits_124 : decode cX7_fits 124 = .ok (.iinc 6 10, 3) := by decide +kernel
theorem dX7_fits_127 : decode cX7_fits 127 = .ok (.goto (-78), 3) := by decide +kernel
theorem dX7_fits_130 : decode cX7_fits 130 = .ok (.iload_n 3, 1) := by decide +kernel
theorem dX7_fits_131 : decode cX7_fits 131 = .ok (.ifCond .ne 8, 3) := by decide +kernel
theorem dX7_fits_134 : decode cX7_fits 134 = .ok (.iload 4, 2) := by decide +kernel
theorem dX7_fits_136 : decode cX7_fits 136 = .ok (.goto 5, 3) := by decide +kernel
theorem dX7_fits_139 : decode cX7_fits 139 = .ok (.iload 5, 2) := by decide +kernel
theorem dX7_fits_141 : decode cX7_fits 141 = .ok (.ireturn, 1) := by decide +kernel
theorem dX7_odds_0 : decode cX7_odds 0 = .ok (.aload_n 0, 1) := by decide +kernel
theorem dX7_odds_1 : decode cX7_odds 1 = .ok (.getfield 12, 3) := by decide +kernel
theorem dX7_odds_4 : decode cX7_odds 4 = .ok (.getfield 60, 3) := by decide +kernel
theorem dX7_odds_7 : decode cX7_odds 7 = .ok (.iload_n 1, 1) := by decide +kernel
theorem dX7_odds_8 : decode cX7_odds 8 = .ok (.invokevirtual 87, 3) := by decide +kernel
theorem dX7_odds_11 : decode cX7_odds 11 = .ok (.ifCond .ne 7, 3) := by decide +kernel
theorem dX7_odds_14 : decode cX7_odds 14 = .ok (.ldc2_w 136, 3) := by decide +kernel
theorem dX7_odds_17 : decode cX7_odds 17 = .ok (.lreturn, 1) := by decide +kernel
theorem dX7_odds_18 : decode cX7_odds 18 = .ok (.iconst 0, 1) := by decide +kernel
theorem dX7_odds_19 : decode cX7_odds 19 = .ok (.istore_n 3, 1) := by decide +kernel
theorem dX7_odds_20 : decode cX7_odds 20 = .ok (.iconst 0, 1) := by decide +kernel
theorem dX7_odds_21 : decode cX7_odds 21 = .ok (.istore 4, 2) := by decide +kernel
theorem dX7_odds_23 : decode cX7_odds 23 = .ok (.iconst 1, 1) := by decide +kernel
theorem dX7_odds_24 : decode cX7_odds 24 = .ok (.istore 5, 2) := by decide +kernel
theorem dX7_odds_26 : decode cX7_odds 26 = .ok (.iload 5, 2) := by decide +kernel
theorem dX7_odds_28 : decode cX7_odds 28 = .ok (.bipush 46, 2) := by decide +kernel
theorem dX7_odds_30 : decode cX7_odds 30 = .ok (.if_icmp .gt 77, 3) := by decide +kernel
theorem dX7_odds_33 : decode cX7_odds 33 = .ok (.aload_n 0, 1) := by decide +kernel
theorem dX7_odds_34 : decode cX7_odds 34 = .ok (.getfield 24, 3) := by decide +kernel
theorem dX7_odds_37 : decode cX7_odds 37 = .ok (.aload_n 0, 1) := by decide +kernel
theorem dX7_odds_38 : decode cX7_odds 38 = .ok (.getfield 12, 3) := by decide +kernel
theorem dX7_odds_41 : decode cX7_odds 41 = .ok (.getfield 60, 3) := by decide +kernel
theorem dX7_odds_44 : decode cX7_odds 44 = .ok (.invokevirtual 227, 3) := by decide +kernel
theorem dX7_odds_47 : decode cX7_odds 47 = .ok (.aload_n 0, 1) := by decide +kernel
theorem dX7_odds_48 : decode cX7_odds 48 = .ok (.getfield 24, 3) := by decide +kernel
theorem dX7_odds_51 : decode cX7_odds 51 = .ok (.iload 5, 2) := by decide +kernel
theorem dX7_odds_53 : decode cX7_odds 53 = .ok (.putfield 102, 3) := by decide +kernel
theorem dX7_odds_56 : decode cX7_odds 56 = .ok (.aload_n 0, 1) := by decide +kernel
theorem dX7_odds_57 : decode cX7_odds 57 = .ok (.getfield 24, 3) := by decide +kernel
theorem dX7_odds_60 : decode cX7_odds 60 = .ok (.invokevirtual 189, 3) := by decide +kernel
theorem dX7_odds_63 : decode cX7_odds 63 = .ok (.aload_n 0, 1) := by decide +kernel
theorem dX7_odds_64 : decode cX7_odds 64 = .ok (.getfield 24, 3) := by decide +kernel
theorem dX7_odds_67 : decode cX7_odds 67 = .ok (.invokevirtual 177, 3) := by decide +kernel
theorem dX7_odds_70 : decode cX7_odds 70 = .ok (.pop, 1) := by decide +kernel
theorem dX7_odds_71 : decode cX7_odds 71 = .ok (.iinc 4 1, 3) := by decide +kernel
theorem dX7_odds_74 : decode cX7_odds 74 = .ok (.aload_n 0, 1) := by decide +kernel
theorem dX7_odds_75 : decode cX7_odds 75 = .ok (.getfield 24, 3) := by decide +kernel
theorem dX7_odds_78 : decode cX7_odds 78 = .ok (.getfield 145, 3) := by decide +kernel
theorem dX7_odds_81 : decode cX7_odds 81 = .ok (.iload_n 1, 1) := by decide +kernel
theorem dX7_odds_82 : decode cX7_odds 82 = .ok (.iaload, 1) := by decide +kernel
theorem dX7_odds_83 : decode cX7_odds 83 = .ok (.aload_n 0, 1) := by decide +kernel
theorem dX7_odds_84 : decode cX7_odds 84 = .ok (.getfield 12, 3) := by decide +kernel
theorem dX7_odds_87 : decode cX7_odds 87 = .ok (.getfield 60, 3) := by decide +kernel
theorem dX7_odds_90 : decode cX7_odds 90 = .ok (.getfield 145, 3) := by decide +kernel
theorem dX7_odds_93 : decode cX7_odds 93 = .ok (.iload_n 1, 1) := by decide +kernel
theorem dX7_odds_94 : decode cX7_odds 94 = .ok (.iaload, 1) := by decide +kernel
theorem dX7_odds_95 : decode cX7_odds 95 = .ok (.if_icmp .ne 6, 3) := by decide +kernel
theorem dX7_odds_98 : decode cX7_odds 98 = .ok (.iinc 3 1, 3) := by decide +kernel
theorem dX7_odds_101 : decode cX7_odds 101 = .ok (.iinc 5 5, 3) := by decide +kernel
theorem dX7_odds_104 : decode cX7_odds 104 = .ok (.goto (-78), 3) := by decide +kernel
theorem dX7_odds_107 : decode cX7_odds 107 = .ok (.iload_n 3, 1) := by decide +kernel
theorem dX7_odds_108 : decode cX7_odds 108 = .ok (.iload 4, 2) := by decide +kernel
theorem dX7_odds_110 : decode cX7_odds 110 = .ok (.iload_n 2, 1) := by decide +kernel
theorem dX7_odds_111 : decode cX7_odds 111 = .ok (.invokestatic 235, 3) := by decide +kernel
theorem dX7_odds_114 : decode cX7_odds 114 = .ok (.lreturn, 1) := by decide +kernel
theorem dX7_mean_0 : decode cX7_mean 0 = .ok (.aload_n 0, 1) := by decide +kernel
theorem dX7_mean_1 : decode cX7_mean 1 = .ok (.getfield 12, 3) := by decide +kernel
theorem dX7_mean_4 : decode cX7_mean 4 = .ok (.getfield 60, 3) := by decide +kernel
theorem dX7_mean_7 : decode cX7_mean 7 = .ok (.invokevirtual 215, 3) := by decide +kernel
theorem dX7_mean_10 : decode cX7_mean 10 = .ok (.aload_n 0, 1) := by decide +kernel
theorem dX7_mean_11 : decode cX7_mean 11 = .ok (.getfield 12, 3) := by decide +kernel
theorem dX7_mean_14 : decode cX7_mean 14 = .ok (.getfield 60, 3) := by decide +kernel
theorem dX7_mean_17 : decode cX7_mean 17 = .ok (.getfield 63, 3) := by decide +kernel
theorem dX7_mean_20 : decode cX7_mean 20 = .ok (.iload_n 1, 1) := by decide +kernel
theorem dX7_mean_21 : decode cX7_mean 21 = .ok (.invokestatic 235, 3) := by decide +kernel
theorem dX7_mean_24 : decode cX7_mean 24 = .ok (.lreturn, 1) := by decide +kernel
theorem dX7_plan_0 : decode cX7_plan 0 = .ok (.iload_n 1, 1) := by decide +kernel
theorem dX7_plan_1 : decode cX7_plan 1 = .ok (.iconst (-1), 1) := by decide +kernel
theorem dX7_plan_2 : decode cX7_plan 2 = .ok (.if_icmp .ne 14, 3) := by decide +kernel
theorem dX7_plan_5 : decode cX7_plan 5 = .ok (.aload_n 0, 1) := by decide +kernel
theorem dX7_plan_6 : decode cX7_plan 6 = .ok (.getfield 12, 3) := by decide +kernel
theorem dX7_plan_9 : decode cX7_plan 9 = .ok (.getfield 81, 3) := by decide +kernel
theorem dX7_plan_12 : decode cX7_plan 12 = .ok (.invokevirtual 75, 3) := by decide +kernel
theorem dX7_plan_15 : decode cX7_plan 15 = .ok (.ireturn, 1) := by decide +kernel
theorem dX7_plan_16 : decode cX7_plan 16 = .ok (.iload_n 1, 1) := by decide +kernel
theorem dX7_plan_17 : decode cX7_plan 17 = .ok (.ifCond .lt 27, 3) := by decide +kernel
theorem dX7_plan_20 : decode cX7_plan 20 = .ok (.iload_n 1, 1) := by decide +kernel
theorem dX7_plan_21 : decode cX7_plan 21 = .ok (.iconst 2, 1) := by decide +kernel
theorem dX7_plan_22 : decode cX7_plan 22 = .ok (.if_icmp .gt 22, 3) := by decide +kernel
theorem dX7_plan_25 : decode cX7_plan 25 = .ok (.iload_n 1, 1) := by decide +kernel
theorem dX7_plan_26 : decode cX7_plan 26 = .ok (.iconst 1, 1) := by decide +kernel
theorem dX7_plan_27 : decode cX7_plan 27 = .ok (.if_icmp .ne 19, 3) := by decide +kernel
theorem dX7_plan_30 : decode cX7_plan 30 = .ok (.aload_n 0, 1) := by decide +kernel
theorem dX7_plan_31 : decode cX7_plan 31 = .ok (.getfield 12, 3) := by decide +kernel
theorem dX7_plan_34 : decode cX7_plan 34 = .ok (.getfield 60, 3) := by decide +kernel
theorem dX7_plan_37 : decode cX7_plan 37 = .ok (.iload_n 2, 1) := by decide +kernel
theorem dX7_plan_38 : decode cX7_plan 38 = .ok (.invokevirtual 87, 3) := by decide +kernel
theorem dX7_plan_41 : decode cX7_plan 41 = .ok (.ifCond .ne 5, 3) := by decide +kernel
theorem dX7_plan_44 : decode cX7_plan 44 = .ok (.iconst (-1), 1) := by decide +kernel
theorem dX7_plan_45 : decode cX7_plan 45 = .ok (.ireturn, 1) := by decide +kernel
theorem dX7_plan_46 : decode cX7_plan 46 = .ok (.iload_n 1, 1) := by decide +kernel
theorem dX7_plan_47 : decode cX7_plan 47 = .ok (.iconst 2, 1) := by decide +kernel
theorem dX7_plan_48 : decode cX7_plan 48 = .ok (.if_icmp .ne 13, 3) := by decide +kernel
theorem dX7_plan_51 : decode cX7_plan 51 = .ok (.iload_n 2, 1) := by decide +kernel
theorem dX7_plan_52 : decode cX7_plan 52 = .ok (.invokestatic 99, 3) := by decide +kernel
theorem dX7_plan_55 : decode cX7_plan 55 = .ok (.ifCond .ne 6, 3) := by decide +kernel
theorem dX7_plan_58 : decode cX7_plan 58 = .ok (.bipush (-2), 2) := by decide +kernel
theorem dX7_plan_60 : decode cX7_plan 60 = .ok (.ireturn, 1) := by decide +kernel
theorem dX7_plan_61 : decode cX7_plan 61 = .ok (.aload_n 0, 1) := by decide +kernel
theorem dX7_plan_62 : decode cX7_plan 62 = .ok (.getfield 12, 3) := by decide +kernel
theorem dX7_plan_65 : decode cX7_plan 65 = .ok (.getfield 81, 3) := by decide +kernel
theorem dX7_plan_68 : decode cX7_plan 68 = .ok (.iload_n 1, 1) := by decide +kernel
theorem dX7_plan_69 : decode cX7_plan 69 = .ok (.iload_n 2, 1) := by decide +kernel
theorem dX7_plan_70 : decode cX7_plan 70 = .ok (.invokevirtual 225, 3) := by decide +kernel
theorem dX7_plan_73 : decode cX7_plan 73 = .ok (.ireturn, 1) := by decide +kernel
theorem dX7_ends_0 : decode cX7_ends 0 = .ok (.iload_n 1, 1) := by decide +kernel
theorem dX7_ends_1 : decode cX7_ends 1 = .ok (.ifCond .lt 8, 3) := by decide +kernel
theorem dX7_ends_4 : decode cX7_ends 4 = .ok (.iload_n 1, 1) := by decide +kernel
theorem dX7_ends_5 : decode cX7_ends 5 = .ok (.iconst 1, 1) := by decide +kernel
theorem dX7_ends_6 : decode cX7_ends 6 = .ok (.if_icmp .le 5, 3) := by decide +kernel
theorem dX7_ends_9 : decode cX7_ends 9 = .ok (.iconst (-1), 1) := by decide +kernel
theorem dX7_ends_10 : decode cX7_ends 10 = .ok (.ireturn, 1) := by decide +kernel
theorem dX7_ends_11 : decode cX7_ends 11 = .ok (.aload_n 0, 1) := by decide +kernel
theorem dX7_ends_12 : decode cX7_ends 12 = .ok (.getfield 24, 3) := by decide +kernel
theorem dX7_ends_15 : decode cX7_ends 15 = .ok (.aload_n 0, 1) := by decide +kernel
theorem dX7_ends_16 : decode cX7_ends 16 = .ok (.getfield 12, 3) := by decide +kernel
theorem dX7_ends_19 : decode cX7_ends 19 = .ok (.getfield 60, 3) := by decide +kernel
theorem dX7_ends_22 : decode cX7_ends 22 = .ok (.invokevirtual 227, 3) := by decide +kernel
theorem dX7_ends_25 : decode cX7_ends 25 = .ok (.iconst 0, 1) := by decide +kernel
theorem dX7_ends_26 : decode cX7_ends 26 = .ok (.istore_n 2, 1) := by decide +kernel
theorem dX7_ends_27 : decode cX7_ends 27 = .ok (.iload_n 2, 1) := by decide +kernel
theorem dX7_ends_28 : decode cX7_ends 28 = .ok (.aload_n 0, 1) := by decide +kernel
theorem dX7_ends_29 : decode cX7_ends 29 = .ok (.getfield 12, 3) := by decide +kernel
theorem dX7_ends_32 : decode cX7_ends 32 = .ok (.getfield 81, 3) := by decide +kernel
theorem dX7_ends_35 : decode cX7_ends 35 = .ok (.getfield 239, 3) := by decide +kernel
theorem dX7_ends_38 : decode cX7_ends 38 = .ok (.if_icmp .ge 40, 3) := by decide +kernel
theorem dX7_ends_41 : decode cX7_ends 41 = .ok (.aload_n 0, 1) := by decide +kernel
theorem dX7_ends_42 : decode cX7_ends 42 = .ok (.getfield 24, 3) := by decide +kernel
theorem dX7_ends_45 : decode cX7_ends 45 = .ok (.aload_n 0, 1) := by decide +kernel
theorem dX7_ends_46 : decode cX7_ends 46 = .ok (.getfield 12, 3) := by decide +kernel
theorem dX7_ends_49 : decode cX7_ends 49 = .ok (.getfield 81, 3) := by decide +kernel
theorem dX7_ends_52 : decode cX7_ends 52 = .ok (.getfield 242, 3) := by decide +kernel
theorem dX7_ends_55 : decode cX7_ends 55 = .ok (.iload_n 2, 1) := by decide +kernel
theorem dX7_ends_56 : decode cX7_ends 56 = .ok (.iaload, 1) := by decide +kernel
theorem dX7_ends_57 : decode cX7_ends 57 = .ok (.aload_n 0, 1) := by decide +kernel
theorem dX7_ends_58 : decode cX7_ends 58 = .ok (.getfield 12, 3) := by decide +kernel
theorem dX7_ends_61 : decode cX7_ends 61 = .ok (.getfield 81, 3) := by decide +kernel
theorem dX7_ends_64 : decode cX7_ends 64 = .ok (.getfield 245, 3) := by decide +kernel
theorem dX7_ends_67 : decode cX7_ends 67 = .ok (.iload_n 2, 1) := by decide +kernel
theorem dX7_ends_68 : decode cX7_ends 68 = .ok (.iaload, 1) := by decide +kernel
theorem dX7_ends_69 : decode cX7_ends 69 = .ok (.invokestatic 248, 3) := by decide +kernel
theorem dX7_ends_72 : decode cX7_ends 72 = .ok (.iinc 2 1, 3) := by decide +kernel
theorem dX7_ends_75 : decode cX7_ends 75 = .ok (.goto (-48), 3) := by decide +kernel
theorem dX7_ends_78 : decode cX7_ends 78 = .ok (.iload_n 1, 1) := by decide +kernel
theorem dX7_ends_79 : decode cX7_ends 79 = .ok (.ifCond .ne 13, 3) := by decide +kernel
theorem dX7_ends_82 : decode cX7_ends 82 = .ok (.aload_n 0, 1) := by decide +kernel
theorem dX7_ends_83 : decode cX7_ends 83 = .ok (.getfield 24, 3) := by decide +kernel
theorem dX7_ends_86 : decode cX7_ends 86 = .ok (.invokevirtual 195, 3) := by decide +kernel
theorem dX7_ends_89 : decode cX7_ends 89 = .ok (.goto 10, 3) := by decide +kernel
theorem dX7_ends_92 : decode cX7_ends 92 = .ok (.aload_n 0, 1) := by decide +kernel
theorem dX7_ends_93 : decode cX7_ends 93 = .ok (.getfield 24, 3) := by decide +kernel
theorem dX7_ends_96 : decode cX7_ends 96 = .ok (.invokevirtual 215, 3) := by decide +kernel
theorem dX7_ends_99 : decode cX7_ends 99 = .ok (.ireturn, 1) := by decide +kernel
theorem dX7_book_0 : decode cX7_book 0 = .ok (.iload_n 1, 1) := by decide +kernel
theorem dX7_book_1 : decode cX7_book 1 = .ok (.iconst (-1), 1) := by decide +kernel
theorem dX7_book_2 : decode cX7_book 2 = .ok (.if_icmp .ne 14, 3) := by decide +kernel
theorem dX7_book_5 : decode cX7_book 5 = .ok (.aload_n 0, 1) := by decide +kernel
theorem dX7_book_6 : decode cX7_book 6 = .ok (.getfield 12, 3) := by decide +kernel
theorem dX7_book_9 : decode cX7_book 9 = .ok (.getfield 84, 3) := by decide +kernel
theorem dX7_book_12 : decode cX7_book 12 = .ok (.invokevirtual 75, 3) := by decide +kernel
theorem dX7_book_15 : decode cX7_book 15 = .ok (.ireturn, 1) := by decide +kernel
theorem dX7_book_16 : decode cX7_book 16 = .ok (.aload_n 0, 1) := by decide +kernel
theorem dX7_book_17 : decode cX7_book 17 = .ok (.getfield 12, 3) := by decide +kernel
theorem dX7_book_20 : decode cX7_book 20 = .ok (.getfield 60, 3) := by decide +kernel
theorem dX7_book_23 : decode cX7_book 23 = .ok (.iload_n 1, 1) := by decide +kernel
theorem dX7_book_24 : decode cX7_book 24 = .ok (.invokevirtual 87, 3) := by decide +kernel
theorem dX7_book_27 : decode cX7_book 27 = .ok (.ifCond .ne 5, 3) := by decide +kernel
theorem dX7_book_30 : decode cX7_book 30 = .ok (.iconst (-1), 1) := by decide +kernel
theorem dX7_book_31 : decode cX7_book 31 = .ok (.ireturn, 1) := by decide +kernel
theorem dX7_book_32 : decode cX7_book 32 = .ok (.iload_n 2, 1) := by decide +kernel
theorem dX7_book_33 : decode cX7_book 33 = .ok (.ifCond .lt 10, 3) := by decide +kernel
theorem dX7_book_36 : decode cX7_book 36 = .ok (.iload_n 2, 1) := by decide +kernel
theorem dX7_book_37 : decode cX7_book 37 = .ok (.sipush 9999, 3) := by decide +kernel
theorem dX7_book_40 : decode cX7_book 40 = .ok (.if_icmp .le 6, 3) := by decide +kernel
theorem dX7_book_43 : decode cX7_book 43 = .ok (.bipush (-2), 2) := by decide +kernel
theorem dX7_book_45 : decode cX7_book 45 = .ok (.ireturn, 1) := by decide +kernel
theorem dX7_book_46 : decode cX7_book 46 = .ok (.aload_n 0, 1) := by decide +kernel
theorem dX7_book_47 : decode cX7_book 47 = .ok (.getfield 12, 3) := by decide +kernel
theorem dX7_book_50 : decode cX7_book 50 = .ok (.getfield 84, 3) := by decide +kernel
theorem dX7_book_53 : decode cX7_book 53 = .ok (.iload_n 1, 1) := by decide +kernel
theorem dX7_book_54 : decode cX7_book 54 = .ok (.iload_n 2, 1) := by decide +kernel
theorem dX7_book_55 : decode cX7_book 55 = .ok (.invokevirtual 225, 3) := by decide +kernel
theorem dX7_book_58 : decode cX7_book 58 = .ok (.ireturn, 1) := by decide +kernel
theorem dX7_looked_0 : decode cX7_looked 0 = .ok (.iconst 0, 1) := by decide +kernel
theorem dX7_looked_1 : decode cX7_looked 1 = .ok (.istore_n 1, 1) := by decide +kernel
theorem dX7_looked_2 : decode cX7_looked 2 = .ok (.iload_n 1, 1) := by decide +kernel
theorem dX7_looked_3 : decode cX7_looked 3 = .ok (.aload_n 0, 1) := by decide +kernel
theorem dX7_looked_4 : decode cX7_looked 4 = .ok (.getfield 12, 3) := by decide +kernel
theorem dX7_looked_7 : decode cX7_looked 7 = .ok (.getfield 84, 3) := by decide +kernel
theorem dX7_looked_10 : decode cX7_looked 10 = .ok (.getfield 239, 3) := by decide +kernel
theorem dX7_looked_13 : decode cX7_looked 13 = .ok (.if_icmp .ge 65, 3) := by decide +kernel
theorem dX7_looked_16 : decode cX7_looked 16 = .ok (.aload_n 0, 1) := by decide +kernel
theorem dX7_looked_17 : decode cX7_looked 17 = .ok (.getfield 12, 3) := by decide +kernel
theorem dX7_looked_20 : decode cX7_looked 20 = .ok (.getfield 84, 3) := by decide +kernel
theorem dX7_looked_23 : decode cX7_looked 23 = .ok (.getfield 242, 3) := by decide +kernel
theorem dX7_looked_26 : decode cX7_looked 26 = .ok (.iload_n 1, 1) := by decide +kernel
theorem dX7_looked_27 : decode cX7_looked 27 = .ok (.iaload, 1) := by decide +kernel
theorem dX7_looked_28 : decode cX7_looked 28 = .ok (.istore_n 2, 1) := by decide +kernel
theorem dX7_looked_29 : decode cX7_looked 29 = .ok (.aload_n 0, 1) := by decide +kernel
theorem dX7_looked_30 : decode cX7_looked 30 = .ok (.getfield 12, 3) := by decide +kernel
theorem dX7_looked_33 : decode cX7_looked 33 = .ok (.getfield 60, 3) := by decide +kernel
theorem dX7_looked_36 : decode cX7_looked 36 = .ok (.iload_n 2, 1) := by decide +kernel
theorem dX7_looked_37 : decode cX7_looked 37 = .ok (.invokevirtual 87, 3) := by decide +kernel
theorem dX7_looked_40 : decode cX7_looked 40 = .ok (.ifCond .eq 30, 3) := by decide +kernel
theorem dX7_looked_43 : decode cX7_looked 43 = .ok (.aload_n 0, 1) := by decide +kernel
theorem dX7_looked_44 : decode cX7_looked 44 = .ok (.getfield 12, 3) := by decide +kernel
theorem dX7_looked_47 : decode cX7_looked 47 = .ok (.getfield 60, 3) := by decide +kernel
theorem dX7_looked_50 : decode cX7_looked 50 = .ok (.getfield 165, 3) := by decide +kernel
theorem dX7_looked_53 : decode cX7_looked 53 = .ok (.iload_n 2, 1) := by decide +kernel
theorem dX7_looked_54 : decode cX7_looked 54 = .ok (.iaload, 1) := by decide +kernel
theorem dX7_looked_55 : decode cX7_looked 55 = .ok (.aload_n 0, 1) := by decide +kernel
theorem dX7_looked_56 : decode cX7_looked 56 = .ok (.getfield 12, 3) := by decide +kernel
theorem dX7_looked_59 : decode cX7_looked 59 = .ok (.getfield 84, 3) := by decide +kernel
theorem dX7_looked_62 : decode cX7_looked 62 = .ok (.getfield 245, 3) := by decide +kernel
theorem dX7_looked_65 : decode cX7_looked 65 = .ok (.iload_n 1, 1) := by decide +kernel
theorem dX7_looked_66 : decode cX7_looked 66 = .ok (.iaload, 1) := by decide +kernel
theorem dX7_looked_67 : decode cX7_looked 67 = .ok (.if_icmp .eq 5, 3) := by decide +kernel
theorem dX7_looked_70 : decode cX7_looked 70 = .ok (.iload_n 1, 1) := by decide +kernel
theorem dX7_looked_71 : decode cX7_looked 71 = .ok (.ireturn, 1) := by decide +kernel
theorem dX7_looked_72 : decode cX7_looked 72 = .ok (.iinc 1 1, 3) := by decide +kernel
theorem dX7_looked_75 : decode cX7_looked 75 = .ok (.goto (-73), 3) := by decide +kernel
theorem dX7_looked_78 : decode cX7_looked 78 = .ok (.bipush (-5), 2) := by decide +kernel
theorem dX7_looked_80 : decode cX7_looked 80 = .ok (.ireturn, 1) := by decide +kernel
theorem dX7_judge_0 : decode cX7_judge 0 = .ok (.iload_n 1, 1) := by decide +kernel
theorem dX7_judge_1 : decode cX7_judge 1 = .ok (.invokestatic 252, 3) := by decide +kernel
theorem dX7_judge_4 : decode cX7_judge 4 = .ok (.ifCond .ne 5, 3) := by decide +kernel
theorem dX7_judge_7 : decode cX7_judge 7 = .ok (.iconst (-1), 1) := by decide +kernel
theorem dX7_judge_8 : decode cX7_judge 8 = .ok (.ireturn, 1) := by decide +kernel
theorem dX7_judge_9 : decode cX7_judge 9 = .ok (.aload_n 0, 1) := by decide +kernel
theorem dX7_judge_10 : decode cX7_judge 10 = .ok (.getfield 51, 3) := by decide +kernel
theorem dX7_judge_13 : decode cX7_judge 13 = .ok (.iload_n 1, 1) := by decide +kernel
theorem dX7_judge_14 : decode cX7_judge 14 = .ok (.aaload, 1) := by decide +kernel
theorem dX7_judge_15 : decode cX7_judge 15 = .ok (.astore_n 3, 1) := by decide +kernel
theorem dX7_judge_16 : decode cX7_judge 16 = .ok (.aload_n 3, 1) := by decide +kernel
theorem dX7_judge_17 : decode cX7_judge 17 = .ok (.getfield 255, 3) := by decide +kernel
theorem dX7_judge_20 : decode cX7_judge 20 = .ok (.iconst (-1), 1) := by decide +kernel
theorem dX7_judge_21 : decode cX7_judge 21 = .ok (.if_icmp .eq 14, 3) := by decide +kernel
theorem dX7_judge_24 : decode cX7_judge 24 = .ok (.aload_n 3, 1) := by decide +kernel
theorem dX7_judge_25 : decode cX7_judge 25 = .ok (.getfield 255, 3) := by decide +kernel
theorem dX7_judge_28 : decode cX7_judge 28 = .ok (.iconst 3, 1) := by decide +kernel
theorem dX7_judge_29 : decode cX7_judge 29 = .ok (.if_icmp .eq 6, 3) := by decide +kernel
theorem dX7_judge_32 : decode cX7_judge 32 = .ok (.bipush (-12), 2) := by decide +kernel
theorem dX7_judge_34 : decode cX7_judge 34 = .ok (.ireturn, 1) := by decide +kernel
theorem dX7_judge_35 : decode cX7_judge 35 = .ok (.iconst 0, 1) := by decide +kernel
theorem dX7_judge_36 : decode cX7_judge 36 = .ok (.istore 4, 2) := by decide +kernel
theorem dX7_judge_38 : decode cX7_judge 38 = .ok (.iload 4, 2) := by decide +kernel
theorem dX7_judge_40 : decode cX7_judge 40 = .ok (.aload_n 0, 1) := by decide +kernel
theorem dX7_judge_41 : decode cX7_judge 41 = .ok (.getfield 12, 3) := by decide +kernel
theorem dX7_judge_44 : decode cX7_judge 44 = .ok (.getfield 60, 3) := by decide +kernel
theorem dX7_judge_47 : decode cX7_judge 47 = .ok (.getfield 63, 3) := by decide +kernel
theorem dX7_judge_50 : decode cX7_judge 50 = .ok (.if_icmp .ge 60, 3) := by decide +kernel
theorem dX7_judge_53 : decode cX7_judge 53 = .ok (.iload_n 2, 1) := by decide +kernel
theorem dX7_judge_54 : decode cX7_judge 54 = .ok (.ifCond .lt 14, 3) := by decide +kernel
theorem dX7_judge_57 : decode cX7_judge 57 = .ok (.iload_n 2, 1) := by decide +kernel
theorem dX7_judge_58 : decode cX7_judge 58 = .ok (.aload_n 3, 1) := by decide +kernel
theorem dX7_judge_59 : decode cX7_judge 59 = .ok (.getfield 258, 3) := by decide +kernel
theorem dX7_judge_62 : decode cX7_judge 62 = .ok (.iload 4, 2) := by decide +kernel
theorem dX7_judge_64 : decode cX7_judge 64 = .ok (.isub, 1) := by decide +kernel
theorem dX7_judge_65 : decode cX7_judge 65 = .ok (.if_icmp .lt 9, 3) := by decide +kernel
theorem dX7_judge_68 : decode cX7_judge 68 = .ok (.bipush 100, 2) := by decide +kernel
theorem dX7_judge_70 : decode cX7_judge 70 = .ok (.iload 4, 2) := by decide +kernel
theorem dX7_judge_72 : decode cX7_judge 72 = .ok (.iadd, 1) := by decide +kernel
theorem dX7_judge_73 : decode cX7_judge 73 = .ok (.ireturn, 1) := by decide +kernel
theorem dX7_judge_74 : decode cX7_judge 74 = .ok (.aload_n 3, 1) := by decide +kernel
theorem dX7_judge_75 : decode cX7_judge 75 = .ok (.getfield 261, 3) := by decide +kernel
theorem dX7_judge_78 : decode cX7_judge 78 = .ok (.iload_n 2, 1) := by decide +kernel
theorem dX7_judge_79 : decode cX7_judge 79 = .ok (.iload 4, 2) := by decide +kernel
theorem dX7_judge_81 : decode cX7_judge 81 = .ok (.iadd, 1) := by decide +kernel
theorem dX7_judge_82 : decode cX7_judge 82 = .ok (.laload, 1) := by decide +kernel
theorem dX7_judge_83 : decode cX7_judge 83 = .ok (.aload_n 0, 1) := by decide +kernel
theorem dX7_judge_84 : decode cX7_judge 84 = .ok (.getfield 12, 3) := by decide +kernel
theorem dX7_judge_87 : decode cX7_judge 87 = .ok (.getfield 60, 3) := by decide +kernel
theorem dX7_judge_90 : decode cX7_judge 90 = .ok (.getfield 165, 3) := by decide +kernel
theorem dX7_judge_93 : decode cX7_judge 93 = .ok (.iload 4, 2) := by decide +kernel
theorem dX7_judge_95 : decode cX7_judge 95 = .ok (.iaload, 1) := by decide +kernel
theorem dX7_judge_96 : decode cX7_judge 96 = .ok (.i2l, 1) := by decide +kernel
theorem dX7_judge_97 : decode cX7_judge 97 = .ok (.lcmp, 1) := by decide +kernel
theorem dX7_judge_98 : decode cX7_judge 98 = .ok (.ifCond .eq 6, 3) := by decide +kernel
theorem dX7_judge_101 : decode cX7_judge 101 = .ok (.iload 4, 2) := by decide +kernel
theorem dX7_judge_103 : decode cX7_judge 103 = .ok (.ireturn, 1) := by decide +kernel
theorem dX7_judge_104 : decode cX7_judge 104 = .ok (.iinc 4 1, 3) := by decide +kernel
theorem dX7_judge_107 : decode cX7_judge 107 = .ok (.goto (-69), 3) := by decide +kernel
theorem dX7_judge_110 : decode cX7_judge 110 = .ok (.bipush (-5), 2) := by decide +kernel
theorem dX7_judge_112 : decode cX7_judge 112 = .ok (.ireturn, 1) := by decide +kernel
theorem dX7_image_0 : decode cX7_image 0 = .ok (.aload_n 0, 1) := by decide +kernel
theorem dX7_image_1 : decode cX7_image 1 = .ok (.getfield 18, 3) := by decide +kernel
theorem dX7_image_4 : decode cX7_image 4 = .ok (.aload_n 0, 1) := by decide +kernel
theorem dX7_image_5 : decode cX7_image 5 = .ok (.getfield 12, 3) := by decide +kernel
theorem dX7_image_8 : decode cX7_image 8 = .ok (.invokevirtual 265, 3) := by decide +kernel
theorem dX7_image_11 : decode cX7_image 11 = .ok (.aload_n 0, 1) := by decide +kernel
theorem dX7_image_12 : decode cX7_image 12 = .ok (.iconst 1, 1) := by decide +kernel
theorem dX7_image_13 : decode cX7_image 13 = .ok (.putfield 55, 3) := by decide +kernel
theorem dX7_image_16 : decode cX7_image 16 = .ok (.aload_n 0, 1) := by decide +kernel
theorem dX7_image_17 : decode cX7_image 17 = .ok (.getfield 12, 3) := by decide +kernel
theorem dX7_image_20 : decode cX7_image 20 = .ok (.getfield 60, 3) := by decide +kernel
theorem dX7_image_23 : decode cX7_image 23 = .ok (.getfield 63, 3) := by decide +kernel
theorem dX7_image_26 : decode cX7_image 26 = .ok (.ireturn, 1) := by decide +kernel
theorem dX7_undo_0 : decode cX7_undo 0 = .ok (.aload_n 0, 1) := by decide +kernel
theorem dX7_undo_1 : decode cX7_undo 1 = .ok (.getfield 55, 3) := by decide +kernel
theorem dX7_undo_4 : decode cX7_undo 4 = .ok (.ifCond .ne 6, 3) := by decide +kernel
theorem dX7_undo_7 : decode cX7_undo 7 = .ok (.bipush (-3), 2) := by decide +kernel
theorem dX7_undo_9 : decode cX7_undo 9 = .ok (.ireturn, 1) := by decide +kernel
theorem dX7_undo_10 : decode cX7_undo 10 = .ok (.aload_n 0, 1) := by decide +kernel
theorem dX7_undo_11 : decode cX7_undo 11 = .ok (.getfield 12, 3) := by decide +kernel
theorem dX7_undo_14 : decode cX7_undo 14 = .ok (.aload_n 0, 1) := by decide +kernel
theorem dX7_undo_15 : decode cX7_undo 15 = .ok (.getfield 18, 3) := by decide +kernel
theorem dX7_undo_18 : decode cX7_undo 18 = .ok (.invokevirtual 265, 3) := by decide +kernel
theorem dX7_undo_21 : decode cX7_undo 21 = .ok (.aload_n 0, 1) := by decide +kernel
theorem dX7_undo_22 : decode cX7_undo 22 = .ok (.getfield 12, 3) := by decide +kernel
theorem dX7_undo_25 : decode cX7_undo 25 = .ok (.getfield 60, 3) := by decide +kernel
theorem dX7_undo_28 : decode cX7_undo 28 = .ok (.getfield 63, 3) := by decide +kernel
theorem dX7_undo_31 : decode cX7_undo 31 = .ok (.ireturn, 1) := by decide +kernel
theorem dX7_count_0 : decode cX7_count 0 = .ok (.iload_n 1, 1) := by decide +kernel
theorem dX7_count_1 : decode cX7_count 1 = .ok (.tableswitch 102 0 5 #[39, 50, 61, 72, 83, 91], 39) := by decide +kernel
theorem dX7_count_40 : decode cX7_count 40 = .ok (.aload_n 0, 1) := by decide +kernel
theorem dX7_count_41 : decode cX7_count 41 = .ok (.getfield 12, 3) := by decide +kernel
theorem dX7_count_44 : decode cX7_count 44 = .ok (.getfield 60, 3) := by decide +kernel
theorem dX7_count_47 : decode cX7_count 47 = .ok (.getfield 63, 3) := by decide +kernel
theorem dX7_count_50 : decode cX7_count 50 = .ok (.ireturn, 1) := by decide +kernel
theorem dX7_count_51 : decode cX7_count 51 = .ok (.aload_n 0, 1) := by decide +kernel
theorem dX7_count_52 : decode cX7_count 52 = .ok (.getfield 12, 3) := by decide +kernel
theorem dX7_count_55 : decode cX7_count 55 = .ok (.getfield 71, 3) := by decide +kernel
theorem dX7_count_58 : decode cX7_count 58 = .ok (.getfield 239, 3) := by decide +kernel
theorem dX7_count_61 : decode cX7_count 61 = .ok (.ireturn, 1) := by decide +kernel
theorem dX7_count_62 : decode cX7_count 62 = .ok (.aload_n 0, 1) := by decide +kernel
theorem dX7_count_63 : decode cX7_count 63 = .ok (.getfield 12, 3) := by decide +kernel
theorem dX7_count_66 : decode cX7_count 66 = .ok (.getfield 81, 3) := by decide +kernel
theorem dX7_count_69 : decode cX7_count 69 = .ok (.getfield 239, 3) := by decide +kernel
theorem dX7_count_72 : decode cX7_count 72 = .ok (.ireturn, 1) := by decide +kernel
theorem dX7_count_73 : decode cX7_count 73 = .ok (.aload_n 0, 1) := by decide +kernel
theorem dX7_count_74 : decode cX7_count 74 = .ok (.getfield 12, 3) := by decide +kernel
theorem dX7_count_77 : decode cX7_count 77 = .ok (.getfield 84, 3) := by decide +kernel
theorem dX7_count_80 : decode cX7_count 80 = .ok (.getfield 239, 3) := by decide +kernel
theorem dX7_count_83 : decode cX7_count 83 = .ok (.ireturn, 1) := by decide +kernel
theorem dX7_count_84 : decode cX7_count 84 = .ok (.aload_n 0, 1) := by decide +kernel
theorem dX7_count_85 : decode cX7_count 85 = .ok (.getfield 38, 3) := by decide +kernel
theorem dX7_count_88 : decode cX7_count 88 = .ok (.getfield 268, 3) := by decide +kernel
theorem dX7_count_91 : decode cX7_count 91 = .ok (.ireturn, 1) := by decide +kernel
theorem dX7_count_92 : decode cX7_count 92 = .ok (.aload_n 0, 1) := by decide +kernel
theorem dX7_count_93 : decode cX7_count 93 = .ok (.getfield 12, 3) := by decide +kernel
theorem dX7_count_96 : decode cX7_count 96 = .ok (.getfield 60, 3) := by decide +kernel
theorem dX7_count_99 : decode cX7_count 99 = .ok (.invokevirtual 269, 3) := by decide +kernel
theorem dX7_count_102 : decode cX7_count 102 = .ok (.ireturn, 1) := by decide +kernel
theorem dX7_count_103 : decode cX7_count 103 = .ok (.bipush (-2), 2) := by decide +kernel
theorem dX7_count_105 : decode cX7_count 105 = .ok (.ireturn, 1) := by decide +kernel
theorem dX7_tape_0 : decode cX7_tape 0 = .ok (.iload_n 1, 1) := by decide +kernel
theorem dX7_tape_1 : decode cX7_tape 1 = .ok (.invokestatic 252, 3) := by decide +kernel
theorem dX7_tape_4 : decode cX7_tape 4 = .ok (.ifCond .ne 5, 3) := by decide +kernel
theorem dX7_tape_7 : decode cX7_tape 7 = .ok (.iconst (-1), 1) := by decide +kernel
theorem dX7_tape_8 : decode cX7_tape 8 = .ok (.ireturn, 1) := by decide +kernel
theorem dX7_tape_9 : decode cX7_tape 9 = .ok (.iload_n 2, 1) := by decide +kernel
theorem dX7_tape_10 : decode cX7_tape 10 = .ok (.iconst (-1), 1) := by decide +kernel
theorem dX7_tape_11 : decode cX7_tape 11 = .ok (.if_icmp .ne 16, 3) := by decide +kernel
theorem dX7_tape_14 : decode cX7_tape 14 = .ok (.aload_n 0, 1) := by decide +kernel
theorem dX7_tape_15 : decode cX7_tape 15 = .ok (.getfield 51, 3) := by decide +kernel
theorem dX7_tape_18 : decode cX7_tape 18 = .ok (.iload_n 1, 1) := by decide +kernel
theorem dX7_tape_19 : decode cX7_tape 19 = .ok (.aaload, 1) := by decide +kernel
theorem dX7_tape_20 : decode cX7_tape 20 = .ok (.iload_n 2, 1) := by decide +kernel
theorem dX7_tape_21 : decode cX7_tape 21 = .ok (.iconst 0, 1) := by decide +kernel
theorem dX7_tape_22 : decode cX7_tape 22 = .ok (.invokevirtual 272, 3) := by decide +kernel
theorem dX7_tape_25 : decode cX7_tape 25 = .ok (.iconst 1, 1) := by decide +kernel
theorem dX7_tape_26 : decode cX7_tape 26 = .ok (.ireturn, 1) := by decide +kernel
theorem dX7_tape_27 : decode cX7_tape 27 = .ok (.iload_n 2, 1) := by decide +kernel
theorem dX7_tape_28 : decode cX7_tape 28 = .ok (.ifCond .lt 14, 3) := by decide +kernel
theorem dX7_tape_31 : decode cX7_tape 31 = .ok (.iload_n 2, 1) := by decide +kernel
theorem dX7_tape_32 : decode cX7_tape 32 = .ok (.iconst 4, 1) := by decide +kernel
theorem dX7_tape_33 : decode cX7_tape 33 = .ok (.if_icmp .gt 9, 3) := by decide +kernel
theorem dX7_tape_36 : decode cX7_tape 36 = .ok (.iload_n 3, 1) := by decide +kernel
theorem dX7_tape_37 : decode cX7_tape 37 = .ok (.bipush 60, 2) := by decide +kernel
theorem dX7_tape_39 : decode cX7_tape 39 = .ok (.if_icmp .le 6, 3) := by decide +kernel
theorem dX7_tape_42 : decode cX7_tape 42 = .ok (.bipush (-2), 2) := by decide +kernel
theorem dX7_tape_44 : decode cX7_tape 44 = .ok (.ireturn, 1) := by decide +kernel
theorem dX7_tape_45 : decode cX7_tape 45 = .ok (.iload_n 3, 1) := by decide +kernel
theorem dX7_tape_46 : decode cX7_tape 46 = .ok (.ifCond .ge 6, 3) := by decide +kernel
theorem dX7_tape_49 : decode cX7_tape 49 = .ok (.bipush (-14), 2) := by decide +kernel
theorem dX7_tape_51 : decode cX7_tape 51 = .ok (.ireturn, 1) := by decide +kernel
theorem dX7_tape_52 : decode cX7_tape 52 = .ok (.aload_n 0, 1) := by decide +kernel
theorem dX7_tape_53 : decode cX7_tape 53 = .ok (.getfield 51, 3) := by decide +kernel
theorem dX7_tape_56 : decode cX7_tape 56 = .ok (.iload_n 1, 1) := by decide +kernel
theorem dX7_tape_57 : decode cX7_tape 57 = .ok (.aaload, 1) := by decide +kernel
theorem dX7_tape_58 : decode cX7_tape 58 = .ok (.iload_n 2, 1) := by decide +kernel
theorem dX7_tape_59 : decode cX7_tape 59 = .ok (.iload_n 3, 1) := by decide +kernel
theorem dX7_tape_60 : decode cX7_tape 60 = .ok (.invokevirtual 272, 3) := by decide +kernel
theorem dX7_tape_63 : decode cX7_tape 63 = .ok (.iconst 1, 1) := by decide +kernel
theorem dX7_tape_64 : decode cX7_tape 64 = .ok (.ireturn, 1) := by decide +kernel
theorem dX7_item_0 : decode cX7_item 0 = .ok (.iload_n 1, 1) := by decide +kernel
theorem dX7_item_1 : decode cX7_item 1 = .ok (.invokestatic 252, 3) := by decide +kernel
theorem dX7_item_4 : decode cX7_item 4 = .ok (.ifCond .ne 5, 3) := by decide +kernel
theorem dX7_item_7 : decode cX7_item 7 = .ok (.iconst (-1), 1) := by decide +kernel
theorem dX7_item_8 : decode cX7_item 8 = .ok (.ireturn, 1) := by decide +kernel
theorem dX7_item_9 : decode cX7_item 9 = .ok (.aload_n 0, 1) := by decide +kernel
theorem dX7_item_10 : decode cX7_item 10 = .ok (.getfield 51, 3) := by decide +kernel
theorem dX7_item_13 : decode cX7_item 13 = .ok (.iload_n 1, 1) := by decide +kernel
theorem dX7_item_14 : decode cX7_item 14 = .ok (.aaload, 1) := by decide +kernel
theorem dX7_item_15 : decode cX7_item 15 = .ok (.getfield 255, 3) := by decide +kernel
theorem dX7_item_18 : decode cX7_item 18 = .ok (.iconst (-1), 1) := by decide +kernel
theorem dX7_item_19 : decode cX7_item 19 = .ok (.if_icmp .ne 6, 3) := by decide +kernel
theorem dX7_item_22 : decode cX7_item 22 = .ok (.bipush (-11), 2) := by decide +kernel
theorem dX7_item_24 : decode cX7_item 24 = .ok (.ireturn, 1) := by decide +kernel
theorem dX7_item_25 : decode cX7_item 25 = .ok (.aload_n 0, 1) := by decide +kernel
theorem dX7_item_26 : decode cX7_item 26 = .ok (.getfield 51, 3) := by decide +kernel
theorem dX7_item_29 : decode cX7_item 29 = .ok (.iload_n 1, 1) := by decide +kernel
theorem dX7_item_30 : decode cX7_item 30 = .ok (.aaload, 1) := by decide +kernel
theorem dX7_item_31 : decode cX7_item 31 = .ok (.iload_n 2, 1) := by decide +kernel
theorem dX7_item_32 : decode cX7_item 32 = .ok (.invokevirtual 276, 3) := by decide +kernel
theorem dX7_item_35 : decode cX7_item 35 = .ok (.ifCond .ne 6, 3) := by decide +kernel
theorem dX7_item_38 : decode cX7_item 38 = .ok (.bipush (-13), 2) := by decide +kernel
theorem dX7_item_40 : decode cX7_item 40 = .ok (.ireturn, 1) := by decide +kernel
theorem dX7_item_41 : decode cX7_item 41 = .ok (.aload_n 0, 1) := by decide +kernel
theorem dX7_item_42 : decode cX7_item 42 = .ok (.getfield 51, 3) := by decide +kernel
theorem dX7_item_45 : decode cX7_item 45 = .ok (.iload_n 1, 1) := by decide +kernel
theorem dX7_item_46 : decode cX7_item 46 = .ok (.aaload, 1) := by decide +kernel
theorem dX7_item_47 : decode cX7_item 47 = .ok (.getfield 261, 3) := by decide +kernel
theorem dX7_item_50 : decode cX7_item 50 = .ok (.iload_n 2, 1) := by decide +kernel
theorem dX7_item_51 : decode cX7_item 51 = .ok (.aload_n 0, 1) := by decide +kernel
theorem dX7_item_52 : decode cX7_item 52 = .ok (.getfield 51, 3) := by decide +kernel
theorem dX7_item_55 : decode cX7_item 55 = .ok (.iload_n 1, 1) := by decide +kernel
theorem dX7_item_56 : decode cX7_item 56 = .ok (.aaload, 1) := by decide +kernel
theorem dX7_item_57 : decode cX7_item 57 = .ok (.lload_n 3, 1) := by decide +kernel
theorem dX7_item_58 : decode cX7_item 58 = .ok (.invokevirtual 279, 3) := by decide +kernel
theorem dX7_item_61 : decode cX7_item 61 = .ok (.lastore, 1) := by decide +kernel
theorem dX7_item_62 : decode cX7_item 62 = .ok (.iconst 1, 1) := by decide +kernel
theorem dX7_item_63 : decode cX7_item 63 = .ok (.ireturn, 1) := by decide +kernel
theorem dX7_peek_0 : decode cX7_peek 0 = .ok (.iload_n 1, 1) := by decide +kernel
theorem dX7_peek_1 : decode cX7_peek 1 = .ok (.invokestatic 252, 3) := by decide +kernel
theorem dX7_peek_4 : decode cX7_peek 4 = .ok (.ifCond .eq 16, 3) := by decide +kernel
theorem dX7_peek_7 : decode cX7_peek 7 = .ok (.aload_n 0, 1) := by decide +kernel
theorem dX7_peek_8 : decode cX7_peek 8 = .ok (.getfield 51, 3) := by decide +kernel
theorem dX7_peek_11 : decode cX7_peek 11 = .ok (.iload_n 1, 1) := by decide +kernel
theorem dX7_peek_12 : decode cX7_peek 12 = .ok (.aaload, 1) := by decide +kernel
theorem dX7_peek_13 : decode cX7_peek 13 = .ok (.iload_n 2, 1) := by decide +kernel
theorem dX7_peek_14 : decode cX7_peek 14 = .ok (.invokevirtual 276, 3) := by decide +kernel
theorem dX7_peek_17 : decode cX7_peek 17 = .ok (.ifCond .ne 7, 3) := by decide +kernel
theorem dX7_peek_20 : decode cX7_peek 20 = .ok (.ldc2_w 136, 3) := by decide +kernel
theorem dX7_peek_23 : decode cX7_peek 23 = .ok (.lreturn, 1) := by decide +kernel
theorem dX7_peek_24 : decode cX7_peek 24 = .ok (.aload_n 0, 1) := by decide +kernel
theorem dX7_peek_25 : decode cX7_peek 25 = .ok (.getfield 51, 3) := by decide +kernel
theorem dX7_peek_28 : decode cX7_peek 28 = .ok (.iload_n 1, 1) := by decide +kernel
theorem dX7_peek_29 : decode cX7_peek 29 = .ok (.aaload, 1) := by decide +kernel
theorem dX7_peek_30 : decode cX7_peek 30 = .ok (.getfield 261, 3) := by decide +kernel
theorem dX7_peek_33 : decode cX7_peek 33 = .ok (.iload_n 2, 1) := by decide +kernel
theorem dX7_peek_34 : decode cX7_peek 34 = .ok (.laload, 1) := by decide +kernel
theorem dX7_peek_35 : decode cX7_peek 35 = .ok (.lreturn, 1) := by decide +kernel
theorem dX7_shift_0 : decode cX7_shift 0 = .ok (.iload_n 1, 1) := by decide +kernel
theorem dX7_shift_1 : decode cX7_shift 1 = .ok (.invokestatic 252, 3) := by decide +kernel
theorem dX7_shift_4 : decode cX7_shift 4 = .ok (.ifCond .eq 10, 3) := by decide +kernel
theorem dX7_shift_7 : decode cX7_shift 7 = .ok (.iload_n 3, 1) := by decide +kernel
theorem dX7_shift_8 : decode cX7_shift 8 = .ok (.invokestatic 252, 3) := by decide +kernel
theorem dX7_shift_11 : decode cX7_shift 11 = .ok (.ifCond .ne 5, 3) := by decide +kernel
theorem dX7_shift_14 : decode cX7_shift 14 = .ok (.iconst (-1), 1) := by decide +kernel
theorem dX7_shift_15 : decode cX7_shift 15 = .ok (.ireturn, 1) := by decide +kernel
theorem dX7_shift_16 : decode cX7_shift 16 = .ok (.aload_n 0, 1) := by decide +kernel
theorem dX7_shift_17 : decode cX7_shift 17 = .ok (.getfield 51, 3) := by decide +kernel
theorem dX7_shift_20 : decode cX7_shift 20 = .ok (.iload_n 1, 1) := by decide +kernel
theorem dX7_shift_21 : decode cX7_shift 21 = .ok (.aaload, 1) := by decide +kernel
theorem dX7_shift_22 : decode cX7_shift 22 = .ok (.astore 6, 2) := by decide +kernel
theorem dX7_shift_24 : decode cX7_shift 24 = .ok (.aload_n 0, 1) := by decide +kernel
theorem dX7_shift_25 : decode cX7_shift 25 = .ok (.getfield 51, 3) := by decide +kernel
theorem dX7_shift_28 : decode cX7_shift 28 = .ok (.iload_n 3, 1) := by decide +kernel
theorem dX7_shift_29 : decode cX7_shift 29 = .ok (.aaload, 1) := by decide +kernel
theorem dX7_shift_30 : decode cX7_shift 30 = .ok (.astore 7, 2) := by decide +kernel
theorem dX7_shift_32 : decode cX7_shift 32 = .ok (.aload 6, 2) := by decide +kernel
theorem dX7_shift_34 : decode cX7_shift 34 = .ok (.getfield 255, 3) := by decide +kernel
theorem dX7_shift_37 : decode cX7_shift 37 = .ok (.iconst (-1), 1) := by decide +kernel
theorem dX7_shift_38 : decode cX7_shift 38 = .ok (.if_icmp .eq 12, 3) := by decide +kernel
theorem dX7_shift_41 : decode cX7_shift 41 = .ok (.aload 7, 2) := by decide +kernel
theorem dX7_shift_43 : decode cX7_shift 43 = .ok (.getfield 255, 3) := by decide +kernel
theorem dX7_shift_46 : decode cX7_shift 46 = .ok (.iconst (-1), 1) := by decide +kernel
theorem dX7_shift_47 : decode cX7_shift 47 = .ok (.if_icmp .ne 6, 3) := by decide +kernel
theorem dX7_shift_50 : decode cX7_shift 50 = .ok (.bipush (-11), 2) := by decide +kernel
theorem dX7_shift_52 : decode cX7_shift 52 = .ok (.ireturn, 1) := by decide +kernel
theorem dX7_shift_53 : decode cX7_shift 53 = .ok (.aload 6, 2) := by decide +kernel
theorem dX7_shift_55 : decode cX7_shift 55 = .ok (.getfield 255, 3) := by decide +kernel
theorem dX7_shift_58 : decode cX7_shift 58 = .ok (.aload 7, 2) := by decide +kernel
theorem dX7_shift_60 : decode cX7_shift 60 = .ok (.getfield 255, 3) := by decide +kernel
theorem dX7_shift_63 : decode cX7_shift 63 = .ok (.if_icmp .eq 6, 3) := by decide +kernel
theorem dX7_shift_66 : decode cX7_shift 66 = .ok (.bipush (-12), 2) := by decide +kernel
theorem dX7_shift_68 : decode cX7_shift 68 = .ok (.ireturn, 1) := by decide +kernel
theorem dX7_shift_69 : decode cX7_shift 69 = .ok (.aload 6, 2) := by decide +kernel
theorem dX7_shift_71 : decode cX7_shift 71 = .ok (.iload_n 2, 1) := by decide +kernel
theorem dX7_shift_72 : decode cX7_shift 72 = .ok (.iload 5, 2) := by decide +kernel
theorem dX7_shift_74 : decode cX7_shift 74 = .ok (.invokevirtual 283, 3) := by decide +kernel
theorem dX7_shift_77 : decode cX7_shift 77 = .ok (.ifCond .eq 15, 3) := by decide +kernel
theorem dX7_shift_80 : decode cX7_shift 80 = .ok (.aload 7, 2) := by decide +kernel
theorem dX7_shift_82 : decode cX7_shift 82 = .ok (.iload 4, 2) := by decide +kernel
theorem dX7_shift_84 : decode cX7_shift 84 = .ok (.iload 5, 2) := by decide +kernel
theorem dX7_shift_86 : decode cX7_shift 86 = .ok (.invokevirtual 283, 3) := by decide +kernel
theorem dX7_shift_89 : decode cX7_shift 89 = .ok (.ifCond .ne 6, 3) := by decide +kernel
theorem dX7_shift_92 : decode cX7_shift 92 = .ok (.bipush (-13), 2) := by decide +kernel
theorem dX7_shift_94 : decode cX7_shift 94 = .ok (.ireturn, 1) := by decide +kernel
theorem dX7_shift_95 : decode cX7_shift 95 = .ok (.aload 6, 2) := by decide +kernel
theorem dX7_shift_97 : decode cX7_shift 97 = .ok (.getfield 261, 3) := by decide +kernel
theorem dX7_shift_100 : decode cX7_shift 100 = .ok (.iload_n 2, 1) := by decide +kernel
theorem dX7_shift_101 : decode cX7_shift 101 = .ok (.aload 7, 2) := by decide +kernel
theorem dX7_shift_103 : decode cX7_shift 103 = .ok (.getfield 261, 3) := by decide +kernel
theorem dX7_shift_106 : decode cX7_shift 106 = .ok (.iload 4, 2) := by decide +kernel
theorem dX7_shift_108 : decode cX7_shift 108 = .ok (.iload 5, 2) := by decide +kernel
theorem dX7_shift_110 : decode cX7_shift 110 = .ok (.invokestatic 286, 3) := by decide +kernel
theorem dX7_shift_113 : decode cX7_shift 113 = .ok (.iload 5, 2) := by decide +kernel
theorem dX7_shift_115 : decode cX7_shift 115 = .ok (.ireturn, 1) := by decide +kernel
theorem dX7_isStep_0 : decode cX7_isStep 0 = .ok (.iload_n 0, 1) := by decide +kernel
theorem dX7_isStep_1 : decode cX7_isStep 1 = .ok (.iconst 1, 1) := by decide +kernel
theorem dX7_isStep_2 : decode cX7_isStep 2 = .ok (.if_icmp .lt 13, 3) := by decide +kernel
theorem dX7_isStep_5 : decode cX7_isStep 5 = .ok (.iload_n 0, 1) := by decide +kernel
theorem dX7_isStep_6 : decode cX7_isStep 6 = .ok (.bipush 50, 2) := by decide +kernel
theorem dX7_isStep_8 : decode cX7_isStep 8 = .ok (.if_icmp .gt 7, 3) := by decide +kernel
theorem dX7_isStep_11 : decode cX7_isStep 11 = .ok (.iconst 1, 1) := by decide +kernel
theorem dX7_isStep_12 : decode cX7_isStep 12 = .ok (.goto 4, 3) := by decide +kernel
theorem dX7_isStep_15 : decode cX7_isStep 15 = .ok (.iconst 0, 1) := by decide +kernel
theorem dX7_isStep_16 : decode cX7_isStep 16 = .ok (.ireturn, 1) := by decide +kernel
theorem dX7_isTape_0 : decode cX7_isTape 0 = .ok (.iload_n 0, 1) := by decide +kernel
theorem dX7_isTape_1 : decode cX7_isTape 1 = .ok (.ifCond .lt 13, 3) := by decide +kernel
theorem dX7_isTape_4 : decode cX7_isTape 4 = .ok (.iload_n 0, 1) := by decide +kernel
theorem dX7_isTape_5 : decode cX7_isTape 5 = .ok (.bipush 6, 2) := by decide +kernel
theorem dX7_isTape_7 : decode cX7_isTape 7 = .ok (.if_icmp .ge 7, 3) := by decide +kernel
theorem dX7_isTape_10 : decode cX7_isTape 10 = .ok (.iconst 1, 1) := by decide +kernel
theorem dX7_isTape_11 : decode cX7_isTape 11 = .ok (.goto 4, 3) := by decide +kernel
theorem dX7_isTape_14 : decode cX7_isTape 14 = .ok (.iconst 0, 1) := by decide +kernel
theorem dX7_isTape_15 : decode cX7_isTape 15 = .ok (.ireturn, 1) := by decide +kernel
theorem dX7_shownNumber_0 : decode cX7_shownNumber 0 = .ok (.iload_n 0, 1) := by decide +kernel
theorem dX7_shownNumber_1 : decode cX7_shownNumber 1 = .ok (.ifCond .ge 8, 3) := by decide +kernel
theorem dX7_shownNumber_4 : decode cX7_shownNumber 4 = .ok (.bipush (-5), 2) := by decide +kernel
theorem dX7_shownNumber_6 : decode cX7_shownNumber 6 = .ok (.goto 4, 3) := by decide +kernel
theorem dX7_shownNumber_9 : decode cX7_shownNumber 9 = .ok (.iload_n 0, 1) := by decide +kernel
theorem dX7_shownNumber_10 : decode cX7_shownNumber 10 = .ok (.ireturn, 1) := by decide +kernel
theorem dX7_shownWorth_0 : decode cX7_shownWorth 0 = .ok (.aload_n 0, 1) := by decide +kernel
theorem dX7_shownWorth_1 : decode cX7_shownWorth 1 = .ok (.getfield 12, 3) := by decide +kernel
theorem dX7_shownWorth_4 : decode cX7_shownWorth 4 = .ok (.getfield 60, 3) := by decide +kernel
theorem dX7_shownWorth_7 : decode cX7_shownWorth 7 = .ok (.iload_n 1, 1) := by decide +kernel
theorem dX7_shownWorth_8 : decode cX7_shownWorth 8 = .ok (.iload_n 2, 1) := by decide +kernel
theorem dX7_shownWorth_9 : decode cX7_shownWorth 9 = .ok (.invokevirtual 138, 3) := by decide +kernel
theorem dX7_shownWorth_12 : decode cX7_shownWorth 12 = .ok (.ifCond .eq 20, 3) := by decide +kernel
theorem dX7_shownWorth_15 : decode cX7_shownWorth 15 = .ok (.aload_n 0, 1) := by decide +kernel
theorem dX7_shownWorth_16 : decode cX7_shownWorth 16 = .ok (.getfield 12, 3) := by decide +kernel
theorem dX7_shownWorth_19 : decode cX7_shownWorth 19 = .ok (.getfield 60, 3) := by decide +kernel
theorem dX7_shownWorth_22 : decode cX7_shownWorth 22 = .ok (.getfield 292, 3) := by decide +kernel
theorem dX7_shownWorth_25 : decode cX7_shownWorth 25 = .ok (.iload_n 1, 1) := by decide +kernel
theorem dX7_shownWorth_26 : decode cX7_shownWorth 26 = .ok (.aaload, 1) := by decide +kernel
theorem dX7_shownWorth_27 : decode cX7_shownWorth 27 = .ok (.iload_n 2, 1) := by decide +kernel
theorem dX7_shownWorth_28 : decode cX7_shownWorth 28 = .ok (.iaload, 1) := by decide +kernel
theorem dX7_shownWorth_29 : decode cX7_shownWorth 29 = .ok (.goto 5, 3) := by decide +kernel
theorem dX7_shownWorth_32 : decode cX7_shownWorth 32 = .ok (.bipush (-5), 2) := by decide +kernel
theorem dX7_shownWorth_34 : decode cX7_shownWorth 34 = .ok (.ireturn, 1) := by decide +kernel
theorem dX7_reported_0 : decode cX7_reported 0 = .ok (.aload_n 0, 1) := by decide +kernel
theorem dX7_reported_1 : decode cX7_reported 1 = .ok (.getfield 12, 3) := by decide +kernel
theorem dX7_reported_4 : decode cX7_reported 4 = .ok (.getfield 60, 3) := by decide +kernel
theorem dX7_reported_7 : decode cX7_reported 7 = .ok (.astore_n 2, 1) := by decide +kernel
theorem dX7_reported_8 : decode cX7_reported 8 = .ok (.aload_n 2, 1) := by decide +kernel
theorem dX7_reported_9 : decode cX7_reported 9 = .ok (.getfield 295, 3) := by decide +kernel
theorem dX7_reported_12 : decode cX7_reported 12 = .ok (.ifCond .lt 26, 3) := by decide +kernel
theorem dX7_reported_15 : decode cX7_reported 15 = .ok (.aload_n 0, 1) := by decide +kernel
theorem dX7_reported_16 : decode cX7_reported 16 = .ok (.getfield 45, 3) := by decide +kernel
theorem dX7_reported_19 : decode cX7_reported 19 = .ok (.iconst 4, 1) := by decide +kernel
theorem dX7_reported_20 : decode cX7_reported 20 = .ok (.sipush 200, 3) := by decide +kernel
theorem dX7_reported_23 : decode cX7_reported 23 = .ok (.aload_n 2, 1) := by decide +kernel
theorem dX7_reported_24 : decode cX7_reported 24 = .ok (.getfield 295, 3) := by decide +kernel
theorem dX7_reported_27 : decode cX7_reported 27 = .ok (.iadd, 1) := by decide +kernel
theorem dX7_reported_28 : decode cX7_reported 28 = .ok (.bipush (-5), 2) := by decide +kernel
theorem dX7_reported_30 : decode cX7_reported 30 = .ok (.invokevirtual 121, 3) := by decide +kernel
theorem dX7_reported_33 : decode cX7_reported 33 = .ok (.bipush (-10), 2) := by decide +kernel
theorem dX7_reported_35 : decode cX7_reported 35 = .ok (.iload_n 1, 1) := by decide +kernel
theorem dX7_reported_36 : decode cX7_reported 36 = .ok (.isub, 1) := by decide +kernel
theorem dX7_reported_37 : decode cX7_reported 37 = .ok (.ireturn, 1) := by decide +kernel
theorem dX7_reported_38 : decode cX7_reported 38 = .ok (.aload_n 2, 1) := by decide +kernel
theorem dX7_reported_39 : decode cX7_reported 39 = .ok (.invokevirtual 298, 3) := by decide +kernel
theorem dX7_reported_42 : decode cX7_reported 42 = .ok (.istore_n 3, 1) := by decide +kernel
theorem dX7_reported_43 : decode cX7_reported 43 = .ok (.iload_n 3, 1) := by decide +kernel
theorem dX7_reported_44 : decode cX7_reported 44 = .ok (.ifCond .lt 33, 3) := by decide +kernel
theorem dX7_reported_47 : decode cX7_reported 47 = .ok (.aload_n 2, 1) := by decide +kernel
theorem dX7_reported_48 : decode cX7_reported 48 = .ok (.getfield 63, 3) := by decide +kernel
theorem dX7_reported_51 : decode cX7_reported 51 = .ok (.aload_n 2, 1) := by decide +kernel
theorem dX7_reported_52 : decode cX7_reported 52 = .ok (.invokevirtual 186, 3) := by decide +kernel
theorem dX7_reported_55 : decode cX7_reported 55 = .ok (.isub, 1) := by decide +kernel
theorem dX7_reported_56 : decode cX7_reported 56 = .ok (.istore 4, 2) := by decide +kernel
theorem dX7_reported_58 : decode cX7_reported 58 = .ok (.aload_n 0, 1) := by decide +kernel
theorem dX7_reported_59 : decode cX7_reported 59 = .ok (.getfield 45, 3) := by decide +kernel
theorem dX7_reported_62 : decode cX7_reported 62 = .ok (.iconst 5, 1) := by decide +kernel
theorem dX7_reported_63 : decode cX7_reported 63 = .ok (.sipush 200, 3) := by decide +kernel
theorem dX7_reported_66 : decode cX7_reported 66 = .ok (.iload_n 3, 1) := by decide +kernel
theorem dX7_reported_67 : decode cX7_reported 67 = .ok (.iadd, 1) := by decide +kernel
theorem dX7_reported_68 : decode cX7_reported 68 = .ok (.sipush 300, 3) := by decide +kernel
theorem dX7_reported_71 : decode cX7_reported 71 = .ok (.iload 4, 2) := by decide +kernel
theorem dX7_reported_73 : decode cX7_reported 73 = .ok (.iadd, 1) := by decide +kernel
theorem dX7_reported_74 : decode cX7_reported 74 = .ok (.invokevirtual 121, 3) := by decide +kernel
theorem dX7_reported_77 : decode cX7_reported 77 = .ok (.iload_n 1, 1) := by decide +kernel
theorem dX7_reported_78 : decode cX7_reported 78 = .ok (.ireturn, 1) := by decide +kernel
theorem dX7_goesAsSeen_0 : decode cX7_goesAsSeen 0 = .ok (.iconst 0, 1) := by decide +kernel
theorem dX7_goesAsSeen_1 : decode cX7_goesAsSeen 1 = .ok (.istore_n 2, 1) := by decide +kernel
theorem dX7_goesAsSeen_2 : decode cX7_goesAsSeen 2 = .ok (.iload_n 2, 1) := by decide +kernel
theorem dX7_goesAsSeen_3 : decode cX7_goesAsSeen 3 = .ok (.aload_n 0, 1) := by decide +kernel
theorem dX7_goesAsSeen_4 : decode cX7_goesAsSeen 4 = .ok (.getfield 12, 3) := by decide +kernel
theorem dX7_goesAsSeen_7 : decode cX7_goesAsSeen 7 = .ok (.getfield 71, 3) := by decide +kernel
theorem dX7_goesAsSeen_10 : decode cX7_goesAsSeen 10 = .ok (.getfield 239, 3) := by decide +kernel
theorem dX7_goesAsSeen_13 : decode cX7_goesAsSeen 13 = .ok (.if_icmp .ge 53, 3) := by decide +kernel
theorem dX7_goesAsSeen_16 : decode cX7_goesAsSeen 16 = .ok (.aload_n 0, 1) := by decide +kernel
theorem dX7_goesAsSeen_17 : decode cX7_goesAsSeen 17 = .ok (.getfield 12, 3) := by decide +kernel
theorem dX7_goesAsSeen_20 : decode cX7_goesAsSeen 20 = .ok (.getfield 71, 3) := by decide +kernel
theorem dX7_goesAsSeen_23 : decode cX7_goesAsSeen 23 = .ok (.getfield 242, 3) := by decide +kernel
theorem dX7_goesAsSeen_26 : decode cX7_goesAsSeen 26 = .ok (.iload_n 2, 1) := by decide +kernel
theorem dX7_goesAsSeen_27 : decode cX7_goesAsSeen 27 = .ok (.iaload, 1) := by decide +kernel
theorem dX7_goesAsSeen_28 : decode cX7_goesAsSeen 28 = .ok (.istore_n 3, 1) := by decide +kernel
theorem dX7_goesAsSeen_29 : decode cX7_goesAsSeen 29 = .ok (.aload_n 1, 1) := by decide +kernel
theorem dX7_goesAsSeen_30 : decode cX7_goesAsSeen 30 = .ok (.iload_n 3, 1) := by decide +kernel
theorem dX7_goesAsSeen_31 : decode cX7_goesAsSeen 31 = .ok (.invokevirtual 87, 3) := by decide +kernel
theorem dX7_goesAsSeen_34 : decode cX7_goesAsSeen 34 = .ok (.ifCond .eq 24, 3) := by decide +kernel
theorem dX7_goesAsSeen_37 : decode cX7_goesAsSeen 37 = .ok (.aload_n 1, 1) := by decide +kernel
theorem dX7_goesAsSeen_38 : decode cX7_goesAsSeen 38 = .ok (.getfield 145, 3) := by decide +kernel
theorem dX7_goesAsSeen_41 : decode cX7_goesAsSeen 41 = .ok (.iload_n 3, 1) := by decide +kernel
theorem dX7_goesAsSeen_42 : decode cX7_goesAsSeen 42 = .ok (.iaload, 1) := by decide +kernel
theorem dX7_goesAsSeen_43 : decode cX7_goesAsSeen 43 = .ok (.aload_n 0, 1) := by decide +kernel
theorem dX7_goesAsSeen_44 : decode cX7_goesAsSeen 44 = .ok (.getfield 12, 3) := by decide +kernel
theorem dX7_goesAsSeen_47 : decode cX7_goesAsSeen 47 = .ok (.getfield 71, 3) := by decide +kernel
theorem dX7_goesAsSeen_50 : decode cX7_goesAsSeen 50 = .ok (.getfield 245, 3) := by decide +kernel
theorem dX7_goesAsSeen_53 : decode cX7_goesAsSeen 53 = .ok (.iload_n 2, 1) := by decide +kernel
theorem dX7_goesAsSeen_54 : decode cX7_goesAsSeen 54 = .ok (.iaload, 1) := by decide +kernel
theorem dX7_goesAsSeen_55 : decode cX7_goesAsSeen 55 = .ok (.if_icmp .eq 5, 3) := by decide +kernel
theorem dX7_goesAsSeen_58 : decode cX7_goesAsSeen 58 = .ok (.iconst 0, 1) := by decide +kernel
theorem dX7_goesAsSeen_59 : decode cX7_goesAsSeen 59 = .ok (.ireturn, 1) := by decide +kernel
theorem dX7_goesAsSeen_60 : decode cX7_goesAsSeen 60 = .ok (.iinc 2 1, 3) := by decide +kernel
theorem dX7_goesAsSeen_63 : decode cX7_goesAsSeen 63 = .ok (.goto (-61), 3) := by decide +kernel
theorem dX7_goesAsSeen_66 : decode cX7_goesAsSeen 66 = .ok (.iconst 1, 1) := by decide +kernel
theorem dX7_goesAsSeen_67 : decode cX7_goesAsSeen 67 = .ok (.ireturn, 1) := by decide +kernel
theorem dX7_goOn_0 : decode cX7_goOn 0 = .ok (.iload_n 1, 1) := by decide +kernel
theorem dX7_goOn_1 : decode cX7_goOn 1 = .ok (.ifCond .ne 11, 3) := by decide +kernel
theorem dX7_goOn_4 : decode cX7_goOn 4 = .ok (.aload_n 0, 1) := by decide +kernel
theorem dX7_goOn_5 : decode cX7_goOn 5 = .ok (.invokevirtual 174, 3) := by decide +kernel
theorem dX7_goOn_8 : decode cX7_goOn 8 = .ok (.pop, 1) := by decide +kernel
theorem dX7_goOn_9 : decode cX7_goOn 9 = .ok (.goto 34, 3) := by decide +kernel
theorem dX7_goOn_12 : decode cX7_goOn 12 = .ok (.iload_n 1, 1) := by decide +kernel
theorem dX7_goOn_13 : decode cX7_goOn 13 = .ok (.iconst 1, 1) := by decide +kernel
theorem dX7_goOn_14 : decode cX7_goOn 14 = .ok (.if_icmp .ne 19, 3) := by decide +kernel
theorem dX7_goOn_17 : decode cX7_goOn 17 = .ok (.aload_n 0, 1) := by decide +kernel
theorem dX7_goOn_18 : decode cX7_goOn 18 = .ok (.iload_n 2, 1) := by decide +kernel
theorem dX7_goOn_19 : decode cX7_goOn 19 = .ok (.invokevirtual 87, 3) := by decide +kernel
theorem dX7_goOn_22 : decode cX7_goOn 22 = .ok (.ifCond .eq 11, 3) := by decide +kernel
theorem dX7_goOn_25 : decode cX7_goOn 25 = .ok (.aload_n 0, 1) := by decide +kernel
theorem dX7_goOn_26 : decode cX7_goOn 26 = .ok (.iload_n 2, 1) := by decide +kernel
theorem dX7_goOn_27 : decode cX7_goOn 27 = .ok (.invokevirtual 192, 3) := by decide +kernel
theorem dX7_goOn_30 : decode cX7_goOn 30 = .ok (.goto 13, 3) := by decide +kernel
theorem dX7_goOn_33 : decode cX7_goOn 33 = .ok (.iload_n 1, 1) := by decide +kernel
theorem dX7_goOn_34 : decode cX7_goOn 34 = .ok (.iconst 2, 1) := by decide +kernel
theorem dX7_goOn_35 : decode cX7_goOn 35 = .ok (.if_icmp .ne 8, 3) := by decide +kernel
theorem dX7_goOn_38 : decode cX7_goOn 38 = .ok (.aload_n 0, 1) := by decide +kernel
theorem dX7_goOn_39 : decode cX7_goOn 39 = .ok (.iload_n 2, 1) := by decide +kernel
theorem dX7_goOn_40 : decode cX7_goOn 40 = .ok (.putfield 102, 3) := by decide +kernel
theorem dX7_goOn_43 : decode cX7_goOn 43 = .ok (.return_, 1) := by decide +kernel
theorem dX7_lowestTerms_0 : decode cX7_lowestTerms 0 = .ok (.iload_n 2, 1) := by decide +kernel
theorem dX7_lowestTerms_1 : decode cX7_lowestTerms 1 = .ok (.ifCond .eq 12, 3) := by decide +kernel
theorem dX7_lowestTerms_4 : decode cX7_lowestTerms 4 = .ok (.iload_n 2, 1) := by decide +kernel
theorem dX7_lowestTerms_5 : decode cX7_lowestTerms 5 = .ok (.iconst 1, 1) := by decide +kernel
theorem dX7_lowestTerms_6 : decode cX7_lowestTerms 6 = .ok (.if_icmp .eq 7, 3) := by decide +kernel
theorem dX7_lowestTerms_9 : decode cX7_lowestTerms 9 = .ok (.ldc2_w 136, 3) := by decide +kernel
theorem dX7_lowestTerms_12 : decode cX7_lowestTerms 12 = .ok (.lreturn, 1) := by decide +kernel
theorem dX7_lowestTerms_13 : decode cX7_lowestTerms 13 = .ok (.iconst 1, 1) := by decide +kernel
theorem dX7_lowestTerms_14 : decode cX7_lowestTerms 14 = .ok (.istore_n 3, 1) := by decide +kernel
theorem dX7_lowestTerms_15 : decode cX7_lowestTerms 15 = .ok (.iconst 2, 1) := by decide +kernel
theorem dX7_lowestTerms_16 : decode cX7_lowestTerms 16 = .ok (.istore 4, 2) := by decide +kernel
theorem dX7_lowestTerms_18 : decode cX7_lowestTerms 18 = .ok (.iload 4, 2) := by decide +kernel
theorem dX7_lowestTerms_20 : decode cX7_lowestTerms 20 = .ok (.iload_n 1, 1) := by decide +kernel
theorem dX7_lowestTerms_21 : decode cX7_lowestTerms 21 = .ok (.if_icmp .gt 26, 3) := by decide +kernel
theorem dX7_lowestTerms_24 : decode cX7_lowestTerms 24 = .ok (.iload_n 0, 1) := by decide +kernel
theorem dX7_lowestTerms_25 : decode cX7_lowestTerms 25 = .ok (.iload 4, 2) := by decide +kernel
theorem dX7_lowestTerms_27 : decode cX7_lowestTerms 27 = .ok (.irem, 1) := by decide +kernel
theorem dX7_lowestTerms_28 : decode cX7_lowestTerms 28 = .ok (.ifCond .ne 13, 3) := by decide +kernel
theorem dX7_lowestTerms_31 : decode cX7_lowestTerms 31 = .ok (.iload_n 1, 1) := by decide +kernel
theorem dX7_lowestTerms_32 : decode cX7_lowestTerms 32 = .ok (.iload 4, 2) := by decide +kernel
theorem dX7_lowestTerms_34 : decode cX7_lowestTerms 34 = .ok (.irem, 1) := by decide +kernel
theorem dX7_lowestTerms_35 : decode cX7_lowestTerms 35 = .ok (.ifCond .ne 6, 3) := by decide +kernel
theorem dX7_lowestTerms_38 : decode cX7_lowestTerms 38 = .ok (.iload 4, 2) := by decide +kernel
theorem dX7_lowestTerms_40 : decode cX7_lowestTerms 40 = .ok (.istore_n 3, 1) := by decide +kernel
theorem dX7_lowestTerms_41 : decode cX7_lowestTerms 41 = .ok (.iinc 4 1, 3) := by decide +kernel
theorem dX7_lowestTerms_44 : decode cX7_lowestTerms 44 = .ok (.goto (-26), 3) := by decide +kernel
theorem dX7_lowestTerms_47 : decode cX7_lowestTerms 47 = .ok (.iload_n 2, 1) := by decide +kernel
theorem dX7_lowestTerms_48 : decode cX7_lowestTerms 48 = .ok (.ifCond .ne 10, 3) := by decide +kernel
theorem dX7_lowestTerms_51 : decode cX7_lowestTerms 51 = .ok (.iload_n 0, 1) := by decide +kernel
theorem dX7_lowestTerms_52 : decode cX7_lowestTerms 52 = .ok (.iload_n 3, 1) := by decide +kernel
theorem dX7_lowestTerms_53 : decode cX7_lowestTerms 53 = .ok (.idiv, 1) := by decide +kernel
theorem dX7_lowestTerms_54 : decode cX7_lowestTerms 54 = .ok (.i2l, 1) := by decide +kernel
theorem dX7_lowestTerms_55 : decode cX7_lowestTerms 55 = .ok (.goto 7, 3) := by decide +kernel
theorem dX7_lowestTerms_58 : decode cX7_lowestTerms 58 = .ok (.iload_n 1, 1) := by decide +kernel
theorem dX7_lowestTerms_59 : decode cX7_lowestTerms 59 = .ok (.iload_n 3, 1) := by decide +kernel
theorem dX7_lowestTerms_60 : decode cX7_lowestTerms 60 = .ok (.idiv, 1) := by decide +kernel
theorem dX7_lowestTerms_61 : decode cX7_lowestTerms 61 = .ok (.i2l, 1) := by decide +kernel
theorem dX7_lowestTerms_62 : decode cX7_lowestTerms 62 = .ok (.lreturn, 1) := by decide +kernel
theorem dJ6_bitCount_0f7a4_0 : decode cJ6_bitCount_0f7a4 0 = .ok (.iload_n 0, 1) := by decide +kernel
theorem dJ6_bitCount_0f7a4_1 : decode cJ6_bitCount_0f7a4 1 = .ok (.iload_n 0, 1) := by decide +kernel
theorem dJ6_bitCount_0f7a4_2 : decode cJ6_bitCount_0f7a4 2 = .ok (.iconst 1, 1) := by decide +kernel
theorem dJ6_bitCount_0f7a4_3 : decode cJ6_bitCount_0f7a4 3 = .ok (.iushr, 1) := by decide +kernel
theorem dJ6_bitCount_0f7a4_4 : decode cJ6_bitCount_0f7a4 4 = .ok (.ldc_w 265, 3) := by decide +kernel
theorem dJ6_bitCount_0f7a4_7 : decode cJ6_bitCount_0f7a4 7 = .ok (.iand, 1) := by decide +kernel
theorem dJ6_bitCount_0f7a4_8 : decode cJ6_bitCount_0f7a4 8 = .ok (.isub, 1) := by decide +kernel
theorem dJ6_bitCount_0f7a4_9 : decode cJ6_bitCount_0f7a4 9 = .ok (.istore_n 0, 1) := by decide +kernel
theorem dJ6_bitCount_0f7a4_10 : decode cJ6_bitCount_0f7a4 10 = .ok (.iload_n 0, 1) := by decide +kernel
theorem dJ6_bitCount_0f7a4_11 : decode cJ6_bitCount_0f7a4 11 = .ok (.ldc_w 266, 3) := by decide +kernel
theorem dJ6_bitCount_0f7a4_14 : decode cJ6_bitCount_0f7a4 14 = .ok (.iand, 1) := by decide +kernel
theorem dJ6_bitCount_0f7a4_15 : decode cJ6_bitCount_0f7a4 15 = .ok (.iload_n 0, 1) := by decide +kernel
theorem dJ6_bitCount_0f7a4_16 : decode cJ6_bitCount_0f7a4 16 = .ok (.iconst 2, 1) := by decide +kernel
theorem dJ6_bitCount_0f7a4_17 : decode cJ6_bitCount_0f7a4 17 = .ok (.iushr, 1) := by decide +kernel
theorem dJ6_bitCount_0f7a4_18 : decode cJ6_bitCount_0f7a4 18 = .ok (.ldc_w 266, 3) := by decide +kernel
theorem dJ6_bitCount_0f7a4_21 : decode cJ6_bitCount_0f7a4 21 = .ok (.iand, 1) := by decide +kernel
theorem dJ6_bitCount_0f7a4_22 : decode cJ6_bitCount_0f7a4 22 = .ok (.iadd, 1) := by decide +kernel
theorem dJ6_bitCount_0f7a4_23 : decode cJ6_bitCount_0f7a4 23 = .ok (.istore_n 0, 1) := by decide +kernel
theorem dJ6_bitCount_0f7a4_24 : decode cJ6_bitCount_0f7a4 24 = .ok (.iload_n 0, 1) := by decide +kernel
theorem dJ6_bitCount_0f7a4_25 : decode cJ6_bitCount_0f7a4 25 = .ok (.iload_n 0, 1) := by decide +kernel
theorem dJ6_bitCount_0f7a4_26 : decode cJ6_bitCount_0f7a4 26 = .ok (.iconst 4, 1) := by decide +kernel
theorem dJ6_bitCount_0f7a4_27 : decode cJ6_bitCount_0f7a4 27 = .ok (.iushr, 1) := by decide +kernel
theorem dJ6_bitCount_0f7a4_28 : decode cJ6_bitCount_0f7a4 28 = .ok (.iadd, 1) := by decide +kernel
theorem dJ6_bitCount_0f7a4_29 : decode cJ6_bitCount_0f7a4 29 = .ok (.ldc_w 267, 3) := by decide +kernel
theorem dJ6_bitCount_0f7a4_32 : decode cJ6_bitCount_0f7a4 32 = .ok (.iand, 1) := by decide +kernel
theorem dJ6_bitCount_0f7a4_33 : decode cJ6_bitCount_0f7a4 33 = .ok (.istore_n 0, 1) := by decide +kernel
theorem dJ6_bitCount_0f7a4_34 : decode cJ6_bitCount_0f7a4 34 = .ok (.iload_n 0, 1) := by decide +kernel
theorem dJ6_bitCount_0f7a4_35 : decode cJ6_bitCount_0f7a4 35 = .ok (.iload_n 0, 1) := by decide +kernel
theorem dJ6_bitCount_0f7a4_36 : decode cJ6_bitCount_0f7a4 36 = .ok (.bipush 8, 2) := by decide +kernel
theorem dJ6_bitCount_0f7a4_38 : decode cJ6_bitCount_0f7a4 38 = .ok (.iushr, 1) := by decide +kernel
theorem dJ6_bitCount_0f7a4_39 : decode cJ6_bitCount_0f7a4 39 = .ok (.iadd, 1) := by decide +kernel
theorem dJ6_bitCount_0f7a4_40 : decode cJ6_bitCount_0f7a4 40 = .ok (.istore_n 0, 1) := by decide +kernel
theorem dJ6_bitCount_0f7a4_41 : decode cJ6_bitCount_0f7a4 41 = .ok (.iload_n 0, 1) := by decide +kernel
theorem dJ6_bitCount_0f7a4_42 : decode cJ6_bitCount_0f7a4 42 = .ok (.iload_n 0, 1) := by decide +kernel
theorem dJ6_bitCount_0f7a4_43 : decode cJ6_bitCount_0f7a4 43 = .ok (.bipush 16, 2) := by decide +kernel
theorem dJ6_bitCount_0f7a4_45 : decode cJ6_bitCount_0f7a4 45 = .ok (.iushr, 1) := by decide +kernel
theorem dJ6_bitCount_0f7a4_46 : decode cJ6_bitCount_0f7a4 46 = .ok (.iadd, 1) := by decide +kernel
theorem dJ6_bitCount_0f7a4_47 : decode cJ6_bitCount_0f7a4 47 = .ok (.istore_n 0, 1) := by decide +kernel
theorem dJ6_bitCount_0f7a4_48 : decode cJ6_bitCount_0f7a4 48 = .ok (.iload_n 0, 1) := by decide +kernel
theorem dJ6_bitCount_0f7a4_49 : decode cJ6_bitCount_0f7a4 49 = .ok (.bipush 63, 2) := by decide +kernel
theorem dJ6_bitCount_0f7a4_51 : decode cJ6_bitCount_0f7a4 51 = .ok (.iand, 1) := by decide +kernel
theorem dJ6_bitCount_0f7a4_52 : decode cJ6_bitCount_0f7a4 52 = .ok (.ireturn, 1) := by decide +kernel
theorem dJ9_max_7cf53_0 : decode cJ9_max_7cf53 0 = .ok (.iload_n 0, 1) := by decide +kernel
theorem dJ9_max_7cf53_1 : decode cJ9_max_7cf53 1 = .ok (.iload_n 1, 1) := by decide +kernel
theorem dJ9_max_7cf53_2 : decode cJ9_max_7cf53 2 = .ok (.if_icmp .lt 7, 3) := by decide +kernel
theorem dJ9_max_7cf53_5 : decode cJ9_max_7cf53 5 = .ok (.iload_n 0, 1) := by decide +kernel
theorem dJ9_max_7cf53_6 : decode cJ9_max_7cf53 6 = .ok (.goto 4, 3) := by decide +kernel
theorem dJ9_max_7cf53_9 : decode cJ9_max_7cf53 9 = .ok (.iload_n 1, 1) := by decide +kernel
theorem dJ9_max_7cf53_10 : decode cJ9_max_7cf53 10 = .ok (.ireturn, 1) := by decide +kernel
theorem dJ9_min_7cf53_0 : decode cJ9_min_7cf53 0 = .ok (.iload_n 0, 1) := by decide +kernel
theorem dJ9_min_7cf53_1 : decode cJ9_min_7cf53 1 = .ok (.iload_n 1, 1) := by decide +kernel
theorem dJ9_min_7cf53_2 : decode cJ9_min_7cf53 2 = .ok (.if_icmp .gt 7, 3) := by decide +kernel
theorem dJ9_min_7cf53_5 : decode cJ9_min_7cf53 5 = .ok (.iload_n 0, 1) := by decide +kernel
theorem dJ9_min_7cf53_6 : decode cJ9_min_7cf53 6 = .ok (.goto 4, 3) := by decide +kernel
theorem dJ9_min_7cf53_9 : decode cJ9_min_7cf53 9 = .ok (.iload_n 1, 1) := by decide +kernel
theorem dJ9_min_7cf53_10 : decode cJ9_min_7cf53 10 = .ok (.ireturn, 1) := by decide +kernel
