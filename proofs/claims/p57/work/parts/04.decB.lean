theorem dX7_readClosings_65 : decode cX7_readClosings 65 = .ok (.getfield 29, 3) := by decide +kernel
theorem dX7_readClosings_68 : decode cX7_readClosings 68 = .ok (.iconst 1, 1) := by decide +kernel
theorem dX7_readClosings_69 : decode cX7_readClosings 69 = .ok (.isub, 1) := by decide +kernel
theorem dX7_readClosings_70 : decode cX7_readClosings 70 = .ok (.putfield 29, 3) := by decide +kernel
theorem dX7_readClosings_73 : decode cX7_readClosings 73 = .ok (.aload_n 0, 1) := by decide +kernel
theorem dX7_readClosings_74 : decode cX7_readClosings 74 = .ok (.dup, 1) := by decide +kernel
theorem dX7_readClosings_75 : decode cX7_readClosings 75 = .ok (.getfield 32, 3) := by decide +kernel
theorem dX7_readClosings_78 : decode cX7_readClosings 78 = .ok (.iconst 1, 1) := by decide +kernel
theorem dX7_readClosings_79 : decode cX7_readClosings 79 = .ok (.isub, 1) := by decide +kernel
theorem dX7_readClosings_80 : decode cX7_readClosings 80 = .ok (.putfield 32, 3) := by decide +kernel
theorem dX7_readClosings_83 : decode cX7_readClosings 83 = .ok (.aload_n 0, 1) := by decide +kernel
theorem dX7_readClosings_84 : decode cX7_readClosings 84 = .ok (.iload_n 2, 1) := by decide +kernel
theorem dX7_readClosings_85 : decode cX7_readClosings 85 = .ok (.invokevirtual 80, 3) := by decide +kernel
theorem dX7_readClosings_88 : decode cX7_readClosings 88 = .ok (.iinc 1 1, 3) := by decide +kernel
theorem dX7_readClosings_91 : decode cX7_readClosings 91 = .ok (.goto (-89), 3) := by decide +kernel
theorem dX7_readClosings_94 : decode cX7_readClosings 94 = .ok (.return_, 1) := by decide +kernel
theorem dX7_joinsNext_0 : decode cX7_joinsNext 0 = .ok (.aload_n 0, 1) := by decide +kernel
theorem dX7_joinsNext_1 : decode cX7_joinsNext 1 = .ok (.invokevirtual 70, 3) := by decide +kernel
theorem dX7_joinsNext_4 : decode cX7_joinsNext 4 = .ok (.istore_n 1, 1) := by decide +kernel
theorem dX7_joinsNext_5 : decode cX7_joinsNext 5 = .ok (.iload_n 1, 1) := by decide +kernel
theorem dX7_joinsNext_6 : decode cX7_joinsNext 6 = .ok (.bipush 38, 2) := by decide +kernel
theorem dX7_joinsNext_8 : decode cX7_joinsNext 8 = .ok (.if_icmp .eq 11, 3) := by decide +kernel
theorem dX7_joinsNext_11 : decode cX7_joinsNext 11 = .ok (.iload_n 1, 1) := by decide +kernel
theorem dX7_joinsNext_12 : decode cX7_joinsNext 12 = .ok (.bipush 124, 2) := by decide +kernel
theorem dX7_joinsNext_14 : decode cX7_joinsNext 14 = .ok (.if_icmp .eq 5, 3) := by decide +kernel
theorem dX7_joinsNext_17 : decode cX7_joinsNext 17 = .ok (.iconst 0, 1) := by decide +kernel
theorem dX7_joinsNext_18 : decode cX7_joinsNext 18 = .ok (.ireturn, 1) := by decide +kernel
theorem dX7_joinsNext_19 : decode cX7_joinsNext 19 = .ok (.aload_n 0, 1) := by decide +kernel
theorem dX7_joinsNext_20 : decode cX7_joinsNext 20 = .ok (.dup, 1) := by decide +kernel
theorem dX7_joinsNext_21 : decode cX7_joinsNext 21 = .ok (.getfield 23, 3) := by decide +kernel
theorem dX7_joinsNext_24 : decode cX7_joinsNext 24 = .ok (.iconst 1, 1) := by decide +kernel
theorem dX7_joinsNext_25 : decode cX7_joinsNext 25 = .ok (.iadd, 1) := by decide +kernel
theorem dX7_joinsNext_26 : decode cX7_joinsNext 26 = .ok (.putfield 23, 3) := by decide +kernel
theorem dX7_joinsNext_29 : decode cX7_joinsNext 29 = .ok (.iload_n 1, 1) := by decide +kernel
theorem dX7_joinsNext_30 : decode cX7_joinsNext 30 = .ok (.bipush 124, 2) := by decide +kernel
theorem dX7_joinsNext_32 : decode cX7_joinsNext 32 = .ok (.if_icmp .ne 51, 3) := by decide +kernel
theorem dX7_joinsNext_35 : decode cX7_joinsNext 35 = .ok (.aload_n 0, 1) := by decide +kernel
theorem dX7_joinsNext_36 : decode cX7_joinsNext 36 = .ok (.getfield 35, 3) := by decide +kernel
theorem dX7_joinsNext_39 : decode cX7_joinsNext 39 = .ok (.aload_n 0, 1) := by decide +kernel
theorem dX7_joinsNext_40 : decode cX7_joinsNext 40 = .ok (.getfield 32, 3) := by decide +kernel
theorem dX7_joinsNext_43 : decode cX7_joinsNext 43 = .ok (.aload_n 0, 1) := by decide +kernel
theorem dX7_joinsNext_44 : decode cX7_joinsNext 44 = .ok (.getfield 35, 3) := by decide +kernel
theorem dX7_joinsNext_47 : decode cX7_joinsNext 47 = .ok (.aload_n 0, 1) := by decide +kernel
theorem dX7_joinsNext_48 : decode cX7_joinsNext 48 = .ok (.getfield 32, 3) := by decide +kernel
theorem dX7_joinsNext_51 : decode cX7_joinsNext 51 = .ok (.baload, 1) := by decide +kernel
theorem dX7_joinsNext_52 : decode cX7_joinsNext 52 = .ok (.ifCond .ne 15, 3) := by decide +kernel
theorem dX7_joinsNext_55 : decode cX7_joinsNext 55 = .ok (.aload_n 0, 1) := by decide +kernel
theorem dX7_joinsNext_56 : decode cX7_joinsNext 56 = .ok (.getfield 39, 3) := by decide +kernel
theorem dX7_joinsNext_59 : decode cX7_joinsNext 59 = .ok (.aload_n 0, 1) := by decide +kernel
theorem dX7_joinsNext_60 : decode cX7_joinsNext 60 = .ok (.getfield 32, 3) := by decide +kernel
theorem dX7_joinsNext_63 : decode cX7_joinsNext 63 = .ok (.baload, 1) := by decide +kernel
theorem dX7_joinsNext_64 : decode cX7_joinsNext 64 = .ok (.ifCond .eq 7, 3) := by decide +kernel
theorem dX7_joinsNext_67 : decode cX7_joinsNext 67 = .ok (.iconst 1, 1) := by decide +kernel
theorem dX7_joinsNext_68 : decode cX7_joinsNext 68 = .ok (.goto 4, 3) := by decide +kernel
theorem dX7_joinsNext_71 : decode cX7_joinsNext 71 = .ok (.iconst 0, 1) := by decide +kernel
theorem dX7_joinsNext_72 : decode cX7_joinsNext 72 = .ok (.bastore, 1) := by decide +kernel
theorem dX7_joinsNext_73 : decode cX7_joinsNext 73 = .ok (.aload_n 0, 1) := by decide +kernel
theorem dX7_joinsNext_74 : decode cX7_joinsNext 74 = .ok (.getfield 39, 3) := by decide +kernel
theorem dX7_joinsNext_77 : decode cX7_joinsNext 77 = .ok (.aload_n 0, 1) := by decide +kernel
theorem dX7_joinsNext_78 : decode cX7_joinsNext 78 = .ok (.getfield 32, 3) := by decide +kernel
theorem dX7_joinsNext_81 : decode cX7_joinsNext 81 = .ok (.iconst 1, 1) := by decide +kernel
theorem dX7_joinsNext_82 : decode cX7_joinsNext 82 = .ok (.bastore, 1) := by decide +kernel
theorem dX7_joinsNext_83 : decode cX7_joinsNext 83 = .ok (.iconst 1, 1) := by decide +kernel
theorem dX7_joinsNext_84 : decode cX7_joinsNext 84 = .ok (.ireturn, 1) := by decide +kernel
theorem dX7_comparisonHolds_0 : decode cX7_comparisonHolds 0 = .ok (.aload_n 0, 1) := by decide +kernel
theorem dX7_comparisonHolds_1 : decode cX7_comparisonHolds 1 = .ok (.invokevirtual 90, 3) := by decide +kernel
theorem dX7_comparisonHolds_4 : decode cX7_comparisonHolds 4 = .ok (.istore_n 1, 1) := by decide +kernel
theorem dX7_comparisonHolds_5 : decode cX7_comparisonHolds 5 = .ok (.aload_n 0, 1) := by decide +kernel
theorem dX7_comparisonHolds_6 : decode cX7_comparisonHolds 6 = .ok (.invokevirtual 70, 3) := by decide +kernel
theorem dX7_comparisonHolds_9 : decode cX7_comparisonHolds 9 = .ok (.istore_n 2, 1) := by decide +kernel
theorem dX7_comparisonHolds_10 : decode cX7_comparisonHolds 10 = .ok (.aload_n 0, 1) := by decide +kernel
theorem dX7_comparisonHolds_11 : decode cX7_comparisonHolds 11 = .ok (.bipush 60, 2) := by decide +kernel
theorem dX7_comparisonHolds_13 : decode cX7_comparisonHolds 13 = .ok (.bipush 62, 2) := by decide +kernel
theorem dX7_comparisonHolds_15 : decode cX7_comparisonHolds 15 = .ok (.invokevirtual 49, 3) := by decide +kernel
theorem dX7_comparisonHolds_18 : decode cX7_comparisonHolds 18 = .ok (.aload_n 0, 1) := by decide +kernel
theorem dX7_comparisonHolds_19 : decode cX7_comparisonHolds 19 = .ok (.invokevirtual 90, 3) := by decide +kernel
theorem dX7_comparisonHolds_22 : decode cX7_comparisonHolds 22 = .ok (.istore_n 3, 1) := by decide +kernel
theorem dX7_comparisonHolds_23 : decode cX7_comparisonHolds 23 = .ok (.iload_n 2, 1) := by decide +kernel
theorem dX7_comparisonHolds_24 : decode cX7_comparisonHolds 24 = .ok (.bipush 60, 2) := by decide +kernel
theorem dX7_comparisonHolds_26 : decode cX7_comparisonHolds 26 = .ok (.if_icmp .ne 16, 3) := by decide +kernel
theorem dX7_comparisonHolds_29 : decode cX7_comparisonHolds 29 = .ok (.iload_n 1, 1) := by decide +kernel
theorem dX7_comparisonHolds_30 : decode cX7_comparisonHolds 30 = .ok (.iload_n 3, 1) := by decide +kernel
theorem dX7_comparisonHolds_31 : decode cX7_comparisonHolds 31 = .ok (.if_icmp .ge 7, 3) := by decide +kernel
theorem dX7_comparisonHolds_34 : decode cX7_comparisonHolds 34 = .ok (.iconst 1, 1) := by decide +kernel
theorem dX7_comparisonHolds_35 : decode cX7_comparisonHolds 35 = .ok (.goto 36, 3) := by decide +kernel
theorem dX7_comparisonHolds_38 : decode cX7_comparisonHolds 38 = .ok (.iconst 0, 1) := by decide +kernel
theorem dX7_comparisonHolds_39 : decode cX7_comparisonHolds 39 = .ok (.goto 32, 3) := by decide +kernel
theorem dX7_comparisonHolds_42 : decode cX7_comparisonHolds 42 = .ok (.iload_n 2, 1) := by decide +kernel
theorem dX7_comparisonHolds_43 : decode cX7_comparisonHolds 43 = .ok (.bipush 61, 2) := by decide +kernel
theorem dX7_comparisonHolds_45 : decode cX7_comparisonHolds 45 = .ok (.if_icmp .ne 16, 3) := by decide +kernel
theorem dX7_comparisonHolds_48 : decode cX7_comparisonHolds 48 = .ok (.iload_n 1, 1) := by decide +kernel
theorem dX7_comparisonHolds_49 : decode cX7_comparisonHolds 49 = .ok (.iload_n 3, 1) := by decide +kernel
theorem dX7_comparisonHolds_50 : decode cX7_comparisonHolds 50 = .ok (.if_icmp .ne 7, 3) := by decide +kernel
theorem dX7_comparisonHolds_53 : decode cX7_comparisonHolds 53 = .ok (.iconst 1, 1) := by decide +kernel
theorem dX7_comparisonHolds_54 : decode cX7_comparisonHolds 54 = .ok (.goto 17, 3) := by decide +kernel
theorem dX7_comparisonHolds_57 : decode cX7_comparisonHolds 57 = .ok (.iconst 0, 1) := by decide +kernel
theorem dX7_comparisonHolds_58 : decode cX7_comparisonHolds 58 = .ok (.goto 13, 3) := by decide +kernel
theorem dX7_comparisonHolds_61 : decode cX7_comparisonHolds 61 = .ok (.iload_n 1, 1) := by decide +kernel
theorem dX7_comparisonHolds_62 : decode cX7_comparisonHolds 62 = .ok (.iload_n 3, 1) := by decide +kernel
theorem dX7_comparisonHolds_63 : decode cX7_comparisonHolds 63 = .ok (.if_icmp .le 7, 3) := by decide +kernel
theorem dX7_comparisonHolds_66 : decode cX7_comparisonHolds 66 = .ok (.iconst 1, 1) := by decide +kernel
theorem dX7_comparisonHolds_67 : decode cX7_comparisonHolds 67 = .ok (.goto 4, 3) := by decide +kernel
theorem dX7_comparisonHolds_70 : decode cX7_comparisonHolds 70 = .ok (.iconst 0, 1) := by decide +kernel
theorem dX7_comparisonHolds_71 : decode cX7_comparisonHolds 71 = .ok (.ireturn, 1) := by decide +kernel
theorem dX7_sum_0 : decode cX7_sum 0 = .ok (.aload_n 0, 1) := by decide +kernel
theorem dX7_sum_1 : decode cX7_sum 1 = .ok (.invokevirtual 93, 3) := by decide +kernel
theorem dX7_sum_4 : decode cX7_sum 4 = .ok (.istore_n 1, 1) := by decide +kernel
theorem dX7_sum_5 : decode cX7_sum 5 = .ok (.iconst 0, 1) := by decide +kernel
theorem dX7_sum_6 : decode cX7_sum 6 = .ok (.istore_n 2, 1) := by decide +kernel
theorem dX7_sum_7 : decode cX7_sum 7 = .ok (.iload_n 2, 1) := by decide +kernel
theorem dX7_sum_8 : decode cX7_sum 8 = .ok (.bipush 60, 2) := by decide +kernel
theorem dX7_sum_10 : decode cX7_sum 10 = .ok (.if_icmp .ge 81, 3) := by decide +kernel
theorem dX7_sum_13 : decode cX7_sum 13 = .ok (.aload_n 0, 1) := by decide +kernel
theorem dX7_sum_14 : decode cX7_sum 14 = .ok (.invokevirtual 70, 3) := by decide +kernel
theorem dX7_sum_17 : decode cX7_sum 17 = .ok (.istore_n 3, 1) := by decide +kernel
theorem dX7_sum_18 : decode cX7_sum 18 = .ok (.iload_n 3, 1) := by decide +kernel
theorem dX7_sum_19 : decode cX7_sum 19 = .ok (.bipush 43, 2) := by decide +kernel
theorem dX7_sum_21 : decode cX7_sum 21 = .ok (.if_icmp .eq 17, 3) := by decide +kernel
theorem dX7_sum_24 : decode cX7_sum 24 = .ok (.iload_n 3, 1) := by decide +kernel
theorem dX7_sum_25 : decode cX7_sum 25 = .ok (.bipush 45, 2) := by decide +kernel
theorem dX7_sum_27 : decode cX7_sum 27 = .ok (.if_icmp .eq 11, 3) := by decide +kernel
theorem dX7_sum_30 : decode cX7_sum 30 = .ok (.iload_n 3, 1) := by decide +kernel
theorem dX7_sum_31 : decode cX7_sum 31 = .ok (.bipush 42, 2) := by decide +kernel
theorem dX7_sum_33 : decode cX7_sum 33 = .ok (.if_icmp .eq 5, 3) := by decide +kernel
theorem dX7_sum_36 : decode cX7_sum 36 = .ok (.iload_n 1, 1) := by decide +kernel
theorem dX7_sum_37 : decode cX7_sum 37 = .ok (.ireturn, 1) := by decide +kernel
theorem dX7_sum_38 : decode cX7_sum 38 = .ok (.aload_n 0, 1) := by decide +kernel
theorem dX7_sum_39 : decode cX7_sum 39 = .ok (.dup, 1) := by decide +kernel
theorem dX7_sum_40 : decode cX7_sum 40 = .ok (.getfield 23, 3) := by decide +kernel
theorem dX7_sum_43 : decode cX7_sum 43 = .ok (.iconst 1, 1) := by decide +kernel
theorem dX7_sum_44 : decode cX7_sum 44 = .ok (.iadd, 1) := by decide +kernel
theorem dX7_sum_45 : decode cX7_sum 45 = .ok (.putfield 23, 3) := by decide +kernel
theorem dX7_sum_48 : decode cX7_sum 48 = .ok (.aload_n 0, 1) := by decide +kernel
theorem dX7_sum_49 : decode cX7_sum 49 = .ok (.invokevirtual 93, 3) := by decide +kernel
theorem dX7_sum_52 : decode cX7_sum 52 = .ok (.istore 4, 2) := by decide +kernel
theorem dX7_sum_54 : decode cX7_sum 54 = .ok (.iload_n 3, 1) := by decide +kernel
theorem dX7_sum_55 : decode cX7_sum 55 = .ok (.bipush 43, 2) := by decide +kernel
theorem dX7_sum_57 : decode cX7_sum 57 = .ok (.if_icmp .ne 10, 3) := by decide +kernel
theorem dX7_sum_60 : decode cX7_sum 60 = .ok (.iload_n 1, 1) := by decide +kernel
theorem dX7_sum_61 : decode cX7_sum 61 = .ok (.iload 4, 2) := by decide +kernel
theorem dX7_sum_63 : decode cX7_sum 63 = .ok (.iadd, 1) := by decide +kernel
theorem dX7_sum_64 : decode cX7_sum 64 = .ok (.goto 20, 3) := by decide +kernel
theorem dX7_sum_67 : decode cX7_sum 67 = .ok (.iload_n 3, 1) := by decide +kernel
theorem dX7_sum_68 : decode cX7_sum 68 = .ok (.bipush 45, 2) := by decide +kernel
theorem dX7_sum_70 : decode cX7_sum 70 = .ok (.if_icmp .ne 10, 3) := by decide +kernel
theorem dX7_sum_73 : decode cX7_sum 73 = .ok (.iload_n 1, 1) := by decide +kernel
theorem dX7_sum_74 : decode cX7_sum 74 = .ok (.iload 4, 2) := by decide +kernel
theorem dX7_sum_76 : decode cX7_sum 76 = .ok (.isub, 1) := by decide +kernel
theorem dX7_sum_77 : decode cX7_sum 77 = .ok (.goto 7, 3) := by decide +kernel
theorem dX7_sum_80 : decode cX7_sum 80 = .ok (.iload_n 1, 1) := by decide +kernel
theorem dX7_sum_81 : decode cX7_sum 81 = .ok (.iload 4, 2) := by decide +kernel
theorem dX7_sum_83 : decode cX7_sum 83 = .ok (.imul, 1) := by decide +kernel
theorem dX7_sum_84 : decode cX7_sum 84 = .ok (.istore_n 1, 1) := by decide +kernel
theorem dX7_sum_85 : decode cX7_sum 85 = .ok (.iinc 2 1, 3) := by decide +kernel
theorem dX7_sum_88 : decode cX7_sum 88 = .ok (.goto (-81), 3) := by decide +kernel
theorem dX7_sum_91 : decode cX7_sum 91 = .ok (.iload_n 1, 1) := by decide +kernel
theorem dX7_sum_92 : decode cX7_sum 92 = .ok (.ireturn, 1) := by decide +kernel
theorem dX7_unit_0 : decode cX7_unit 0 = .ok (.aload_n 0, 1) := by decide +kernel
theorem dX7_unit_1 : decode cX7_unit 1 = .ok (.invokevirtual 70, 3) := by decide +kernel
theorem dX7_unit_4 : decode cX7_unit 4 = .ok (.istore_n 1, 1) := by decide +kernel
theorem dX7_unit_5 : decode cX7_unit 5 = .ok (.iload_n 1, 1) := by decide +kernel
theorem dX7_unit_6 : decode cX7_unit 6 = .ok (.bipush 48, 2) := by decide +kernel
theorem dX7_unit_8 : decode cX7_unit 8 = .ok (.if_icmp .lt 9, 3) := by decide +kernel
theorem dX7_unit_11 : decode cX7_unit 11 = .ok (.iload_n 1, 1) := by decide +kernel
theorem dX7_unit_12 : decode cX7_unit 12 = .ok (.bipush 57, 2) := by decide +kernel
theorem dX7_unit_14 : decode cX7_unit 14 = .ok (.if_icmp .le 44, 3) := by decide +kernel
theorem dX7_unit_17 : decode cX7_unit 17 = .ok (.iload_n 1, 1) := by decide +kernel
theorem dX7_unit_18 : decode cX7_unit 18 = .ok (.invokestatic 96, 3) := by decide +kernel
theorem dX7_unit_21 : decode cX7_unit 21 = .ok (.istore_n 2, 1) := by decide +kernel
theorem dX7_unit_22 : decode cX7_unit 22 = .ok (.iload_n 2, 1) := by decide +kernel
theorem dX7_unit_23 : decode cX7_unit 23 = .ok (.ifCond .lt 12, 3) := by decide +kernel
theorem dX7_unit_26 : decode cX7_unit 26 = .ok (.iload_n 2, 1) := by decide +kernel
theorem dX7_unit_27 : decode cX7_unit 27 = .ok (.aload_n 0, 1) := by decide +kernel
theorem dX7_unit_28 : decode cX7_unit 28 = .ok (.getfield 9, 3) := by decide +kernel
theorem dX7_unit_31 : decode cX7_unit 31 = .ok (.arraylength, 1) := by decide +kernel
theorem dX7_unit_32 : decode cX7_unit 32 = .ok (.if_icmp .lt 9, 3) := by decide +kernel
theorem dX7_unit_35 : decode cX7_unit 35 = .ok (.aload_n 0, 1) := by decide +kernel
theorem dX7_unit_36 : decode cX7_unit 36 = .ok (.invokevirtual 57, 3) := by decide +kernel
theorem dX7_unit_39 : decode cX7_unit 39 = .ok (.iconst 0, 1) := by decide +kernel
theorem dX7_unit_40 : decode cX7_unit 40 = .ok (.ireturn, 1) := by decide +kernel
theorem dX7_unit_41 : decode cX7_unit 41 = .ok (.aload_n 0, 1) := by decide +kernel
theorem dX7_unit_42 : decode cX7_unit 42 = .ok (.dup, 1) := by decide +kernel
theorem dX7_unit_43 : decode cX7_unit 43 = .ok (.getfield 23, 3) := by decide +kernel
theorem dX7_unit_46 : decode cX7_unit 46 = .ok (.iconst 1, 1) := by decide +kernel
theorem dX7_unit_47 : decode cX7_unit 47 = .ok (.iadd, 1) := by decide +kernel
theorem dX7_unit_48 : decode cX7_unit 48 = .ok (.putfield 23, 3) := by decide +kernel
theorem dX7_unit_51 : decode cX7_unit 51 = .ok (.aload_n 0, 1) := by decide +kernel
theorem dX7_unit_52 : decode cX7_unit 52 = .ok (.getfield 9, 3) := by decide +kernel
theorem dX7_unit_55 : decode cX7_unit 55 = .ok (.iload_n 2, 1) := by decide +kernel
theorem dX7_unit_56 : decode cX7_unit 56 = .ok (.iaload, 1) := by decide +kernel
theorem dX7_unit_57 : decode cX7_unit 57 = .ok (.ireturn, 1) := by decide +kernel
theorem dX7_unit_58 : decode cX7_unit 58 = .ok (.iconst 0, 1) := by decide +kernel
theorem dX7_unit_59 : decode cX7_unit 59 = .ok (.istore_n 2, 1) := by decide +kernel
theorem dX7_unit_60 : decode cX7_unit 60 = .ok (.iconst 0, 1) := by decide +kernel
theorem dX7_unit_61 : decode cX7_unit 61 = .ok (.istore_n 3, 1) := by decide +kernel
theorem dX7_unit_62 : decode cX7_unit 62 = .ok (.iload_n 3, 1) := by decide +kernel
theorem dX7_unit_63 : decode cX7_unit 63 = .ok (.iconst 4, 1) := by decide +kernel
theorem dX7_unit_64 : decode cX7_unit 64 = .ok (.if_icmp .ge 46, 3) := by decide +kernel
theorem dX7_unit_67 : decode cX7_unit 67 = .ok (.iload_n 1, 1) := by decide +kernel
theorem dX7_unit_68 : decode cX7_unit 68 = .ok (.bipush 48, 2) := by decide +kernel
theorem dX7_unit_70 : decode cX7_unit 70 = .ok (.if_icmp .lt 40, 3) := by decide +kernel
theorem dX7_unit_73 : decode cX7_unit 73 = .ok (.iload_n 1, 1) := by decide +kernel
theorem dX7_unit_74 : decode cX7_unit 74 = .ok (.bipush 57, 2) := by decide +kernel
theorem dX7_unit_76 : decode cX7_unit 76 = .ok (.if_icmp .gt 34, 3) := by decide +kernel
theorem dX7_unit_79 : decode cX7_unit 79 = .ok (.bipush 10, 2) := by decide +kernel
theorem dX7_unit_81 : decode cX7_unit 81 = .ok (.iload_n 2, 1) := by decide +kernel
theorem dX7_unit_82 : decode cX7_unit 82 = .ok (.imul, 1) := by decide +kernel
theorem dX7_unit_83 : decode cX7_unit 83 = .ok (.iload_n 1, 1) := by decide +kernel
theorem dX7_unit_84 : decode cX7_unit 84 = .ok (.iadd, 1) := by decide +kernel
theorem dX7_unit_85 : decode cX7_unit 85 = .ok (.bipush 48, 2) := by decide +kernel
theorem dX7_unit_87 : decode cX7_unit 87 = .ok (.isub, 1) := by decide +kernel
theorem dX7_unit_88 : decode cX7_unit 88 = .ok (.istore_n 2, 1) := by decide +kernel
theorem dX7_unit_89 : decode cX7_unit 89 = .ok (.aload_n 0, 1) := by decide +kernel
theorem dX7_unit_90 : decode cX7_unit 90 = .ok (.dup, 1) := by decide +kernel
theorem dX7_unit_91 : decode cX7_unit 91 = .ok (.getfield 23, 3) := by decide +kernel
theorem dX7_unit_94 : decode cX7_unit 94 = .ok (.iconst 1, 1) := by decide +kernel
theorem dX7_unit_95 : decode cX7_unit 95 = .ok (.iadd, 1) := by decide +kernel
theorem dX7_unit_96 : decode cX7_unit 96 = .ok (.putfield 23, 3) := by decide +kernel
theorem dX7_unit_99 : decode cX7_unit 99 = .ok (.aload_n 0, 1) := by decide +kernel
theorem dX7_unit_100 : decode cX7_unit 100 = .ok (.invokevirtual 70, 3) := by decide +kernel
theorem dX7_unit_103 : decode cX7_unit 103 = .ok (.istore_n 1, 1) := by decide +kernel
theorem dX7_unit_104 : decode cX7_unit 104 = .ok (.iinc 3 1, 3) := by decide +kernel
theorem dX7_unit_107 : decode cX7_unit 107 = .ok (.goto (-45), 3) := by decide +kernel
theorem dX7_unit_110 : decode cX7_unit 110 = .ok (.iload_n 2, 1) := by decide +kernel
theorem dX7_unit_111 : decode cX7_unit 111 = .ok (.ireturn, 1) := by decide +kernel
theorem dX7_factOf_0 : decode cX7_factOf 0 = .ok (.iload_n 0, 1) := by decide +kernel
theorem dX7_factOf_1 : decode cX7_factOf 1 = .ok (.lookupswitch 71 #[(99, 67), (109, 65), (110, 59), (115, 63), (117, 69), (119, 61)], 59) := by decide +kernel
theorem dX7_factOf_60 : decode cX7_factOf 60 = .ok (.iconst 0, 1) := by decide +kernel
theorem dX7_factOf_61 : decode cX7_factOf 61 = .ok (.ireturn, 1) := by decide +kernel
theorem dX7_factOf_62 : decode cX7_factOf 62 = .ok (.iconst 1, 1) := by decide +kernel
theorem dX7_factOf_63 : decode cX7_factOf 63 = .ok (.ireturn, 1) := by decide +kernel
theorem dX7_factOf_64 : decode cX7_factOf 64 = .ok (.iconst 2, 1) := by decide +kernel
theorem dX7_factOf_65 : decode cX7_factOf 65 = .ok (.ireturn, 1) := by decide +kernel
theorem dX7_factOf_66 : decode cX7_factOf 66 = .ok (.iconst 3, 1) := by decide +kernel
theorem dX7_factOf_67 : decode cX7_factOf 67 = .ok (.ireturn, 1) := by decide +kernel
theorem dX7_factOf_68 : decode cX7_factOf 68 = .ok (.iconst 4, 1) := by decide +kernel
theorem dX7_factOf_69 : decode cX7_factOf 69 = .ok (.ireturn, 1) := by decide +kernel
theorem dX7_factOf_70 : decode cX7_factOf 70 = .ok (.iconst 5, 1) := by decide +kernel
theorem dX7_factOf_71 : decode cX7_factOf 71 = .ok (.ireturn, 1) := by decide +kernel
theorem dX7_factOf_72 : decode cX7_factOf 72 = .ok (.bipush (-9), 2) := by decide +kernel
theorem dX7_factOf_74 : decode cX7_factOf 74 = .ok (.ireturn, 1) := by decide +kernel
theorem dX8_init_0 : decode cX8_init 0 = .ok (.aload_n 0, 1) := by decide +kernel
theorem dX8_init_1 : decode cX8_init 1 = .ok (.invokespecial 3, 3) := by decide +kernel
theorem dX8_init_4 : decode cX8_init 4 = .ok (.aload_n 0, 1) := by decide +kernel
theorem dX8_init_5 : decode cX8_init 5 = .ok (.iconst 3, 1) := by decide +kernel
theorem dX8_init_6 : decode cX8_init 6 = .ok (.newarray .int, 2) := by decide +kernel
theorem dX8_init_8 : decode cX8_init 8 = .ok (.dup, 1) := by decide +kernel
theorem dX8_init_9 : decode cX8_init 9 = .ok (.iconst 0, 1) := by decide +kernel
theorem dX8_init_10 : decode cX8_init 10 = .ok (.iconst 1, 1) := by decide +kernel
theorem dX8_init_11 : decode cX8_init 11 = .ok (.iastore, 1) := by decide +kernel
theorem dX8_init_12 : decode cX8_init 12 = .ok (.dup, 1) := by decide +kernel
theorem dX8_init_13 : decode cX8_init 13 = .ok (.iconst 1, 1) := by decide +kernel
theorem dX8_init_14 : decode cX8_init 14 = .ok (.iconst 1, 1) := by decide +kernel
theorem dX8_init_15 : decode cX8_init 15 = .ok (.iastore, 1) := by decide +kernel
theorem dX8_init_16 : decode cX8_init 16 = .ok (.dup, 1) := by decide +kernel
theorem dX8_init_17 : decode cX8_init 17 = .ok (.iconst 2, 1) := by decide +kernel
theorem dX8_init_18 : decode cX8_init 18 = .ok (.iconst 1, 1) := by decide +kernel
theorem dX8_init_19 : decode cX8_init 19 = .ok (.iastore, 1) := by decide +kernel
theorem dX8_init_20 : decode cX8_init 20 = .ok (.putfield 9, 3) := by decide +kernel
theorem dX8_init_23 : decode cX8_init 23 = .ok (.aload_n 0, 1) := by decide +kernel
theorem dX8_init_24 : decode cX8_init 24 = .ok (.iconst 4, 1) := by decide +kernel
theorem dX8_init_25 : decode cX8_init 25 = .ok (.newarray .int, 2) := by decide +kernel
theorem dX8_init_27 : decode cX8_init 27 = .ok (.putfield 15, 3) := by decide +kernel
theorem dX8_init_30 : decode cX8_init 30 = .ok (.aload_n 0, 1) := by decide +kernel
theorem dX8_init_31 : decode cX8_init 31 = .ok (.iconst 0, 1) := by decide +kernel
theorem dX8_init_32 : decode cX8_init 32 = .ok (.putfield 18, 3) := by decide +kernel
theorem dX8_init_35 : decode cX8_init 35 = .ok (.aload_n 0, 1) := by decide +kernel
theorem dX8_init_36 : decode cX8_init 36 = .ok (.iconst 0, 1) := by decide +kernel
theorem dX8_init_37 : decode cX8_init 37 = .ok (.putfield 22, 3) := by decide +kernel
theorem dX8_init_40 : decode cX8_init 40 = .ok (.aload_n 0, 1) := by decide +kernel
theorem dX8_init_41 : decode cX8_init 41 = .ok (.iconst 0, 1) := by decide +kernel
theorem dX8_init_42 : decode cX8_init 42 = .ok (.putfield 25, 3) := by decide +kernel
theorem dX8_init_45 : decode cX8_init 45 = .ok (.aload_n 0, 1) := by decide +kernel
theorem dX8_init_46 : decode cX8_init 46 = .ok (.bipush 24, 2) := by decide +kernel
theorem dX8_init_48 : decode cX8_init 48 = .ok (.newarray .int, 2) := by decide +kernel
theorem dX8_init_50 : decode cX8_init 50 = .ok (.putfield 28, 3) := by decide +kernel
theorem dX8_init_53 : decode cX8_init 53 = .ok (.aload_n 0, 1) := by decide +kernel
theorem dX8_init_54 : decode cX8_init 54 = .ok (.bipush 24, 2) := by decide +kernel
theorem dX8_init_56 : decode cX8_init 56 = .ok (.newarray .int, 2) := by decide +kernel
theorem dX8_init_58 : decode cX8_init 58 = .ok (.putfield 31, 3) := by decide +kernel
theorem dX8_init_61 : decode cX8_init 61 = .ok (.aload_n 0, 1) := by decide +kernel
theorem dX8_init_62 : decode cX8_init 62 = .ok (.bipush 24, 2) := by decide +kernel
theorem dX8_init_64 : decode cX8_init 64 = .ok (.newarray .int, 2) := by decide +kernel
theorem dX8_init_66 : decode cX8_init 66 = .ok (.putfield 34, 3) := by decide +kernel
theorem dX8_init_69 : decode cX8_init 69 = .ok (.aload_n 0, 1) := by decide +kernel
theorem dX8_init_70 : decode cX8_init 70 = .ok (.iconst 4, 1) := by decide +kernel
theorem dX8_init_71 : decode cX8_init 71 = .ok (.bipush 24, 2) := by decide +kernel
theorem dX8_init_73 : decode cX8_init 73 = .ok (.multianewarray 37 2, 4) := by decide +kernel
theorem dX8_init_77 : decode cX8_init 77 = .ok (.putfield 39, 3) := by decide +kernel
theorem dX8_init_80 : decode cX8_init 80 = .ok (.aload_n 0, 1) := by decide +kernel
theorem dX8_init_81 : decode cX8_init 81 = .ok (.iconst 5, 1) := by decide +kernel
theorem dX8_init_82 : decode cX8_init 82 = .ok (.newarray .int, 2) := by decide +kernel
theorem dX8_init_84 : decode cX8_init 84 = .ok (.putfield 42, 3) := by decide +kernel
theorem dX8_init_87 : decode cX8_init 87 = .ok (.aload_n 0, 1) := by decide +kernel
theorem dX8_init_88 : decode cX8_init 88 = .ok (.iconst 4, 1) := by decide +kernel
theorem dX8_init_89 : decode cX8_init 89 = .ok (.newarray .int, 2) := by decide +kernel
theorem dX8_init_91 : decode cX8_init 91 = .ok (.putfield 45, 3) := by decide +kernel
theorem dX8_init_94 : decode cX8_init 94 = .ok (.aload_n 0, 1) := by decide +kernel
theorem dX8_init_95 : decode cX8_init 95 = .ok (.iconst 4, 1) := by decide +kernel
theorem dX8_init_96 : decode cX8_init 96 = .ok (.newarray .int, 2) := by decide +kernel
theorem dX8_init_98 : decode cX8_init 98 = .ok (.putfield 48, 3) := by decide +kernel
theorem dX8_init_101 : decode cX8_init 101 = .ok (.aload_n 0, 1) := by decide +kernel
theorem dX8_init_102 : decode cX8_init 102 = .ok (.bipush (-9), 2) := by decide +kernel
theorem dX8_init_104 : decode cX8_init 104 = .ok (.putfield 51, 3) := by decide +kernel
theorem dX8_init_107 : decode cX8_init 107 = .ok (.aload_n 0, 1) := by decide +kernel
theorem dX8_init_108 : decode cX8_init 108 = .ok (.sipush 1024, 3) := by decide +kernel
theorem dX8_init_111 : decode cX8_init 111 = .ok (.newarray .long, 2) := by decide +kernel
theorem dX8_init_113 : decode cX8_init 113 = .ok (.putfield 54, 3) := by decide +kernel
theorem dX8_init_116 : decode cX8_init 116 = .ok (.aload_n 0, 1) := by decide +kernel
theorem dX8_init_117 : decode cX8_init 117 = .ok (.sipush 1024, 3) := by decide +kernel
theorem dX8_init_120 : decode cX8_init 120 = .ok (.newarray .int, 2) := by decide +kernel
theorem dX8_init_122 : decode cX8_init 122 = .ok (.putfield 58, 3) := by decide +kernel
theorem dX8_init_125 : decode cX8_init 125 = .ok (.aload_n 0, 1) := by decide +kernel
theorem dX8_init_126 : decode cX8_init 126 = .ok (.iconst 0, 1) := by decide +kernel
theorem dX8_init_127 : decode cX8_init 127 = .ok (.putfield 61, 3) := by decide +kernel
theorem dX8_init_130 : decode cX8_init 130 = .ok (.aload_n 0, 1) := by decide +kernel
theorem dX8_init_131 : decode cX8_init 131 = .ok (.bipush (-9), 2) := by decide +kernel
theorem dX8_init_133 : decode cX8_init 133 = .ok (.putfield 65, 3) := by decide +kernel
theorem dX8_init_136 : decode cX8_init 136 = .ok (.return_, 1) := by decide +kernel
theorem dX9_init_0 : decode cX9_init 0 = .ok (.aload_n 0, 1) := by decide +kernel
theorem dX9_init_1 : decode cX9_init 1 = .ok (.invokespecial 3, 3) := by decide +kernel
theorem dX9_init_4 : decode cX9_init 4 = .ok (.aload_n 0, 1) := by decide +kernel
theorem dX9_init_5 : decode cX9_init 5 = .ok (.iconst 0, 1) := by decide +kernel
theorem dX9_init_6 : decode cX9_init 6 = .ok (.putfield 9, 3) := by decide +kernel
theorem dX9_init_9 : decode cX9_init 9 = .ok (.aload_n 0, 1) := by decide +kernel
theorem dX9_init_10 : decode cX9_init 10 = .ok (.bipush 24, 2) := by decide +kernel
theorem dX9_init_12 : decode cX9_init 12 = .ok (.newarray .int, 2) := by decide +kernel
theorem dX9_init_14 : decode cX9_init 14 = .ok (.putfield 15, 3) := by decide +kernel
theorem dX9_init_17 : decode cX9_init 17 = .ok (.aload_n 0, 1) := by decide +kernel
theorem dX9_init_18 : decode cX9_init 18 = .ok (.bipush 24, 2) := by decide +kernel
theorem dX9_init_20 : decode cX9_init 20 = .ok (.newarray .boolean, 2) := by decide +kernel
theorem dX9_init_22 : decode cX9_init 22 = .ok (.putfield 19, 3) := by decide +kernel
theorem dX9_init_25 : decode cX9_init 25 = .ok (.aload_n 0, 1) := by decide +kernel
theorem dX9_init_26 : decode cX9_init 26 = .ok (.bipush 24, 2) := by decide +kernel
theorem dX9_init_28 : decode cX9_init 28 = .ok (.newarray .int, 2) := by decide +kernel
theorem dX9_init_30 : decode cX9_init 30 = .ok (.putfield 23, 3) := by decide +kernel
theorem dX9_init_33 : decode cX9_init 33 = .ok (.aload_n 0, 1) := by decide +kernel
theorem dX9_init_34 : decode cX9_init 34 = .ok (.bipush 24, 2) := by decide +kernel
theorem dX9_init_36 : decode cX9_init 36 = .ok (.newarray .int, 2) := by decide +kernel
theorem dX9_init_38 : decode cX9_init 38 = .ok (.putfield 26, 3) := by decide +kernel
theorem dX9_init_41 : decode cX9_init 41 = .ok (.aload_n 0, 1) := by decide +kernel
theorem dX9_init_42 : decode cX9_init 42 = .ok (.bipush 24, 2) := by decide +kernel
theorem dX9_init_44 : decode cX9_init 44 = .ok (.newarray .int, 2) := by decide +kernel
theorem dX9_init_46 : decode cX9_init 46 = .ok (.putfield 29, 3) := by decide +kernel
theorem dX9_init_49 : decode cX9_init 49 = .ok (.aload_n 0, 1) := by decide +kernel
theorem dX9_init_50 : decode cX9_init 50 = .ok (.bipush 24, 2) := by decide +kernel
theorem dX9_init_52 : decode cX9_init 52 = .ok (.newarray .int, 2) := by decide +kernel
theorem dX9_init_54 : decode cX9_init 54 = .ok (.putfield 32, 3) := by decide +kernel
theorem dX9_init_57 : decode cX9_init 57 = .ok (.aload_n 0, 1) := by decide +kernel
theorem dX9_init_58 : decode cX9_init 58 = .ok (.bipush 24, 2) := by decide +kernel
theorem dX9_init_60 : decode cX9_init 60 = .ok (.newarray .int, 2) := by decide +kernel
theorem dX9_init_62 : decode cX9_init 62 = .ok (.putfield 35, 3) := by decide +kernel
theorem dX9_init_65 : decode cX9_init 65 = .ok (.aload_n 0, 1) := by decide +kernel
theorem dX9_init_66 : decode cX9_init 66 = .ok (.bipush 24, 2) := by decide +kernel
theorem dX9_init_68 : decode cX9_init 68 = .ok (.newarray .int, 2) := by decide +kernel
theorem dX9_init_70 : decode cX9_init 70 = .ok (.putfield 38, 3) := by decide +kernel
theorem dX9_init_73 : decode cX9_init 73 = .ok (.aload_n 0, 1) := by decide +kernel
theorem dX9_init_74 : decode cX9_init 74 = .ok (.bipush 24, 2) := by decide +kernel
theorem dX9_init_76 : decode cX9_init 76 = .ok (.newarray .int, 2) := by decide +kernel
theorem dX9_init_78 : decode cX9_init 78 = .ok (.putfield 41, 3) := by decide +kernel
theorem dX9_init_81 : decode cX9_init 81 = .ok (.aload_n 0, 1) := by decide +kernel
theorem dX9_init_82 : decode cX9_init 82 = .ok (.iconst 4, 1) := by decide +kernel
theorem dX9_init_83 : decode cX9_init 83 = .ok (.newarray .int, 2) := by decide +kernel
theorem dX9_init_85 : decode cX9_init 85 = .ok (.dup, 1) := by decide +kernel
theorem dX9_init_86 : decode cX9_init 86 = .ok (.iconst 0, 1) := by decide +kernel
theorem dX9_init_87 : decode cX9_init 87 = .ok (.iconst 1, 1) := by decide +kernel
theorem dX9_init_88 : decode cX9_init 88 = .ok (.iastore, 1) := by decide +kernel
theorem dX9_init_89 : decode cX9_init 89 = .ok (.dup, 1) := by decide +kernel
theorem dX9_init_90 : decode cX9_init 90 = .ok (.iconst 1, 1) := by decide +kernel
theorem dX9_init_91 : decode cX9_init 91 = .ok (.iconst 1, 1) := by decide +kernel
theorem dX9_init_92 : decode cX9_init 92 = .ok (.iastore, 1) := by decide +kernel
theorem dX9_init_93 : decode cX9_init 93 = .ok (.dup, 1) := by decide +kernel
theorem dX9_init_94 : decode cX9_init 94 = .ok (.iconst 2, 1) := by decide +kernel
theorem dX9_init_95 : decode cX9_init 95 = .ok (.iconst 1, 1) := by decide +kernel
theorem dX9_init_96 : decode cX9_init 96 = .ok (.iastore, 1) := by decide +kernel
theorem dX9_init_97 : decode cX9_init 97 = .ok (.dup, 1) := by decide +kernel
theorem dX9_init_98 : decode cX9_init 98 = .ok (.iconst 3, 1) := by decide +kernel
theorem dX9_init_99 : decode cX9_init 99 = .ok (.iconst 1, 1) := by decide +kernel
theorem dX9_init_100 : decode cX9_init 100 = .ok (.iastore, 1) := by decide +kernel
theorem dX9_init_101 : decode cX9_init 101 = .ok (.putfield 44, 3) := by decide +kernel
theorem dX9_init_104 : decode cX9_init 104 = .ok (.aload_n 0, 1) := by decide +kernel
theorem dX9_init_105 : decode cX9_init 105 = .ok (.bipush (-9), 2) := by decide +kernel
theorem dX9_init_107 : decode cX9_init 107 = .ok (.putfield 47, 3) := by decide +kernel
theorem dX9_init_110 : decode cX9_init 110 = .ok (.return_, 1) := by decide +kernel
theorem dX9_hereIn_0 : decode cX9_hereIn 0 = .ok (.iconst 0, 1) := by decide +kernel
theorem dX9_hereIn_1 : decode cX9_hereIn 1 = .ok (.istore_n 2, 1) := by decide +kernel
theorem dX9_hereIn_2 : decode cX9_hereIn 2 = .ok (.iconst 0, 1) := by decide +kernel
theorem dX9_hereIn_3 : decode cX9_hereIn 3 = .ok (.istore_n 3, 1) := by decide +kernel
theorem dX9_hereIn_4 : decode cX9_hereIn 4 = .ok (.iload_n 3, 1) := by decide +kernel
theorem dX9_hereIn_5 : decode cX9_hereIn 5 = .ok (.aload_n 0, 1) := by decide +kernel
theorem dX9_hereIn_6 : decode cX9_hereIn 6 = .ok (.getfield 9, 3) := by decide +kernel
theorem dX9_hereIn_9 : decode cX9_hereIn 9 = .ok (.if_icmp .ge 35, 3) := by decide +kernel
theorem dX9_hereIn_12 : decode cX9_hereIn 12 = .ok (.aload_n 0, 1) := by decide +kernel
theorem dX9_hereIn_13 : decode cX9_hereIn 13 = .ok (.getfield 19, 3) := by decide +kernel
theorem dX9_hereIn_16 : decode cX9_hereIn 16 = .ok (.iload_n 3, 1) := by decide +kernel
theorem dX9_hereIn_17 : decode cX9_hereIn 17 = .ok (.baload, 1) := by decide +kernel
theorem dX9_hereIn_18 : decode cX9_hereIn 18 = .ok (.ifCond .eq 20, 3) := by decide +kernel
theorem dX9_hereIn_21 : decode cX9_hereIn 21 = .ok (.iload_n 1, 1) := by decide +kernel
theorem dX9_hereIn_22 : decode cX9_hereIn 22 = .ok (.aload_n 0, 1) := by decide +kernel
theorem dX9_hereIn_23 : decode cX9_hereIn 23 = .ok (.getfield 15, 3) := by decide +kernel
theorem dX9_hereIn_26 : decode cX9_hereIn 26 = .ok (.iload_n 3, 1) := by decide +kernel
theorem dX9_hereIn_27 : decode cX9_hereIn 27 = .ok (.iaload, 1) := by decide +kernel
theorem dX9_hereIn_28 : decode cX9_hereIn 28 = .ok (.ishr, 1) := by decide +kernel
theorem dX9_hereIn_29 : decode cX9_hereIn 29 = .ok (.iconst 1, 1) := by decide +kernel
theorem dX9_hereIn_30 : decode cX9_hereIn 30 = .ok (.iand, 1) := by decide +kernel
theorem dX9_hereIn_31 : decode cX9_hereIn 31 = .ok (.iconst 1, 1) := by decide +kernel
theorem dX9_hereIn_32 : decode cX9_hereIn 32 = .ok (.if_icmp .ne 6, 3) := by decide +kernel
theorem dX9_hereIn_35 : decode cX9_hereIn 35 = .ok (.iinc 2 1, 3) := by decide +kernel
theorem dX9_hereIn_38 : decode cX9_hereIn 38 = .ok (.iinc 3 1, 3) := by decide +kernel
theorem dX9_hereIn_41 : decode cX9_hereIn 41 = .ok (.goto (-37), 3) := by decide +kernel
theorem dX9_hereIn_44 : decode cX9_hereIn 44 = .ok (.iload_n 2, 1) := by decide +kernel
theorem dX9_hereIn_45 : decode cX9_hereIn 45 = .ok (.ireturn, 1) := by decide +kernel
theorem dX10_init_0 : decode cX10_init 0 = .ok (.aload_n 0, 1) := by decide +kernel
theorem dX10_init_1 : decode cX10_init 1 = .ok (.invokespecial 3, 3) := by decide +kernel
theorem dX10_init_4 : decode cX10_init 4 = .ok (.aload_n 0, 1) := by decide +kernel
theorem dX10_init_5 : decode cX10_init 5 = .ok (.iconst 5, 1) := by decide +kernel
theorem dX10_init_6 : decode cX10_init 6 = .ok (.newarray .int, 2) := by decide +kernel
theorem dX10_init_8 : decode cX10_init 8 = .ok (.putfield 9, 3) := by decide +kernel
theorem dX10_init_11 : decode cX10_init 11 = .ok (.aload_n 0, 1) := by decide +kernel
theorem dX10_init_12 : decode cX10_init 12 = .ok (.iconst 5, 1) := by decide +kernel
theorem dX10_init_13 : decode cX10_init 13 = .ok (.bipush 12, 2) := by decide +kernel
theorem dX10_init_15 : decode cX10_init 15 = .ok (.multianewarray 15 2, 4) := by decide +kernel
theorem dX10_init_19 : decode cX10_init 19 = .ok (.putfield 17, 3) := by decide +kernel
theorem dX10_init_22 : decode cX10_init 22 = .ok (.aload_n 0, 1) := by decide +kernel
theorem dX10_init_23 : decode cX10_init 23 = .ok (.iconst 5, 1) := by decide +kernel
theorem dX10_init_24 : decode cX10_init 24 = .ok (.bipush 12, 2) := by decide +kernel
theorem dX10_init_26 : decode cX10_init 26 = .ok (.multianewarray 15 2, 4) := by decide +kernel
theorem dX10_init_30 : decode cX10_init 30 = .ok (.putfield 20, 3) := by decide +kernel
theorem dX10_init_33 : decode cX10_init 33 = .ok (.return_, 1) := by decide +kernel
theorem dX11_init_0 : decode cX11_init 0 = .ok (.aload_n 0, 1) := by decide +kernel
theorem dX11_init_1 : decode cX11_init 1 = .ok (.invokespecial 1, 3) := by decide +kernel
theorem dX11_init_4 : decode cX11_init 4 = .ok (.aload_n 0, 1) := by decide +kernel
theorem dX11_init_5 : decode cX11_init 5 = .ok (.new 7, 3) := by decide +kernel
theorem dX11_init_8 : decode cX11_init 8 = .ok (.dup, 1) := by decide +kernel
theorem dX11_init_9 : decode cX11_init 9 = .ok (.invokespecial 9, 3) := by decide +kernel
theorem dX11_init_12 : decode cX11_init 12 = .ok (.putfield 10, 3) := by decide +kernel
theorem dX11_init_15 : decode cX11_init 15 = .ok (.aload_n 0, 1) := by decide +kernel
theorem dX11_init_16 : decode cX11_init 16 = .ok (.new 16, 3) := by decide +kernel
theorem dX11_init_19 : decode cX11_init 19 = .ok (.dup, 1) := by decide +kernel
theorem dX11_init_20 : decode cX11_init 20 = .ok (.invokespecial 18, 3) := by decide +kernel
theorem dX11_init_23 : decode cX11_init 23 = .ok (.putfield 19, 3) := by decide +kernel
theorem dX11_init_26 : decode cX11_init 26 = .ok (.aload_n 0, 1) := by decide +kernel
theorem dX11_init_27 : decode cX11_init 27 = .ok (.new 23, 3) := by decide +kernel
theorem dX11_init_30 : decode cX11_init 30 = .ok (.dup, 1) := by decide +kernel
theorem dX11_init_31 : decode cX11_init 31 = .ok (.invokespecial 25, 3) := by decide +kernel
theorem dX11_init_34 : decode cX11_init 34 = .ok (.putfield 26, 3) := by decide +kernel
theorem dX11_init_37 : decode cX11_init 37 = .ok (.aload_n 0, 1) := by decide +kernel
theorem dX11_init_38 : decode cX11_init 38 = .ok (.new 30, 3) := by decide +kernel
theorem dX11_init_41 : decode cX11_init 41 = .ok (.dup, 1) := by decide +kernel
theorem dX11_init_42 : decode cX11_init 42 = .ok (.invokespecial 32, 3) := by decide +kernel
theorem dX11_init_45 : decode cX11_init 45 = .ok (.putfield 33, 3) := by decide +kernel
theorem dX11_init_48 : decode cX11_init 48 = .ok (.aload_n 0, 1) := by decide +kernel
theorem dX11_init_49 : decode cX11_init 49 = .ok (.bipush 40, 2) := by decide +kernel
theorem dX11_init_51 : decode cX11_init 51 = .ok (.anewarray 37, 3) := by decide +kernel
theorem dX11_init_54 : decode cX11_init 54 = .ok (.putfield 39, 3) := by decide +kernel
theorem dX11_init_57 : decode cX11_init 57 = .ok (.aload_n 0, 1) := by decide +kernel
theorem dX11_init_58 : decode cX11_init 58 = .ok (.iconst 0, 1) := by decide +kernel
theorem dX11_init_59 : decode cX11_init 59 = .ok (.putfield 43, 3) := by decide +kernel
theorem dX11_init_62 : decode cX11_init 62 = .ok (.aload_n 0, 1) := by decide +kernel
theorem dX11_init_63 : decode cX11_init 63 = .ok (.new 47, 3) := by decide +kernel
theorem dX11_init_66 : decode cX11_init 66 = .ok (.dup, 1) := by decide +kernel
theorem dX11_init_67 : decode cX11_init 67 = .ok (.invokespecial 49, 3) := by decide +kernel
theorem dX11_init_70 : decode cX11_init 70 = .ok (.putfield 50, 3) := by decide +kernel
theorem dX11_init_73 : decode cX11_init 73 = .ok (.aload_n 0, 1) := by decide +kernel
theorem dX11_init_74 : decode cX11_init 74 = .ok (.new 54, 3) := by decide +kernel
theorem dX11_init_77 : decode cX11_init 77 = .ok (.dup, 1) := by decide +kernel
theorem dX11_init_78 : decode cX11_init 78 = .ok (.invokespecial 56, 3) := by decide +kernel
theorem dX11_init_81 : decode cX11_init 81 = .ok (.putfield 57, 3) := by decide +kernel
theorem dX11_init_84 : decode cX11_init 84 = .ok (.aload_n 0, 1) := by decide +kernel
theorem dX11_init_85 : decode cX11_init 85 = .ok (.new 61, 3) := by decide +kernel
theorem dX11_init_88 : decode cX11_init 88 = .ok (.dup, 1) := by decide +kernel
theorem dX11_init_89 : decode cX11_init 89 = .ok (.invokespecial 63, 3) := by decide +kernel
theorem dX11_init_92 : decode cX11_init 92 = .ok (.putfield 64, 3) := by decide +kernel
theorem dX11_init_95 : decode cX11_init 95 = .ok (.aload_n 0, 1) := by decide +kernel
theorem dX11_init_96 : decode cX11_init 96 = .ok (.new 68, 3) := by decide +kernel
theorem dX11_init_99 : decode cX11_init 99 = .ok (.dup, 1) := by decide +kernel
theorem dX11_init_100 : decode cX11_init 100 = .ok (.invokespecial 70, 3) := by decide +kernel
theorem dX11_init_103 : decode cX11_init 103 = .ok (.putfield 71, 3) := by decide +kernel
theorem dX11_init_106 : decode cX11_init 106 = .ok (.aload_n 0, 1) := by decide +kernel
theorem dX11_init_107 : decode cX11_init 107 = .ok (.new 75, 3) := by decide +kernel
theorem dX11_init_110 : decode cX11_init 110 = .ok (.dup, 1) := by decide +kernel
theorem dX11_init_111 : decode cX11_init 111 = .ok (.invokespecial 77, 3) := by decide +kernel
theorem dX11_init_114 : decode cX11_init 114 = .ok (.putfield 78, 3) := by decide +kernel
theorem dX11_init_117 : decode cX11_init 117 = .ok (.aload_n 0, 1) := by decide +kernel
theorem dX11_init_118 : decode cX11_init 118 = .ok (.iconst 5, 1) := by decide +kernel
theorem dX11_init_119 : decode cX11_init 119 = .ok (.iconst 3, 1) := by decide +kernel
theorem dX11_init_120 : decode cX11_init 120 = .ok (.multianewarray 82 2, 4) := by decide +kernel
theorem dX11_init_124 : decode cX11_init 124 = .ok (.putfield 84, 3) := by decide +kernel
theorem dX11_init_127 : decode cX11_init 127 = .ok (.aload_n 0, 1) := by decide +kernel
theorem dX11_init_128 : decode cX11_init 128 = .ok (.iconst 5, 1) := by decide +kernel
theorem dX11_init_129 : decode cX11_init 129 = .ok (.newarray .int, 2) := by decide +kernel
theorem dX11_init_131 : decode cX11_init 131 = .ok (.dup, 1) := by decide +kernel
theorem dX11_init_132 : decode cX11_init 132 = .ok (.iconst 0, 1) := by decide +kernel
theorem dX11_init_133 : decode cX11_init 133 = .ok (.iconst 3, 1) := by decide +kernel
theorem dX11_init_134 : decode cX11_init 134 = .ok (.iastore, 1) := by decide +kernel
theorem dX11_init_135 : decode cX11_init 135 = .ok (.dup, 1) := by decide +kernel
theorem dX11_init_136 : decode cX11_init 136 = .ok (.iconst 1, 1) := by decide +kernel
theorem dX11_init_137 : decode cX11_init 137 = .ok (.bipush 30, 2) := by decide +kernel
theorem dX11_init_139 : decode cX11_init 139 = .ok (.iastore, 1) := by decide +kernel
theorem dX11_init_140 : decode cX11_init 140 = .ok (.dup, 1) := by decide +kernel
theorem dX11_init_141 : decode cX11_init 141 = .ok (.iconst 2, 1) := by decide +kernel
theorem dX11_init_142 : decode cX11_init 142 = .ok (.bipush 14, 2) := by decide +kernel
theorem dX11_init_144 : decode cX11_init 144 = .ok (.iastore, 1) := by decide +kernel
theorem dX11_init_145 : decode cX11_init 145 = .ok (.dup, 1) := by decide +kernel
theorem dX11_init_146 : decode cX11_init 146 = .ok (.iconst 3, 1) := by decide +kernel
theorem dX11_init_147 : decode cX11_init 147 = .ok (.iconst 3, 1) := by decide +kernel
theorem dX11_init_148 : decode cX11_init 148 = .ok (.iastore, 1) := by decide +kernel
theorem dX11_init_149 : decode cX11_init 149 = .ok (.dup, 1) := by decide +kernel
theorem dX11_init_150 : decode cX11_init 150 = .ok (.iconst 4, 1) := by decide +kernel
theorem dX11_init_151 : decode cX11_init 151 = .ok (.iconst 3, 1) := by decide +kernel
theorem dX11_init_152 : decode cX11_init 152 = .ok (.iastore, 1) := by decide +kernel
theorem dX11_init_153 : decode cX11_init 153 = .ok (.putfield 87, 3) := by decide +kernel
theorem dX11_init_156 : decode cX11_init 156 = .ok (.aload_n 0, 1) := by decide +kernel
theorem dX11_init_157 : decode cX11_init 157 = .ok (.bipush 40, 2) := by decide +kernel
theorem dX11_init_159 : decode cX11_init 159 = .ok (.newarray .int, 2) := by decide +kernel
theorem dX11_init_161 : decode cX11_init 161 = .ok (.putfield 91, 3) := by decide +kernel
theorem dX11_init_164 : decode cX11_init 164 = .ok (.aload_n 0, 1) := by decide +kernel
theorem dX11_init_165 : decode cX11_init 165 = .ok (.iconst 0, 1) := by decide +kernel
theorem dX11_init_166 : decode cX11_init 166 = .ok (.putfield 94, 3) := by decide +kernel
theorem dX11_init_169 : decode cX11_init 169 = .ok (.aload_n 0, 1) := by decide +kernel
theorem dX11_init_170 : decode cX11_init 170 = .ok (.bipush 7, 2) := by decide +kernel
theorem dX11_init_172 : decode cX11_init 172 = .ok (.newarray .int, 2) := by decide +kernel
theorem dX11_init_174 : decode cX11_init 174 = .ok (.putfield 97, 3) := by decide +kernel
theorem dX11_init_177 : decode cX11_init 177 = .ok (.iconst 0, 1) := by decide +kernel
theorem dX11_init_178 : decode cX11_init 178 = .ok (.istore_n 1, 1) := by decide +kernel
theorem dX11_init_179 : decode cX11_init 179 = .ok (.iload_n 1, 1) := by decide +kernel
theorem dX11_init_180 : decode cX11_init 180 = .ok (.bipush 40, 2) := by decide +kernel
theorem dX11_init_182 : decode cX11_init 182 = .ok (.if_icmp .ge 30, 3) := by decide +kernel
theorem dX11_init_185 : decode cX11_init 185 = .ok (.aload_n 0, 1) := by decide +kernel
theorem dX11_init_186 : decode cX11_init 186 = .ok (.getfield 39, 3) := by decide +kernel
theorem dX11_init_189 : decode cX11_init 189 = .ok (.iload_n 1, 1) := by decide +kernel
theorem dX11_init_190 : decode cX11_init 190 = .ok (.new 37, 3) := by decide +kernel
theorem dX11_init_193 : decode cX11_init 193 = .ok (.dup, 1) := by decide +kernel
theorem dX11_init_194 : decode cX11_init 194 = .ok (.aload_n 0, 1) := by decide +kernel
theorem dX11_init_195 : decode cX11_init 195 = .ok (.getfield 10, 3) := by decide +kernel
theorem dX11_init_198 : decode cX11_init 198 = .ok (.aload_n 0, 1) := by decide +kernel
theorem dX11_init_199 : decode cX11_init 199 = .ok (.getfield 33, 3) := by decide +kernel
theorem dX11_init_202 : decode cX11_init 202 = .ok (.invokespecial 100, 3) := by decide +kernel
theorem dX11_init_205 : decode cX11_init 205 = .ok (.aastore, 1) := by decide +kernel
theorem dX11_init_206 : decode cX11_init 206 = .ok (.iinc 1 1, 3) := by decide +kernel
theorem dX11_init_209 : decode cX11_init 209 = .ok (.goto (-30), 3) := by decide +kernel
theorem dX11_init_212 : decode cX11_init 212 = .ok (.iconst 0, 1) := by decide +kernel
theorem dX11_init_213 : decode cX11_init 213 = .ok (.istore_n 1, 1) := by decide +kernel
theorem dX11_init_214 : decode cX11_init 214 = .ok (.iload_n 1, 1) := by decide +kernel
theorem dX11_init_215 : decode cX11_init 215 = .ok (.iconst 5, 1) := by decide +kernel
theorem dX11_init_216 : decode cX11_init 216 = .ok (.if_icmp .ge 41, 3) := by decide +kernel
theorem dX11_init_219 : decode cX11_init 219 = .ok (.aload_n 0, 1) := by decide +kernel
theorem dX11_init_220 : decode cX11_init 220 = .ok (.getfield 84, 3) := by decide +kernel
theorem dX11_init_223 : decode cX11_init 223 = .ok (.iload_n 1, 1) := by decide +kernel
theorem dX11_init_224 : decode cX11_init 224 = .ok (.aaload, 1) := by decide +kernel
theorem dX11_init_225 : decode cX11_init 225 = .ok (.iconst 1, 1) := by decide +kernel
theorem dX11_init_226 : decode cX11_init 226 = .ok (.iconst 5, 1) := by decide +kernel
theorem dX11_init_227 : decode cX11_init 227 = .ok (.iastore, 1) := by decide +kernel
theorem dX11_init_228 : decode cX11_init 228 = .ok (.aload_n 0, 1) := by decide +kernel
theorem dX11_init_229 : decode cX11_init 229 = .ok (.getfield 84, 3) := by decide +kernel
theorem dX11_init_232 : decode cX11_init 232 = .ok (.iload_n 1, 1) := by decide +kernel
theorem dX11_init_233 : decode cX11_init 233 = .ok (.aaload, 1) := by decide +kernel
theorem dX11_init_234 : decode cX11_init 234 = .ok (.iconst 2, 1) := by decide +kernel
theorem dX11_init_235 : decode cX11_init 235 = .ok (.iload_n 1, 1) := by decide +kernel
theorem dX11_init_236 : decode cX11_init 236 = .ok (.iconst 1, 1) := by decide +kernel
theorem dX11_init_237 : decode cX11_init 237 = .ok (.if_icmp .eq 8, 3) := by decide +kernel
theorem dX11_init_240 : decode cX11_init 240 = .ok (.iload_n 1, 1) := by decide +kernel
theorem dX11_init_241 : decode cX11_init 241 = .ok (.iconst 2, 1) := by decide +kernel
theorem dX11_init_242 : decode cX11_init 242 = .ok (.if_icmp .ne 7, 3) := by decide +kernel
theorem dX11_init_245 : decode cX11_init 245 = .ok (.iconst 1, 1) := by decide +kernel
theorem dX11_init_246 : decode cX11_init 246 = .ok (.goto 4, 3) := by decide +kernel
theorem dX11_init_249 : decode cX11_init 249 = .ok (.iconst 0, 1) := by decide +kernel
theorem dX11_init_250 : decode cX11_init 250 = .ok (.iastore, 1) := by decide +kernel
theorem dX11_init_251 : decode cX11_init 251 = .ok (.iinc 1 1, 3) := by decide +kernel
theorem dX11_init_254 : decode cX11_init 254 = .ok (.goto (-40), 3) := by decide +kernel
theorem dX11_init_257 : decode cX11_init 257 = .ok (.return_, 1) := by decide +kernel
theorem dX11_days_0 : decode cX11_days 0 = .ok (.iload_n 1, 1) := by decide +kernel
theorem dX11_days_1 : decode cX11_days 1 = .ok (.iconst 1, 1) := by decide +kernel
theorem dX11_days_2 : decode cX11_days 2 = .ok (.if_icmp .ge 10, 3) := by decide +kernel
theorem dX11_days_5 : decode cX11_days 5 = .ok (.aload_n 0, 1) := by decide +kernel
theorem dX11_days_6 : decode cX11_days 6 = .ok (.bipush (-4), 2) := by decide +kernel
theorem dX11_days_8 : decode cX11_days 8 = .ok (.invokevirtual 103, 3) := by decide +kernel
theorem dX11_days_11 : decode cX11_days 11 = .ok (.ireturn, 1) := by decide +kernel
theorem dX11_days_12 : decode cX11_days 12 = .ok (.iload_n 1, 1) := by decide +kernel
theorem dX11_days_13 : decode cX11_days 13 = .ok (.sipush 1000, 3) := by decide +kernel
theorem dX11_days_16 : decode cX11_days 16 = .ok (.aload_n 0, 1) := by decide +kernel
theorem dX11_days_17 : decode cX11_days 17 = .ok (.getfield 10, 3) := by decide +kernel
theorem dX11_days_20 : decode cX11_days 20 = .ok (.getfield 107, 3) := by decide +kernel
theorem dX11_days_23 : decode cX11_days 23 = .ok (.isub, 1) := by decide +kernel
theorem dX11_days_24 : decode cX11_days 24 = .ok (.if_icmp .le 10, 3) := by decide +kernel
theorem dX11_days_27 : decode cX11_days 27 = .ok (.aload_n 0, 1) := by decide +kernel
theorem dX11_days_28 : decode cX11_days 28 = .ok (.bipush (-6), 2) := by decide +kernel
theorem dX11_days_30 : decode cX11_days 30 = .ok (.invokevirtual 103, 3) := by decide +kernel
theorem dX11_days_33 : decode cX11_days 33 = .ok (.ireturn, 1) := by decide +kernel
theorem dX11_days_34 : decode cX11_days 34 = .ok (.aload_n 0, 1) := by decide +kernel
theorem dX11_days_35 : decode cX11_days 35 = .ok (.getfield 10, 3) := by decide +kernel
theorem dX11_days_38 : decode cX11_days 38 = .ok (.dup, 1) := by decide +kernel
theorem dX11_days_39 : decode cX11_days 39 = .ok (.getfield 107, 3) := by decide +kernel
theorem dX11_days_42 : decode cX11_days 42 = .ok (.iload_n 1, 1) := by decide +kernel
theorem dX11_days_43 : decode cX11_days 43 = .ok (.iadd, 1) := by decide +kernel
theorem dX11_days_44 : decode cX11_days 44 = .ok (.putfield 107, 3) := by decide +kernel
theorem dX11_days_47 : decode cX11_days 47 = .ok (.aload_n 0, 1) := by decide +kernel
theorem dX11_days_48 : decode cX11_days 48 = .ok (.getfield 10, 3) := by decide +kernel
theorem dX11_days_51 : decode cX11_days 51 = .ok (.getfield 107, 3) := by decide +kernel
theorem dX11_days_54 : decode cX11_days 54 = .ok (.ireturn, 1) := by decide +kernel
theorem dX11_feed_0 : decode cX11_feed 0 = .ok (.iload_n 1, 1) := by decide +kernel
theorem dX11_feed_1 : decode cX11_feed 1 = .ok (.iconst 1, 1) := by decide +kernel
theorem dX11_feed_2 : decode cX11_feed 2 = .ok (.if_icmp .ge 10, 3) := by decide +kernel
theorem dX11_feed_5 : decode cX11_feed 5 = .ok (.aload_n 0, 1) := by decide +kernel
theorem dX11_feed_6 : decode cX11_feed 6 = .ok (.bipush (-4), 2) := by decide +kernel
theorem dX11_feed_8 : decode cX11_feed 8 = .ok (.invokevirtual 103, 3) := by decide +kernel
theorem dX11_feed_11 : decode cX11_feed 11 = .ok (.ireturn, 1) := by decide +kernel
theorem dX11_feed_12 : decode cX11_feed 12 = .ok (.iload_n 1, 1) := by decide +kernel
theorem dX11_feed_13 : decode cX11_feed 13 = .ok (.bipush 8, 2) := by decide +kernel
theorem dX11_feed_15 : decode cX11_feed 15 = .ok (.if_icmp .gt 17, 3) := by decide +kernel
theorem dX11_feed_18 : decode cX11_feed 18 = .ok (.aload_n 0, 1) := by decide +kernel
theorem dX11_feed_19 : decode cX11_feed 19 = .ok (.getfield 26, 3) := by decide +kernel
theorem dX11_feed_22 : decode cX11_feed 22 = .ok (.invokevirtual 148, 3) := by decide +kernel
theorem dX11_feed_25 : decode cX11_feed 25 = .ok (.iload_n 1, 1) := by decide +kernel
theorem dX11_feed_26 : decode cX11_feed 26 = .ok (.iadd, 1) := by decide +kernel
theorem dX11_feed_27 : decode cX11_feed 27 = .ok (.bipush 60, 2) := by decide +kernel
theorem dX11_feed_29 : decode cX11_feed 29 = .ok (.if_icmp .le 10, 3) := by decide +kernel
theorem dX11_feed_32 : decode cX11_feed 32 = .ok (.aload_n 0, 1) := by decide +kernel
theorem dX11_feed_33 : decode cX11_feed 33 = .ok (.bipush (-6), 2) := by decide +kernel
theorem dX11_feed_35 : decode cX11_feed 35 = .ok (.invokevirtual 103, 3) := by decide +kernel
theorem dX11_feed_38 : decode cX11_feed 38 = .ok (.ireturn, 1) := by decide +kernel
theorem dX11_feed_39 : decode cX11_feed 39 = .ok (.aload_n 0, 1) := by decide +kernel
theorem dX11_feed_40 : decode cX11_feed 40 = .ok (.getfield 26, 3) := by decide +kernel
theorem dX11_feed_43 : decode cX11_feed 43 = .ok (.iload_n 1, 1) := by decide +kernel
theorem dX11_feed_44 : decode cX11_feed 44 = .ok (.lload_n 2, 1) := by decide +kernel
theorem dX11_feed_45 : decode cX11_feed 45 = .ok (.invokevirtual 152, 3) := by decide +kernel
theorem dX11_feed_48 : decode cX11_feed 48 = .ok (.ireturn, 1) := by decide +kernel
theorem dX11_act_0 : decode cX11_act 0 = .ok (.iload_n 1, 1) := by decide +kernel
theorem dX11_act_1 : decode cX11_act 1 = .ok (.aload_n 0, 1) := by decide +kernel
theorem dX11_act_2 : decode cX11_act 2 = .ok (.getfield 10, 3) := by decide +kernel
theorem dX11_act_5 : decode cX11_act 5 = .ok (.getfield 107, 3) := by decide +kernel
theorem dX11_act_8 : decode cX11_act 8 = .ok (.sipush 1000, 3) := by decide +kernel
theorem dX11_act_11 : decode cX11_act 11 = .ok (.invokestatic 110, 3) := by decide +kernel
theorem dX11_act_14 : decode cX11_act 14 = .ok (.aload_n 0, 1) := by decide +kernel
theorem dX11_act_15 : decode cX11_act 15 = .ok (.getfield 26, 3) := by decide +kernel
theorem dX11_act_18 : decode cX11_act 18 = .ok (.getfield 156, 3) := by decide +kernel
theorem dX11_act_21 : decode cX11_act 21 = .ok (.bipush 24, 2) := by decide +kernel
theorem dX11_act_23 : decode cX11_act 23 = .ok (.invokestatic 131, 3) := by decide +kernel
theorem dX11_act_26 : decode cX11_act 26 = .ok (.invokestatic 118, 3) := by decide +kernel
theorem dX11_act_29 : decode cX11_act 29 = .ok (.istore_n 2, 1) := by decide +kernel
theorem dX11_act_30 : decode cX11_act 30 = .ok (.iload_n 2, 1) := by decide +kernel
theorem dX11_act_31 : decode cX11_act 31 = .ok (.ifCond .eq 9, 3) := by decide +kernel
theorem dX11_act_34 : decode cX11_act 34 = .ok (.aload_n 0, 1) := by decide +kernel
theorem dX11_act_35 : decode cX11_act 35 = .ok (.iload_n 2, 1) := by decide +kernel
theorem dX11_act_36 : decode cX11_act 36 = .ok (.invokevirtual 103, 3) := by decide +kernel
theorem dX11_act_39 : decode cX11_act 39 = .ok (.ireturn, 1) := by decide +kernel
theorem dX11_act_40 : decode cX11_act 40 = .ok (.aload_n 0, 1) := by decide +kernel
theorem dX11_act_41 : decode cX11_act 41 = .ok (.getfield 26, 3) := by decide +kernel
theorem dX11_act_44 : decode cX11_act 44 = .ok (.invokevirtual 157, 3) := by decide +kernel
theorem dX11_act_47 : decode cX11_act 47 = .ok (.istore_n 3, 1) := by decide +kernel
theorem dX11_act_48 : decode cX11_act 48 = .ok (.iload_n 3, 1) := by decide +kernel
theorem dX11_act_49 : decode cX11_act 49 = .ok (.bipush (-9), 2) := by decide +kernel
theorem dX11_act_51 : decode cX11_act 51 = .ok (.if_icmp .eq 15, 3) := by decide +kernel
theorem dX11_act_54 : decode cX11_act 54 = .ok (.aload_n 0, 1) := by decide +kernel
theorem dX11_act_55 : decode cX11_act 55 = .ok (.getfield 26, 3) := by decide +kernel
theorem dX11_act_58 : decode cX11_act 58 = .ok (.invokevirtual 160, 3) := by decide +kernel
theorem dX11_act_61 : decode cX11_act 61 = .ok (.bipush (-20), 2) := by decide +kernel
theorem dX11_act_63 : decode cX11_act 63 = .ok (.iload_n 3, 1) := by decide +kernel
theorem dX11_act_64 : decode cX11_act 64 = .ok (.isub, 1) := by decide +kernel
theorem dX11_act_65 : decode cX11_act 65 = .ok (.ireturn, 1) := by decide +kernel
theorem dX11_act_66 : decode cX11_act 66 = .ok (.aload_n 0, 1) := by decide +kernel
theorem dX11_act_67 : decode cX11_act 67 = .ok (.getfield 26, 3) := by decide +kernel
theorem dX11_act_70 : decode cX11_act 70 = .ok (.iload_n 1, 1) := by decide +kernel
theorem dX11_act_71 : decode cX11_act 71 = .ok (.invokevirtual 163, 3) := by decide +kernel
theorem dX11_act_74 : decode cX11_act 74 = .ok (.ireturn, 1) := by decide +kernel
theorem dX11_term_0 : decode cX11_term 0 = .ok (.iload_n 1, 1) := by decide +kernel
theorem dX11_term_1 : decode cX11_term 1 = .ok (.ifCond .lt 17, 3) := by decide +kernel
theorem dX11_term_4 : decode cX11_term 4 = .ok (.iload_n 1, 1) := by decide +kernel
theorem dX11_term_5 : decode cX11_term 5 = .ok (.iconst 5, 1) := by decide +kernel
theorem dX11_term_6 : decode cX11_term 6 = .ok (.if_icmp .ge 12, 3) := by decide +kernel
theorem dX11_term_9 : decode cX11_term 9 = .ok (.iload_n 2, 1) := by decide +kernel
theorem dX11_term_10 : decode cX11_term 10 = .ok (.ifCond .lt 8, 3) := by decide +kernel
theorem dX11_term_13 : decode cX11_term 13 = .ok (.iload_n 2, 1) := by decide +kernel
theorem dX11_term_14 : decode cX11_term 14 = .ok (.iconst 2, 1) := by decide +kernel
theorem dX11_term_15 : decode cX11_term 15 = .ok (.if_icmp .le 10, 3) := by decide +kernel
theorem dX11_term_18 : decode cX11_term 18 = .ok (.aload_n 0, 1) := by decide +kernel
theorem dX11_term_19 : decode cX11_term 19 = .ok (.bipush (-2), 2) := by decide +kernel
theorem dX11_term_21 : decode cX11_term 21 = .ok (.invokevirtual 103, 3) := by decide +kernel
theorem dX11_term_24 : decode cX11_term 24 = .ok (.ireturn, 1) := by decide +kernel
theorem dX11_term_25 : decode cX11_term 25 = .ok (.iload_n 3, 1) := by decide +kernel
theorem dX11_term_26 : decode cX11_term 26 = .ok (.iconst 0, 1) := by decide +kernel
theorem dX11_term_27 : decode cX11_term 27 = .ok (.getstatic 193, 3) := by decide +kernel
theorem dX11_term_30 : decode cX11_term 30 = .ok (.iload_n 2, 1) := by decide +kernel
theorem dX11_term_31 : decode cX11_term 31 = .ok (.iaload, 1) := by decide +kernel
theorem dX11_term_32 : decode cX11_term 32 = .ok (.invokestatic 110, 3) := by decide +kernel
theorem dX11_term_35 : decode cX11_term 35 = .ok (.istore 4, 2) := by decide +kernel
theorem dX11_term_37 : decode cX11_term 37 = .ok (.iload 4, 2) := by decide +kernel
theorem dX11_term_39 : decode cX11_term 39 = .ok (.ifCond .eq 10, 3) := by decide +kernel
theorem dX11_term_42 : decode cX11_term 42 = .ok (.aload_n 0, 1) := by decide +kernel
theorem dX11_term_43 : decode cX11_term 43 = .ok (.iload 4, 2) := by decide +kernel
theorem dX11_term_45 : decode cX11_term 45 = .ok (.invokevirtual 103, 3) := by decide +kernel
theorem dX11_term_48 : decode cX11_term 48 = .ok (.ireturn, 1) := by decide +kernel
theorem dX11_term_49 : decode cX11_term 49 = .ok (.aload_n 0, 1) := by decide +kernel
theorem dX11_term_50 : decode cX11_term 50 = .ok (.getfield 84, 3) := by decide +kernel
theorem dX11_term_53 : decode cX11_term 53 = .ok (.iload_n 1, 1) := by decide +kernel
theorem dX11_term_54 : decode cX11_term 54 = .ok (.aaload, 1) := by decide +kernel
theorem dX11_term_55 : decode cX11_term 55 = .ok (.iload_n 2, 1) := by decide +kernel
theorem dX11_term_56 : decode cX11_term 56 = .ok (.iaload, 1) := by decide +kernel
theorem dX11_term_57 : decode cX11_term 57 = .ok (.istore 5, 2) := by decide +kernel
theorem dX11_term_59 : decode cX11_term 59 = .ok (.aload_n 0, 1) := by decide +kernel
theorem dX11_term_60 : decode cX11_term 60 = .ok (.getfield 84, 3) := by decide +kernel
theorem dX11_term_63 : decode cX11_term 63 = .ok (.iload_n 1, 1) := by decide +kernel
theorem dX11_term_64 : decode cX11_term 64 = .ok (.aaload, 1) := by decide +kernel
theorem dX11_term_65 : decode cX11_term 65 = .ok (.iload_n 2, 1) := by decide +kernel
theorem dX11_term_66 : decode cX11_term 66 = .ok (.iload_n 3, 1) := by decide +kernel
theorem dX11_term_67 : decode cX11_term 67 = .ok (.iastore, 1) := by decide +kernel
theorem dX11_term_68 : decode cX11_term 68 = .ok (.iload 5, 2) := by decide +kernel
theorem dX11_term_70 : decode cX11_term 70 = .ok (.ireturn, 1) := by decide +kernel
theorem dX11_open_0 : decode cX11_open 0 = .ok (.iload_n 1, 1) := by decide +kernel
theorem dX11_open_1 : decode cX11_open 1 = .ok (.invokestatic 170, 3) := by decide +kernel
theorem dX11_open_4 : decode cX11_open 4 = .ok (.ifCond .ne 10, 3) := by decide +kernel
theorem dX11_open_7 : decode cX11_open 7 = .ok (.aload_n 0, 1) := by decide +kernel
theorem dX11_open_8 : decode cX11_open 8 = .ok (.bipush (-2), 2) := by decide +kernel
theorem dX11_open_10 : decode cX11_open 10 = .ok (.invokevirtual 103, 3) := by decide +kernel
theorem dX11_open_13 : decode cX11_open 13 = .ok (.ireturn, 1) := by decide +kernel
theorem dX11_open_14 : decode cX11_open 14 = .ok (.iload_n 2, 1) := by decide +kernel
theorem dX11_open_15 : decode cX11_open 15 = .ok (.iload_n 3, 1) := by decide +kernel
theorem dX11_open_16 : decode cX11_open 16 = .ok (.invokestatic 173, 3) := by decide +kernel
theorem dX11_open_19 : decode cX11_open 19 = .ok (.aload_n 0, 1) := by decide +kernel
theorem dX11_open_20 : decode cX11_open 20 = .ok (.getfield 43, 3) := by decide +kernel
theorem dX11_open_23 : decode cX11_open 23 = .ok (.bipush 40, 2) := by decide +kernel
theorem dX11_open_25 : decode cX11_open 25 = .ok (.invokestatic 131, 3) := by decide +kernel
theorem dX11_open_28 : decode cX11_open 28 = .ok (.invokestatic 118, 3) := by decide +kernel
theorem dX11_open_31 : decode cX11_open 31 = .ok (.istore 5, 2) := by decide +kernel
theorem dX11_open_33 : decode cX11_open 33 = .ok (.iload 5, 2) := by decide +kernel
theorem dX11_open_35 : decode cX11_open 35 = .ok (.ifCond .eq 10, 3) := by decide +kernel
theorem dX11_open_38 : decode cX11_open 38 = .ok (.aload_n 0, 1) := by decide +kernel
theorem dX11_open_39 : decode cX11_open 39 = .ok (.iload 5, 2) := by decide +kernel
theorem dX11_open_41 : decode cX11_open 41 = .ok (.invokevirtual 103, 3) := by decide +kernel
theorem dX11_open_44 : decode cX11_open 44 = .ok (.ireturn, 1) := by decide +kernel
theorem dX11_open_45 : decode cX11_open 45 = .ok (.aload_n 0, 1) := by decide +kernel
theorem dX11_open_46 : decode cX11_open 46 = .ok (.iload_n 2, 1) := by decide +kernel
theorem dX11_open_47 : decode cX11_open 47 = .ok (.iload_n 3, 1) := by decide +kernel
theorem dX11_open_48 : decode cX11_open 48 = .ok (.iload 4, 2) := by decide +kernel
theorem dX11_open_50 : decode cX11_open 50 = .ok (.invokevirtual 176, 3) := by decide +kernel
theorem dX11_open_53 : decode cX11_open 53 = .ok (.aload_n 0, 1) := by decide +kernel
theorem dX11_open_54 : decode cX11_open 54 = .ok (.getfield 26, 3) := by decide +kernel
theorem dX11_open_57 : decode cX11_open 57 = .ok (.aload_n 0, 1) := by decide +kernel
theorem dX11_open_58 : decode cX11_open 58 = .ok (.getfield 26, 3) := by decide +kernel
theorem dX11_open_61 : decode cX11_open 61 = .ok (.iload_n 1, 1) := by decide +kernel
theorem dX11_open_62 : decode cX11_open 62 = .ok (.aload_n 0, 1) := by decide +kernel
theorem dX11_open_63 : decode cX11_open 63 = .ok (.getfield 10, 3) := by decide +kernel
theorem dX11_open_66 : decode cX11_open 66 = .ok (.getfield 107, 3) := by decide +kernel
theorem dX11_open_69 : decode cX11_open 69 = .ok (.invokevirtual 180, 3) := by decide +kernel
theorem dX11_open_72 : decode cX11_open 72 = .ok (.invokevirtual 187, 3) := by decide +kernel
theorem dX11_open_75 : decode cX11_open 75 = .ok (.istore 6, 2) := by decide +kernel
theorem dX11_open_77 : decode cX11_open 77 = .ok (.aload_n 0, 1) := by decide +kernel
theorem dX11_open_78 : decode cX11_open 78 = .ok (.getfield 26, 3) := by decide +kernel
theorem dX11_open_81 : decode cX11_open 81 = .ok (.iload 6, 2) := by decide +kernel
theorem dX11_open_83 : decode cX11_open 83 = .ok (.invokevirtual 190, 3) := by decide +kernel
theorem dX11_open_86 : decode cX11_open 86 = .ok (.istore 7, 2) := by decide +kernel
theorem dX11_open_88 : decode cX11_open 88 = .ok (.aload_n 0, 1) := by decide +kernel
theorem dX11_open_89 : decode cX11_open 89 = .ok (.getfield 39, 3) := by decide +kernel
theorem dX11_open_92 : decode cX11_open 92 = .ok (.aload_n 0, 1) := by decide +kernel
theorem dX11_open_93 : decode cX11_open 93 = .ok (.getfield 43, 3) := by decide +kernel
theorem dX11_open_96 : decode cX11_open 96 = .ok (.aaload, 1) := by decide +kernel
theorem dX11_open_97 : decode cX11_open 97 = .ok (.iload_n 1, 1) := by decide +kernel
theorem dX11_open_98 : decode cX11_open 98 = .ok (.iload_n 2, 1) := by decide +kernel
theorem dX11_open_99 : decode cX11_open 99 = .ok (.iload_n 3, 1) := by decide +kernel
theorem dX11_open_100 : decode cX11_open 100 = .ok (.iload 6, 2) := by decide +kernel
theorem dX11_open_102 : decode cX11_open 102 = .ok (.invokevirtual 196, 3) := by decide +kernel
theorem dX11_open_105 : decode cX11_open 105 = .ok (.aload_n 0, 1) := by decide +kernel
theorem dX11_open_106 : decode cX11_open 106 = .ok (.getfield 39, 3) := by decide +kernel
theorem dX11_open_109 : decode cX11_open 109 = .ok (.aload_n 0, 1) := by decide +kernel
theorem dX11_open_110 : decode cX11_open 110 = .ok (.getfield 43, 3) := by decide +kernel
theorem dX11_open_113 : decode cX11_open 113 = .ok (.aaload, 1) := by decide +kernel
theorem dX11_open_114 : decode cX11_open 114 = .ok (.iload 7, 2) := by decide +kernel
theorem dX11_open_116 : decode cX11_open 116 = .ok (.aload_n 0, 1) := by decide +kernel
theorem dX11_open_117 : decode cX11_open 117 = .ok (.getfield 84, 3) := by decide +kernel
theorem dX11_open_120 : decode cX11_open 120 = .ok (.iload 7, 2) := by decide +kernel
theorem dX11_open_122 : decode cX11_open 122 = .ok (.aaload, 1) := by decide +kernel
theorem dX11_open_123 : decode cX11_open 123 = .ok (.iconst 0, 1) := by decide +kernel
theorem dX11_open_124 : decode cX11_open 124 = .ok (.iaload, 1) := by decide +kernel
theorem dX11_open_125 : decode cX11_open 125 = .ok (.aload_n 0, 1) := by decide +kernel
theorem dX11_open_126 : decode cX11_open 126 = .ok (.getfield 84, 3) := by decide +kernel
theorem dX11_open_129 : decode cX11_open 129 = .ok (.iload 7, 2) := by decide +kernel
theorem dX11_open_131 : decode cX11_open 131 = .ok (.aaload, 1) := by decide +kernel
theorem dX11_open_132 : decode cX11_open 132 = .ok (.iconst 1, 1) := by decide +kernel
theorem dX11_open_133 : decode cX11_open 133 = .ok (.iaload, 1) := by decide +kernel
theorem dX11_open_134 : decode cX11_open 134 = .ok (.aload_n 0, 1) := by decide +kernel
theorem dX11_open_135 : decode cX11_open 135 = .ok (.getfield 84, 3) := by decide +kernel
theorem dX11_open_138 : decode cX11_open 138 = .ok (.iload 7, 2) := by decide +kernel
theorem dX11_open_140 : decode cX11_open 140 = .ok (.aaload, 1) := by decide +kernel
theorem dX11_open_141 : decode cX11_open 141 = .ok (.iconst 2, 1) := by decide +kernel
theorem dX11_open_142 : decode cX11_open 142 = .ok (.iaload, 1) := by decide +kernel
theorem dX11_open_143 : decode cX11_open 143 = .ok (.iconst 1, 1) := by decide +kernel
theorem dX11_open_144 : decode cX11_open 144 = .ok (.if_icmp .ne 7, 3) := by decide +kernel
theorem dX11_open_147 : decode cX11_open 147 = .ok (.iconst 1, 1) := by decide +kernel
theorem dX11_open_148 : decode cX11_open 148 = .ok (.goto 4, 3) := by decide +kernel
theorem dX11_open_151 : decode cX11_open 151 = .ok (.iconst 0, 1) := by decide +kernel
theorem dX11_open_152 : decode cX11_open 152 = .ok (.invokevirtual 200, 3) := by decide +kernel
theorem dX11_open_155 : decode cX11_open 155 = .ok (.aload_n 0, 1) := by decide +kernel
theorem dX11_open_156 : decode cX11_open 156 = .ok (.dup, 1) := by decide +kernel
theorem dX11_open_157 : decode cX11_open 157 = .ok (.getfield 43, 3) := by decide +kernel
theorem dX11_open_160 : decode cX11_open 160 = .ok (.iconst 1, 1) := by decide +kernel
theorem dX11_open_161 : decode cX11_open 161 = .ok (.iadd, 1) := by decide +kernel
theorem dX11_open_162 : decode cX11_open 162 = .ok (.putfield 43, 3) := by decide +kernel
theorem dX11_open_165 : decode cX11_open 165 = .ok (.aload_n 0, 1) := by decide +kernel
theorem dX11_open_166 : decode cX11_open 166 = .ok (.getfield 43, 3) := by decide +kernel
theorem dX11_open_169 : decode cX11_open 169 = .ok (.iconst 1, 1) := by decide +kernel
theorem dX11_open_170 : decode cX11_open 170 = .ok (.isub, 1) := by decide +kernel
theorem dX11_open_171 : decode cX11_open 171 = .ok (.ireturn, 1) := by decide +kernel
theorem dX11_paper_0 : decode cX11_paper 0 = .ok (.aload_n 0, 1) := by decide +kernel
theorem dX11_paper_1 : decode cX11_paper 1 = .ok (.iload_n 1, 1) := by decide +kernel
theorem dX11_paper_2 : decode cX11_paper 2 = .ok (.invokevirtual 204, 3) := by decide +kernel
theorem dX11_paper_5 : decode cX11_paper 5 = .ok (.ifCond .eq 13, 3) := by decide +kernel
theorem dX11_paper_8 : decode cX11_paper 8 = .ok (.iload_n 2, 1) := by decide +kernel
theorem dX11_paper_9 : decode cX11_paper 9 = .ok (.ifCond .lt 9, 3) := by decide +kernel
theorem dX11_paper_12 : decode cX11_paper 12 = .ok (.iload_n 2, 1) := by decide +kernel
theorem dX11_paper_13 : decode cX11_paper 13 = .ok (.bipush 8, 2) := by decide +kernel
theorem dX11_paper_15 : decode cX11_paper 15 = .ok (.if_icmp .lt 9, 3) := by decide +kernel
theorem dX11_paper_18 : decode cX11_paper 18 = .ok (.aload_n 0, 1) := by decide +kernel
theorem dX11_paper_19 : decode cX11_paper 19 = .ok (.iconst (-1), 1) := by decide +kernel
theorem dX11_paper_20 : decode cX11_paper 20 = .ok (.invokevirtual 103, 3) := by decide +kernel
theorem dX11_paper_23 : decode cX11_paper 23 = .ok (.ireturn, 1) := by decide +kernel
theorem dX11_paper_24 : decode cX11_paper 24 = .ok (.aload_n 0, 1) := by decide +kernel
theorem dX11_paper_25 : decode cX11_paper 25 = .ok (.getfield 39, 3) := by decide +kernel
theorem dX11_paper_28 : decode cX11_paper 28 = .ok (.iload_n 1, 1) := by decide +kernel
theorem dX11_paper_29 : decode cX11_paper 29 = .ok (.aaload, 1) := by decide +kernel
theorem dX11_paper_30 : decode cX11_paper 30 = .ok (.astore 4, 2) := by decide +kernel
theorem dX11_paper_32 : decode cX11_paper 32 = .ok (.aload 4, 2) := by decide +kernel
theorem dX11_paper_34 : decode cX11_paper 34 = .ok (.aload_n 0, 1) := by decide +kernel
theorem dX11_paper_35 : decode cX11_paper 35 = .ok (.getfield 10, 3) := by decide +kernel
theorem dX11_paper_38 : decode cX11_paper 38 = .ok (.getfield 107, 3) := by decide +kernel
theorem dX11_paper_41 : decode cX11_paper 41 = .ok (.invokevirtual 207, 3) := by decide +kernel
theorem dX11_paper_44 : decode cX11_paper 44 = .ok (.ifCond .eq 10, 3) := by decide +kernel
theorem dX11_paper_47 : decode cX11_paper 47 = .ok (.aload_n 0, 1) := by decide +kernel
theorem dX11_paper_48 : decode cX11_paper 48 = .ok (.bipush (-3), 2) := by decide +kernel
theorem dX11_paper_50 : decode cX11_paper 50 = .ok (.invokevirtual 103, 3) := by decide +kernel
theorem dX11_paper_53 : decode cX11_paper 53 = .ok (.ireturn, 1) := by decide +kernel
theorem dX11_paper_54 : decode cX11_paper 54 = .ok (.iload_n 3, 1) := by decide +kernel
theorem dX11_paper_55 : decode cX11_paper 55 = .ok (.ifCond .ne 35, 3) := by decide +kernel
theorem dX11_paper_58 : decode cX11_paper 58 = .ok (.aload 4, 2) := by decide +kernel
theorem dX11_paper_60 : decode cX11_paper 60 = .ok (.iload_n 2, 1) := by decide +kernel
theorem dX11_paper_61 : decode cX11_paper 61 = .ok (.aload_n 0, 1) := by decide +kernel
theorem dX11_paper_62 : decode cX11_paper 62 = .ok (.getfield 10, 3) := by decide +kernel
theorem dX11_paper_65 : decode cX11_paper 65 = .ok (.getfield 107, 3) := by decide +kernel
theorem dX11_paper_68 : decode cX11_paper 68 = .ok (.aload_n 0, 1) := by decide +kernel
theorem dX11_paper_69 : decode cX11_paper 69 = .ok (.getfield 10, 3) := by decide +kernel
theorem dX11_paper_72 : decode cX11_paper 72 = .ok (.getfield 107, 3) := by decide +kernel
theorem dX11_paper_75 : decode cX11_paper 75 = .ok (.invokevirtual 210, 3) := by decide +kernel
theorem dX11_paper_78 : decode cX11_paper 78 = .ok (.bipush (-9), 2) := by decide +kernel
theorem dX11_paper_80 : decode cX11_paper 80 = .ok (.if_icmp .ne 10, 3) := by decide +kernel
theorem dX11_paper_83 : decode cX11_paper 83 = .ok (.aload_n 0, 1) := by decide +kernel
theorem dX11_paper_84 : decode cX11_paper 84 = .ok (.bipush (-3), 2) := by decide +kernel
theorem dX11_paper_86 : decode cX11_paper 86 = .ok (.invokevirtual 103, 3) := by decide +kernel
theorem dX11_paper_89 : decode cX11_paper 89 = .ok (.ireturn, 1) := by decide +kernel
theorem dX11_paper_90 : decode cX11_paper 90 = .ok (.aload 4, 2) := by decide +kernel
theorem dX11_paper_92 : decode cX11_paper 92 = .ok (.invokevirtual 213, 3) := by decide +kernel
theorem dX11_paper_95 : decode cX11_paper 95 = .ok (.ifCond .eq 10, 3) := by decide +kernel
theorem dX11_paper_98 : decode cX11_paper 98 = .ok (.aload_n 0, 1) := by decide +kernel
theorem dX11_paper_99 : decode cX11_paper 99 = .ok (.bipush (-6), 2) := by decide +kernel
theorem dX11_paper_101 : decode cX11_paper 101 = .ok (.invokevirtual 103, 3) := by decide +kernel
theorem dX11_paper_104 : decode cX11_paper 104 = .ok (.ireturn, 1) := by decide +kernel
theorem dX11_paper_105 : decode cX11_paper 105 = .ok (.aload 4, 2) := by decide +kernel
theorem dX11_paper_107 : decode cX11_paper 107 = .ok (.iload_n 3, 1) := by decide +kernel
theorem dX11_paper_108 : decode cX11_paper 108 = .ok (.ifCond .eq 7, 3) := by decide +kernel
theorem dX11_paper_111 : decode cX11_paper 111 = .ok (.iconst 0, 1) := by decide +kernel
theorem dX11_paper_112 : decode cX11_paper 112 = .ok (.goto 4, 3) := by decide +kernel
theorem dX11_paper_115 : decode cX11_paper 115 = .ok (.iconst 1, 1) := by decide +kernel
theorem dX11_paper_116 : decode cX11_paper 116 = .ok (.iload_n 2, 1) := by decide +kernel
theorem dX11_paper_117 : decode cX11_paper 117 = .ok (.invokevirtual 217, 3) := by decide +kernel
theorem dX11_paper_120 : decode cX11_paper 120 = .ok (.ireturn, 1) := by decide +kernel
theorem dX11_withdraw_0 : decode cX11_withdraw 0 = .ok (.aload_n 0, 1) := by decide +kernel
theorem dX11_withdraw_1 : decode cX11_withdraw 1 = .ok (.iload_n 1, 1) := by decide +kernel
theorem dX11_withdraw_2 : decode cX11_withdraw 2 = .ok (.invokevirtual 204, 3) := by decide +kernel
theorem dX11_withdraw_5 : decode cX11_withdraw 5 = .ok (.ifCond .ne 9, 3) := by decide +kernel
theorem dX11_withdraw_8 : decode cX11_withdraw 8 = .ok (.aload_n 0, 1) := by decide +kernel
theorem dX11_withdraw_9 : decode cX11_withdraw 9 = .ok (.iconst (-1), 1) := by decide +kernel
theorem dX11_withdraw_10 : decode cX11_withdraw 10 = .ok (.invokevirtual 103, 3) := by decide +kernel
theorem dX11_withdraw_13 : decode cX11_withdraw 13 = .ok (.ireturn, 1) := by decide +kernel
theorem dX11_withdraw_14 : decode cX11_withdraw 14 = .ok (.aload_n 0, 1) := by decide +kernel
theorem dX11_withdraw_15 : decode cX11_withdraw 15 = .ok (.getfield 39, 3) := by decide +kernel
theorem dX11_withdraw_18 : decode cX11_withdraw 18 = .ok (.iload_n 1, 1) := by decide +kernel
theorem dX11_withdraw_19 : decode cX11_withdraw 19 = .ok (.aaload, 1) := by decide +kernel
theorem dX11_withdraw_20 : decode cX11_withdraw 20 = .ok (.astore_n 2, 1) := by decide +kernel
theorem dX11_withdraw_21 : decode cX11_withdraw 21 = .ok (.aload_n 2, 1) := by decide +kernel
theorem dX11_withdraw_22 : decode cX11_withdraw 22 = .ok (.aload_n 0, 1) := by decide +kernel
theorem dX11_withdraw_23 : decode cX11_withdraw 23 = .ok (.getfield 10, 3) := by decide +kernel
theorem dX11_withdraw_26 : decode cX11_withdraw 26 = .ok (.getfield 107, 3) := by decide +kernel
theorem dX11_withdraw_29 : decode cX11_withdraw 29 = .ok (.invokevirtual 207, 3) := by decide +kernel
theorem dX11_withdraw_32 : decode cX11_withdraw 32 = .ok (.ifCond .eq 10, 3) := by decide +kernel
theorem dX11_withdraw_35 : decode cX11_withdraw 35 = .ok (.aload_n 0, 1) := by decide +kernel
theorem dX11_withdraw_36 : decode cX11_withdraw 36 = .ok (.bipush (-3), 2) := by decide +kernel
theorem dX11_withdraw_38 : decode cX11_withdraw 38 = .ok (.invokevirtual 103, 3) := by decide +kernel
theorem dX11_withdraw_41 : decode cX11_withdraw 41 = .ok (.ireturn, 1) := by decide +kernel
theorem dX11_withdraw_42 : decode cX11_withdraw 42 = .ok (.aload_n 2, 1) := by decide +kernel
theorem dX11_withdraw_43 : decode cX11_withdraw 43 = .ok (.invokevirtual 213, 3) := by decide +kernel
theorem dX11_withdraw_46 : decode cX11_withdraw 46 = .ok (.ifCond .eq 10, 3) := by decide +kernel
theorem dX11_withdraw_49 : decode cX11_withdraw 49 = .ok (.aload_n 0, 1) := by decide +kernel
theorem dX11_withdraw_50 : decode cX11_withdraw 50 = .ok (.bipush (-6), 2) := by decide +kernel
theorem dX11_withdraw_52 : decode cX11_withdraw 52 = .ok (.invokevirtual 103, 3) := by decide +kernel
theorem dX11_withdraw_55 : decode cX11_withdraw 55 = .ok (.ireturn, 1) := by decide +kernel
theorem dX11_withdraw_56 : decode cX11_withdraw 56 = .ok (.aload_n 2, 1) := by decide +kernel
theorem dX11_withdraw_57 : decode cX11_withdraw 57 = .ok (.iconst 2, 1) := by decide +kernel
theorem dX11_withdraw_58 : decode cX11_withdraw 58 = .ok (.iconst 0, 1) := by decide +kernel
theorem dX11_withdraw_59 : decode cX11_withdraw 59 = .ok (.invokevirtual 217, 3) := by decide +kernel
theorem dX11_withdraw_62 : decode cX11_withdraw 62 = .ok (.pop, 1) := by decide +kernel
theorem dX11_withdraw_63 : decode cX11_withdraw 63 = .ok (.iconst 1, 1) := by decide +kernel
theorem dX11_withdraw_64 : decode cX11_withdraw 64 = .ok (.ireturn, 1) := by decide +kernel
theorem dX11_state_0 : decode cX11_state 0 = .ok (.aload_n 0, 1) := by decide +kernel
theorem dX11_state_1 : decode cX11_state 1 = .ok (.iload_n 1, 1) := by decide +kernel
theorem dX11_state_2 : decode cX11_state 2 = .ok (.invokevirtual 204, 3) := by decide +kernel
theorem dX11_state_5 : decode cX11_state 5 = .ok (.ifCond .ne 9, 3) := by decide +kernel
theorem dX11_state_8 : decode cX11_state 8 = .ok (.aload_n 0, 1) := by decide +kernel
theorem dX11_state_9 : decode cX11_state 9 = .ok (.iconst (-1), 1) := by decide +kernel
theorem dX11_state_10 : decode cX11_state 10 = .ok (.invokevirtual 103, 3) := by decide +kernel
theorem dX11_state_13 : decode cX11_state 13 = .ok (.ireturn, 1) := by decide +kernel
theorem dX11_state_14 : decode cX11_state 14 = .ok (.iload_n 2, 1) := by decide +kernel
theorem dX11_state_15 : decode cX11_state 15 = .ok (.ifCond .lt 7, 3) := by decide +kernel
theorem dX11_state_18 : decode cX11_state 18 = .ok (.iload_n 3, 1) := by decide +kernel
theorem dX11_state_19 : decode cX11_state 19 = .ok (.ifCond .ge 10, 3) := by decide +kernel
theorem dX11_state_22 : decode cX11_state 22 = .ok (.aload_n 0, 1) := by decide +kernel
theorem dX11_state_23 : decode cX11_state 23 = .ok (.bipush (-4), 2) := by decide +kernel
theorem dX11_state_25 : decode cX11_state 25 = .ok (.invokevirtual 103, 3) := by decide +kernel
theorem dX11_state_28 : decode cX11_state 28 = .ok (.ireturn, 1) := by decide +kernel
theorem dX11_state_29 : decode cX11_state 29 = .ok (.iload_n 2, 1) := by decide +kernel
theorem dX11_state_30 : decode cX11_state 30 = .ok (.aload_n 0, 1) := by decide +kernel
theorem dX11_state_31 : decode cX11_state 31 = .ok (.getfield 39, 3) := by decide +kernel
theorem dX11_state_34 : decode cX11_state 34 = .ok (.iload_n 1, 1) := by decide +kernel
theorem dX11_state_35 : decode cX11_state 35 = .ok (.aaload, 1) := by decide +kernel
theorem dX11_state_36 : decode cX11_state 36 = .ok (.getfield 220, 3) := by decide +kernel
theorem dX11_state_39 : decode cX11_state 39 = .ok (.if_icmp .lt 19, 3) := by decide +kernel
theorem dX11_state_42 : decode cX11_state 42 = .ok (.iload_n 2, 1) := by decide +kernel
theorem dX11_state_43 : decode cX11_state 43 = .ok (.iload_n 3, 1) := by decide +kernel
theorem dX11_state_44 : decode cX11_state 44 = .ok (.if_icmp .gt 14, 3) := by decide +kernel
theorem dX11_state_47 : decode cX11_state 47 = .ok (.iload_n 3, 1) := by decide +kernel
theorem dX11_state_48 : decode cX11_state 48 = .ok (.aload_n 0, 1) := by decide +kernel
theorem dX11_state_49 : decode cX11_state 49 = .ok (.getfield 10, 3) := by decide +kernel
theorem dX11_state_52 : decode cX11_state 52 = .ok (.getfield 107, 3) := by decide +kernel
theorem dX11_state_55 : decode cX11_state 55 = .ok (.if_icmp .le 10, 3) := by decide +kernel
theorem dX11_state_58 : decode cX11_state 58 = .ok (.aload_n 0, 1) := by decide +kernel
theorem dX11_state_59 : decode cX11_state 59 = .ok (.bipush (-3), 2) := by decide +kernel
theorem dX11_state_61 : decode cX11_state 61 = .ok (.invokevirtual 103, 3) := by decide +kernel
theorem dX11_state_64 : decode cX11_state 64 = .ok (.ireturn, 1) := by decide +kernel
theorem dX11_state_65 : decode cX11_state 65 = .ok (.aload_n 0, 1) := by decide +kernel
theorem dX11_state_66 : decode cX11_state 66 = .ok (.getfield 39, 3) := by decide +kernel
theorem dX11_state_69 : decode cX11_state 69 = .ok (.iload_n 1, 1) := by decide +kernel
theorem dX11_state_70 : decode cX11_state 70 = .ok (.aaload, 1) := by decide +kernel
theorem dX11_state_71 : decode cX11_state 71 = .ok (.iload_n 2, 1) := by decide +kernel
theorem dX11_state_72 : decode cX11_state 72 = .ok (.iload_n 3, 1) := by decide +kernel
theorem dX11_state_73 : decode cX11_state 73 = .ok (.invokevirtual 221, 3) := by decide +kernel
theorem dX11_state_76 : decode cX11_state 76 = .ok (.ireturn, 1) := by decide +kernel
theorem dX11_matterOf_0 : decode cX11_matterOf 0 = .ok (.aload_n 0, 1) := by decide +kernel
theorem dX11_matterOf_1 : decode cX11_matterOf 1 = .ok (.iload_n 1, 1) := by decide +kernel
theorem dX11_matterOf_2 : decode cX11_matterOf 2 = .ok (.invokevirtual 204, 3) := by decide +kernel
theorem dX11_matterOf_5 : decode cX11_matterOf 5 = .ok (.ifCond .ne 9, 3) := by decide +kernel
theorem dX11_matterOf_8 : decode cX11_matterOf 8 = .ok (.aload_n 0, 1) := by decide +kernel
theorem dX11_matterOf_9 : decode cX11_matterOf 9 = .ok (.iconst (-1), 1) := by decide +kernel
theorem dX11_matterOf_10 : decode cX11_matterOf 10 = .ok (.invokevirtual 103, 3) := by decide +kernel
theorem dX11_matterOf_13 : decode cX11_matterOf 13 = .ok (.ireturn, 1) := by decide +kernel
theorem dX11_matterOf_14 : decode cX11_matterOf 14 = .ok (.aload_n 0, 1) := by decide +kernel
theorem dX11_matterOf_15 : decode cX11_matterOf 15 = .ok (.getfield 39, 3) := by decide +kernel
theorem dX11_matterOf_18 : decode cX11_matterOf 18 = .ok (.iload_n 1, 1) := by decide +kernel
theorem dX11_matterOf_19 : decode cX11_matterOf 19 = .ok (.aaload, 1) := by decide +kernel
theorem dX11_matterOf_20 : decode cX11_matterOf 20 = .ok (.astore_n 3, 1) := by decide +kernel
theorem dX11_matterOf_21 : decode cX11_matterOf 21 = .ok (.iload_n 2, 1) := by decide +kernel
theorem dX11_matterOf_22 : decode cX11_matterOf 22 = .ok (.tableswitch 97 0 5 #[38, 43, 48, 67, 87, 92], 38) := by decide +kernel
theorem dX11_matterOf_60 : decode cX11_matterOf 60 = .ok (.aload_n 3, 1) := by decide +kernel
theorem dX11_matterOf_61 : decode cX11_matterOf 61 = .ok (.getfield 224, 3) := by decide +kernel
theorem dX11_matterOf_64 : decode cX11_matterOf 64 = .ok (.ireturn, 1) := by decide +kernel
theorem dX11_matterOf_65 : decode cX11_matterOf 65 = .ok (.aload_n 3, 1) := by decide +kernel
theorem dX11_matterOf_66 : decode cX11_matterOf 66 = .ok (.getfield 220, 3) := by decide +kernel
theorem dX11_matterOf_69 : decode cX11_matterOf 69 = .ok (.ireturn, 1) := by decide +kernel
theorem dX11_matterOf_70 : decode cX11_matterOf 70 = .ok (.aload_n 3, 1) := by decide +kernel
theorem dX11_matterOf_71 : decode cX11_matterOf 71 = .ok (.aload_n 0, 1) := by decide +kernel
theorem dX11_matterOf_72 : decode cX11_matterOf 72 = .ok (.getfield 10, 3) := by decide +kernel
theorem dX11_matterOf_75 : decode cX11_matterOf 75 = .ok (.getfield 107, 3) := by decide +kernel
theorem dX11_matterOf_78 : decode cX11_matterOf 78 = .ok (.aload_n 0, 1) := by decide +kernel
theorem dX11_matterOf_79 : decode cX11_matterOf 79 = .ok (.getfield 10, 3) := by decide +kernel
theorem dX11_matterOf_82 : decode cX11_matterOf 82 = .ok (.getfield 107, 3) := by decide +kernel
theorem dX11_matterOf_85 : decode cX11_matterOf 85 = .ok (.invokevirtual 227, 3) := by decide +kernel
theorem dX11_matterOf_88 : decode cX11_matterOf 88 = .ok (.ireturn, 1) := by decide +kernel
theorem dX11_matterOf_89 : decode cX11_matterOf 89 = .ok (.aload_n 3, 1) := by decide +kernel
theorem dX11_matterOf_90 : decode cX11_matterOf 90 = .ok (.aload_n 0, 1) := by decide +kernel
theorem dX11_matterOf_91 : decode cX11_matterOf 91 = .ok (.getfield 10, 3) := by decide +kernel
theorem dX11_matterOf_94 : decode cX11_matterOf 94 = .ok (.getfield 107, 3) := by decide +kernel
theorem dX11_matterOf_97 : decode cX11_matterOf 97 = .ok (.invokevirtual 230, 3) := by decide +kernel
theorem dX11_matterOf_100 : decode cX11_matterOf 100 = .ok (.ifCond .eq 7, 3) := by decide +kernel
theorem dX11_matterOf_103 : decode cX11_matterOf 103 = .ok (.iconst 1, 1) := by decide +kernel
theorem dX11_matterOf_104 : decode cX11_matterOf 104 = .ok (.goto 4, 3) := by decide +kernel
theorem dX11_matterOf_107 : decode cX11_matterOf 107 = .ok (.iconst 0, 1) := by decide +kernel
theorem dX11_matterOf_108 : decode cX11_matterOf 108 = .ok (.ireturn, 1) := by decide +kernel
theorem dX11_matterOf_109 : decode cX11_matterOf 109 = .ok (.aload_n 3, 1) := by decide +kernel
theorem dX11_matterOf_110 : decode cX11_matterOf 110 = .ok (.getfield 233, 3) := by decide +kernel
theorem dX11_matterOf_113 : decode cX11_matterOf 113 = .ok (.ireturn, 1) := by decide +kernel
theorem dX11_matterOf_114 : decode cX11_matterOf 114 = .ok (.aload_n 3, 1) := by decide +kernel
theorem dX11_matterOf_115 : decode cX11_matterOf 115 = .ok (.getfield 236, 3) := by decide +kernel
theorem dX11_matterOf_118 : decode cX11_matterOf 118 = .ok (.ireturn, 1) := by decide +kernel
theorem dX11_matterOf_119 : decode cX11_matterOf 119 = .ok (.aload_n 0, 1) := by decide +kernel
theorem dX11_matterOf_120 : decode cX11_matterOf 120 = .ok (.bipush (-2), 2) := by decide +kernel
theorem dX11_matterOf_122 : decode cX11_matterOf 122 = .ok (.invokevirtual 103, 3) := by decide +kernel
theorem dX11_matterOf_125 : decode cX11_matterOf 125 = .ok (.ireturn, 1) := by decide +kernel
theorem dX11_votes_0 : decode cX11_votes 0 = .ok (.iload_n 1, 1) := by decide +kernel
theorem dX11_votes_1 : decode cX11_votes 1 = .ok (.invokestatic 125, 3) := by decide +kernel
theorem dX11_votes_4 : decode cX11_votes 4 = .ok (.ifCond .ne 9, 3) := by decide +kernel
theorem dX11_votes_7 : decode cX11_votes 7 = .ok (.aload_n 0, 1) := by decide +kernel
theorem dX11_votes_8 : decode cX11_votes 8 = .ok (.iconst (-1), 1) := by decide +kernel
theorem dX11_votes_9 : decode cX11_votes 9 = .ok (.invokevirtual 103, 3) := by decide +kernel
theorem dX11_votes_12 : decode cX11_votes 12 = .ok (.ireturn, 1) := by decide +kernel
theorem dX11_votes_13 : decode cX11_votes 13 = .ok (.iload_n 2, 1) := by decide +kernel
theorem dX11_votes_14 : decode cX11_votes 14 = .ok (.iconst 0, 1) := by decide +kernel
theorem dX11_votes_15 : decode cX11_votes 15 = .ok (.sipush 999, 3) := by decide +kernel
theorem dX11_votes_18 : decode cX11_votes 18 = .ok (.invokestatic 110, 3) := by decide +kernel
theorem dX11_votes_21 : decode cX11_votes 21 = .ok (.istore_n 3, 1) := by decide +kernel
theorem dX11_votes_22 : decode cX11_votes 22 = .ok (.iload_n 3, 1) := by decide +kernel
theorem dX11_votes_23 : decode cX11_votes 23 = .ok (.ifCond .eq 9, 3) := by decide +kernel
theorem dX11_votes_26 : decode cX11_votes 26 = .ok (.aload_n 0, 1) := by decide +kernel
theorem dX11_votes_27 : decode cX11_votes 27 = .ok (.iload_n 3, 1) := by decide +kernel
theorem dX11_votes_28 : decode cX11_votes 28 = .ok (.invokevirtual 103, 3) := by decide +kernel
theorem dX11_votes_31 : decode cX11_votes 31 = .ok (.ireturn, 1) := by decide +kernel
theorem dX11_votes_32 : decode cX11_votes 32 = .ok (.aload_n 0, 1) := by decide +kernel
theorem dX11_votes_33 : decode cX11_votes 33 = .ok (.getfield 33, 3) := by decide +kernel
theorem dX11_votes_36 : decode cX11_votes 36 = .ok (.getfield 239, 3) := by decide +kernel
theorem dX11_votes_39 : decode cX11_votes 39 = .ok (.iload_n 1, 1) := by decide +kernel
theorem dX11_votes_40 : decode cX11_votes 40 = .ok (.iaload, 1) := by decide +kernel
theorem dX11_votes_41 : decode cX11_votes 41 = .ok (.istore 4, 2) := by decide +kernel
theorem dX11_votes_43 : decode cX11_votes 43 = .ok (.aload_n 0, 1) := by decide +kernel
theorem dX11_votes_44 : decode cX11_votes 44 = .ok (.getfield 33, 3) := by decide +kernel
theorem dX11_votes_47 : decode cX11_votes 47 = .ok (.getfield 239, 3) := by decide +kernel
theorem dX11_votes_50 : decode cX11_votes 50 = .ok (.iload_n 1, 1) := by decide +kernel
theorem dX11_votes_51 : decode cX11_votes 51 = .ok (.iload_n 2, 1) := by decide +kernel
theorem dX11_votes_52 : decode cX11_votes 52 = .ok (.iastore, 1) := by decide +kernel
theorem dX11_votes_53 : decode cX11_votes 53 = .ok (.iload 4, 2) := by decide +kernel
theorem dX11_votes_55 : decode cX11_votes 55 = .ok (.ireturn, 1) := by decide +kernel
theorem dX11_elect_0 : decode cX11_elect 0 = .ok (.iload_n 1, 1) := by decide +kernel
theorem dX11_elect_1 : decode cX11_elect 1 = .ok (.iconst 1, 1) := by decide +kernel
theorem dX11_elect_2 : decode cX11_elect 2 = .ok (.bipush 9, 2) := by decide +kernel
theorem dX11_elect_4 : decode cX11_elect 4 = .ok (.invokestatic 110, 3) := by decide +kernel
theorem dX11_elect_7 : decode cX11_elect 7 = .ok (.istore_n 2, 1) := by decide +kernel
theorem dX11_elect_8 : decode cX11_elect 8 = .ok (.iload_n 2, 1) := by decide +kernel
theorem dX11_elect_9 : decode cX11_elect 9 = .ok (.ifCond .eq 9, 3) := by decide +kernel
theorem dX11_elect_12 : decode cX11_elect 12 = .ok (.aload_n 0, 1) := by decide +kernel
theorem dX11_elect_13 : decode cX11_elect 13 = .ok (.iload_n 2, 1) := by decide +kernel
theorem dX11_elect_14 : decode cX11_elect 14 = .ok (.invokevirtual 103, 3) := by decide +kernel
theorem dX11_elect_17 : decode cX11_elect 17 = .ok (.ireturn, 1) := by decide +kernel
theorem dX11_elect_18 : decode cX11_elect 18 = .ok (.aload_n 0, 1) := by decide +kernel
theorem dX11_elect_19 : decode cX11_elect 19 = .ok (.getfield 33, 3) := by decide +kernel
theorem dX11_elect_22 : decode cX11_elect 22 = .ok (.iload_n 1, 1) := by decide +kernel
theorem dX11_elect_23 : decode cX11_elect 23 = .ok (.invokevirtual 242, 3) := by decide +kernel
theorem dX11_elect_26 : decode cX11_elect 26 = .ok (.ireturn, 1) := by decide +kernel
theorem dX11_seat_0 : decode cX11_seat 0 = .ok (.aload_n 0, 1) := by decide +kernel
theorem dX11_seat_1 : decode cX11_seat 1 = .ok (.getfield 33, 3) := by decide +kernel
theorem dX11_seat_4 : decode cX11_seat 4 = .ok (.iload_n 1, 1) := by decide +kernel
theorem dX11_seat_5 : decode cX11_seat 5 = .ok (.invokevirtual 245, 3) := by decide +kernel
theorem dX11_seat_8 : decode cX11_seat 8 = .ok (.ifCond .ne 9, 3) := by decide +kernel
theorem dX11_seat_11 : decode cX11_seat 11 = .ok (.aload_n 0, 1) := by decide +kernel
theorem dX11_seat_12 : decode cX11_seat 12 = .ok (.iconst (-1), 1) := by decide +kernel
theorem dX11_seat_13 : decode cX11_seat 13 = .ok (.invokevirtual 103, 3) := by decide +kernel
theorem dX11_seat_16 : decode cX11_seat 16 = .ok (.ireturn, 1) := by decide +kernel
theorem dX11_seat_17 : decode cX11_seat 17 = .ok (.iload_n 2, 1) := by decide +kernel
theorem dX11_seat_18 : decode cX11_seat 18 = .ok (.ifCond .lt 8, 3) := by decide +kernel
theorem dX11_seat_21 : decode cX11_seat 21 = .ok (.iload_n 2, 1) := by decide +kernel
theorem dX11_seat_22 : decode cX11_seat 22 = .ok (.iconst 1, 1) := by decide +kernel
theorem dX11_seat_23 : decode cX11_seat 23 = .ok (.if_icmp .le 10, 3) := by decide +kernel
theorem dX11_seat_26 : decode cX11_seat 26 = .ok (.aload_n 0, 1) := by decide +kernel
theorem dX11_seat_27 : decode cX11_seat 27 = .ok (.bipush (-2), 2) := by decide +kernel
theorem dX11_seat_29 : decode cX11_seat 29 = .ok (.invokevirtual 103, 3) := by decide +kernel
theorem dX11_seat_32 : decode cX11_seat 32 = .ok (.ireturn, 1) := by decide +kernel
theorem dX11_seat_33 : decode cX11_seat 33 = .ok (.iload_n 2, 1) := by decide +kernel
theorem dX11_seat_34 : decode cX11_seat 34 = .ok (.ifCond .ne 15, 3) := by decide +kernel
theorem dX11_seat_37 : decode cX11_seat 37 = .ok (.aload_n 0, 1) := by decide +kernel
theorem dX11_seat_38 : decode cX11_seat 38 = .ok (.getfield 33, 3) := by decide +kernel
theorem dX11_seat_41 : decode cX11_seat 41 = .ok (.getfield 248, 3) := by decide +kernel
theorem dX11_seat_44 : decode cX11_seat 44 = .ok (.iload_n 1, 1) := by decide +kernel
theorem dX11_seat_45 : decode cX11_seat 45 = .ok (.iaload, 1) := by decide +kernel
theorem dX11_seat_46 : decode cX11_seat 46 = .ok (.goto 12, 3) := by decide +kernel
theorem dX11_seat_49 : decode cX11_seat 49 = .ok (.aload_n 0, 1) := by decide +kernel
theorem dX11_seat_50 : decode cX11_seat 50 = .ok (.getfield 33, 3) := by decide +kernel
theorem dX11_seat_53 : decode cX11_seat 53 = .ok (.getfield 251, 3) := by decide +kernel
theorem dX11_seat_56 : decode cX11_seat 56 = .ok (.iload_n 1, 1) := by decide +kernel
theorem dX11_seat_57 : decode cX11_seat 57 = .ok (.iaload, 1) := by decide +kernel
theorem dX11_seat_58 : decode cX11_seat 58 = .ok (.ireturn, 1) := by decide +kernel
theorem dX11_put_0 : decode cX11_put 0 = .ok (.aload_n 0, 1) := by decide +kernel
theorem dX11_put_1 : decode cX11_put 1 = .ok (.getfield 94, 3) := by decide +kernel
theorem dX11_put_4 : decode cX11_put 4 = .ok (.bipush 40, 2) := by decide +kernel
theorem dX11_put_6 : decode cX11_put 6 = .ok (.if_icmp .lt 10, 3) := by decide +kernel
theorem dX11_put_9 : decode cX11_put 9 = .ok (.aload_n 0, 1) := by decide +kernel
theorem dX11_put_10 : decode cX11_put 10 = .ok (.bipush (-6), 2) := by decide +kernel
theorem dX11_put_12 : decode cX11_put 12 = .ok (.invokevirtual 103, 3) := by decide +kernel
theorem dX11_put_15 : decode cX11_put 15 = .ok (.ireturn, 1) := by decide +kernel
theorem dX11_put_16 : decode cX11_put 16 = .ok (.aload_n 0, 1) := by decide +kernel
theorem dX11_put_17 : decode cX11_put 17 = .ok (.getfield 91, 3) := by decide +kernel
theorem dX11_put_20 : decode cX11_put 20 = .ok (.aload_n 0, 1) := by decide +kernel
theorem dX11_put_21 : decode cX11_put 21 = .ok (.getfield 94, 3) := by decide +kernel
theorem dX11_put_24 : decode cX11_put 24 = .ok (.iload_n 1, 1) := by decide +kernel
theorem dX11_put_25 : decode cX11_put 25 = .ok (.iastore, 1) := by decide +kernel
theorem dX11_put_26 : decode cX11_put 26 = .ok (.aload_n 0, 1) := by decide +kernel
theorem dX11_put_27 : decode cX11_put 27 = .ok (.dup, 1) := by decide +kernel
theorem dX11_put_28 : decode cX11_put 28 = .ok (.getfield 94, 3) := by decide +kernel
theorem dX11_put_31 : decode cX11_put 31 = .ok (.iconst 1, 1) := by decide +kernel
theorem dX11_put_32 : decode cX11_put 32 = .ok (.iadd, 1) := by decide +kernel
theorem dX11_put_33 : decode cX11_put 33 = .ok (.putfield 94, 3) := by decide +kernel
theorem dX11_put_36 : decode cX11_put 36 = .ok (.aload_n 0, 1) := by decide +kernel
theorem dX11_put_37 : decode cX11_put 37 = .ok (.getfield 94, 3) := by decide +kernel
theorem dX11_put_40 : decode cX11_put 40 = .ok (.ireturn, 1) := by decide +kernel
theorem dX11_check_0 : decode cX11_check 0 = .ok (.iload_n 1, 1) := by decide +kernel
theorem dX11_check_1 : decode cX11_check 1 = .ok (.ifCond .lt 7, 3) := by decide +kernel
theorem dX11_check_4 : decode cX11_check 4 = .ok (.iload_n 2, 1) := by decide +kernel
theorem dX11_check_5 : decode cX11_check 5 = .ok (.ifCond .ge 10, 3) := by decide +kernel
theorem dX11_check_8 : decode cX11_check 8 = .ok (.aload_n 0, 1) := by decide +kernel
theorem dX11_check_9 : decode cX11_check 9 = .ok (.bipush (-4), 2) := by decide +kernel
theorem dX11_check_11 : decode cX11_check 11 = .ok (.invokevirtual 103, 3) := by decide +kernel
theorem dX11_check_14 : decode cX11_check 14 = .ok (.ireturn, 1) := by decide +kernel
theorem dX11_check_15 : decode cX11_check 15 = .ok (.iload_n 1, 1) := by decide +kernel
theorem dX11_check_16 : decode cX11_check 16 = .ok (.iload_n 2, 1) := by decide +kernel
theorem dX11_check_17 : decode cX11_check 17 = .ok (.if_icmp .gt 14, 3) := by decide +kernel
theorem dX11_check_20 : decode cX11_check 20 = .ok (.iload_n 2, 1) := by decide +kernel
theorem dX11_check_21 : decode cX11_check 21 = .ok (.aload_n 0, 1) := by decide +kernel
theorem dX11_check_22 : decode cX11_check 22 = .ok (.getfield 10, 3) := by decide +kernel
theorem dX11_check_25 : decode cX11_check 25 = .ok (.getfield 107, 3) := by decide +kernel
theorem dX11_check_28 : decode cX11_check 28 = .ok (.if_icmp .le 10, 3) := by decide +kernel
theorem dX11_check_31 : decode cX11_check 31 = .ok (.aload_n 0, 1) := by decide +kernel
theorem dX11_check_32 : decode cX11_check 32 = .ok (.bipush (-3), 2) := by decide +kernel
theorem dX11_check_34 : decode cX11_check 34 = .ok (.invokevirtual 103, 3) := by decide +kernel
theorem dX11_check_37 : decode cX11_check 37 = .ok (.ireturn, 1) := by decide +kernel
theorem dX11_check_38 : decode cX11_check 38 = .ok (.aload_n 0, 1) := by decide +kernel
theorem dX11_check_39 : decode cX11_check 39 = .ok (.getfield 94, 3) := by decide +kernel
theorem dX11_check_42 : decode cX11_check 42 = .ok (.istore_n 3, 1) := by decide +kernel
theorem dX11_check_43 : decode cX11_check 43 = .ok (.aload_n 0, 1) := by decide +kernel
theorem dX11_check_44 : decode cX11_check 44 = .ok (.iconst 0, 1) := by decide +kernel
theorem dX11_check_45 : decode cX11_check 45 = .ok (.putfield 94, 3) := by decide +kernel
theorem dX11_check_48 : decode cX11_check 48 = .ok (.iconst 0, 1) := by decide +kernel
theorem dX11_check_49 : decode cX11_check 49 = .ok (.istore 4, 2) := by decide +kernel
theorem dX11_check_51 : decode cX11_check 51 = .ok (.iload 4, 2) := by decide +kernel
theorem dX11_check_53 : decode cX11_check 53 = .ok (.iload_n 3, 1) := by decide +kernel
theorem dX11_check_54 : decode cX11_check 54 = .ok (.if_icmp .ge 64, 3) := by decide +kernel
theorem dX11_check_57 : decode cX11_check 57 = .ok (.iload 4, 2) := by decide +kernel
theorem dX11_check_59 : decode cX11_check 59 = .ok (.bipush 40, 2) := by decide +kernel
theorem dX11_check_61 : decode cX11_check 61 = .ok (.if_icmp .ge 57, 3) := by decide +kernel
theorem dX11_check_64 : decode cX11_check 64 = .ok (.aload_n 0, 1) := by decide +kernel
theorem dX11_check_65 : decode cX11_check 65 = .ok (.iload 4, 2) := by decide +kernel
theorem dX11_check_67 : decode cX11_check 67 = .ok (.invokevirtual 204, 3) := by decide +kernel
theorem dX11_check_70 : decode cX11_check 70 = .ok (.ifCond .eq 39, 3) := by decide +kernel
theorem dX11_check_73 : decode cX11_check 73 = .ok (.aload_n 0, 1) := by decide +kernel
theorem dX11_check_74 : decode cX11_check 74 = .ok (.getfield 39, 3) := by decide +kernel
theorem dX11_check_77 : decode cX11_check 77 = .ok (.iload 4, 2) := by decide +kernel
theorem dX11_check_79 : decode cX11_check 79 = .ok (.aaload, 1) := by decide +kernel
theorem dX11_check_80 : decode cX11_check 80 = .ok (.getfield 220, 3) := by decide +kernel
theorem dX11_check_83 : decode cX11_check 83 = .ok (.iload_n 1, 1) := by decide +kernel
theorem dX11_check_84 : decode cX11_check 84 = .ok (.if_icmp .gt 25, 3) := by decide +kernel
theorem dX11_check_87 : decode cX11_check 87 = .ok (.aload_n 0, 1) := by decide +kernel
theorem dX11_check_88 : decode cX11_check 88 = .ok (.getfield 39, 3) := by decide +kernel
theorem dX11_check_91 : decode cX11_check 91 = .ok (.iload 4, 2) := by decide +kernel
theorem dX11_check_93 : decode cX11_check 93 = .ok (.aaload, 1) := by decide +kernel
theorem dX11_check_94 : decode cX11_check 94 = .ok (.iload_n 1, 1) := by decide +kernel
theorem dX11_check_95 : decode cX11_check 95 = .ok (.iload_n 2, 1) := by decide +kernel
theorem dX11_check_96 : decode cX11_check 96 = .ok (.invokevirtual 221, 3) := by decide +kernel
theorem dX11_check_99 : decode cX11_check 99 = .ok (.aload_n 0, 1) := by decide +kernel
theorem dX11_check_100 : decode cX11_check 100 = .ok (.getfield 91, 3) := by decide +kernel
theorem dX11_check_103 : decode cX11_check 103 = .ok (.iload 4, 2) := by decide +kernel
theorem dX11_check_105 : decode cX11_check 105 = .ok (.iaload, 1) := by decide +kernel
theorem dX11_check_106 : decode cX11_check 106 = .ok (.if_icmp .eq 6, 3) := by decide +kernel
theorem dX11_check_109 : decode cX11_check 109 = .ok (.iload 4, 2) := by decide +kernel
theorem dX11_check_111 : decode cX11_check 111 = .ok (.ireturn, 1) := by decide +kernel
theorem dX11_check_112 : decode cX11_check 112 = .ok (.iinc 4 1, 3) := by decide +kernel
theorem dX11_check_115 : decode cX11_check 115 = .ok (.goto (-64), 3) := by decide +kernel
theorem dX11_check_118 : decode cX11_check 118 = .ok (.bipush (-9), 2) := by decide +kernel
theorem dX11_check_120 : decode cX11_check 120 = .ok (.ireturn, 1) := by decide +kernel
theorem dX11_count_0 : decode cX11_count 0 = .ok (.iload_n 1, 1) := by decide +kernel
theorem dX11_count_1 : decode cX11_count 1 = .ok (.bipush 11, 2) := by decide +kernel
theorem dX11_count_3 : decode cX11_count 3 = .ok (.if_icmp .lt 19, 3) := by decide +kernel
theorem dX11_count_6 : decode cX11_count 6 = .ok (.iload_n 1, 1) := by decide +kernel
theorem dX11_count_7 : decode cX11_count 7 = .ok (.bipush 16, 2) := by decide +kernel
theorem dX11_count_9 : decode cX11_count 9 = .ok (.if_icmp .gt 13, 3) := by decide +kernel
theorem dX11_count_12 : decode cX11_count 12 = .ok (.aload_n 0, 1) := by decide +kernel
theorem dX11_count_13 : decode cX11_count 13 = .ok (.getfield 97, 3) := by decide +kernel
theorem dX11_count_16 : decode cX11_count 16 = .ok (.iload_n 1, 1) := by decide +kernel
theorem dX11_count_17 : decode cX11_count 17 = .ok (.bipush 10, 2) := by decide +kernel
theorem dX11_count_19 : decode cX11_count 19 = .ok (.isub, 1) := by decide +kernel
theorem dX11_count_20 : decode cX11_count 20 = .ok (.iaload, 1) := by decide +kernel
theorem dX11_count_21 : decode cX11_count 21 = .ok (.ireturn, 1) := by decide +kernel
theorem dX11_count_22 : decode cX11_count 22 = .ok (.iload_n 1, 1) := by decide +kernel
theorem dX11_count_23 : decode cX11_count 23 = .ok (.tableswitch 135 0 10 #[57, 65, 75, 83, 88, 96, 104, 109, 117, 122, 130], 57) := by decide +kernel
theorem dX11_count_80 : decode cX11_count 80 = .ok (.aload_n 0, 1) := by decide +kernel
theorem dX11_count_81 : decode cX11_count 81 = .ok (.getfield 10, 3) := by decide +kernel
theorem dX11_count_84 : decode cX11_count 84 = .ok (.getfield 107, 3) := by decide +kernel
theorem dX11_count_87 : decode cX11_count 87 = .ok (.ireturn, 1) := by decide +kernel
theorem dX11_count_88 : decode cX11_count 88 = .ok (.aload_n 0, 1) := by decide +kernel
theorem dX11_count_89 : decode cX11_count 89 = .ok (.getfield 19, 3) := by decide +kernel
theorem dX11_count_92 : decode cX11_count 92 = .ok (.bipush 63, 2) := by decide +kernel
theorem dX11_count_94 : decode cX11_count 94 = .ok (.invokevirtual 390, 3) := by decide +kernel
theorem dX11_count_97 : decode cX11_count 97 = .ok (.ireturn, 1) := by decide +kernel
theorem dX11_count_98 : decode cX11_count 98 = .ok (.aload_n 0, 1) := by decide +kernel
theorem dX11_count_99 : decode cX11_count 99 = .ok (.getfield 26, 3) := by decide +kernel
theorem dX11_count_102 : decode cX11_count 102 = .ok (.getfield 156, 3) := by decide +kernel
theorem dX11_count_105 : decode cX11_count 105 = .ok (.ireturn, 1) := by decide +kernel
theorem dX11_count_106 : decode cX11_count 106 = .ok (.aload_n 0, 1) := by decide +kernel
theorem dX11_count_107 : decode cX11_count 107 = .ok (.getfield 43, 3) := by decide +kernel
theorem dX11_count_110 : decode cX11_count 110 = .ok (.ireturn, 1) := by decide +kernel
theorem dX11_count_111 : decode cX11_count 111 = .ok (.aload_n 0, 1) := by decide +kernel
theorem dX11_count_112 : decode cX11_count 112 = .ok (.getfield 33, 3) := by decide +kernel
theorem dX11_count_115 : decode cX11_count 115 = .ok (.getfield 442, 3) := by decide +kernel
theorem dX11_count_118 : decode cX11_count 118 = .ok (.ireturn, 1) := by decide +kernel
theorem dX11_count_119 : decode cX11_count 119 = .ok (.aload_n 0, 1) := by decide +kernel
theorem dX11_count_120 : decode cX11_count 120 = .ok (.getfield 33, 3) := by decide +kernel
theorem dX11_count_123 : decode cX11_count 123 = .ok (.getfield 264, 3) := by decide +kernel
theorem dX11_count_126 : decode cX11_count 126 = .ok (.ireturn, 1) := by decide +kernel
theorem dX11_count_127 : decode cX11_count 127 = .ok (.aload_n 0, 1) := by decide +kernel
theorem dX11_count_128 : decode cX11_count 128 = .ok (.invokevirtual 445, 3) := by decide +kernel
theorem dX11_count_131 : decode cX11_count 131 = .ok (.ireturn, 1) := by decide +kernel
theorem dX11_count_132 : decode cX11_count 132 = .ok (.aload_n 0, 1) := by decide +kernel
theorem dX11_count_133 : decode cX11_count 133 = .ok (.getfield 57, 3) := by decide +kernel
theorem dX11_count_136 : decode cX11_count 136 = .ok (.getfield 354, 3) := by decide +kernel
theorem dX11_count_139 : decode cX11_count 139 = .ok (.ireturn, 1) := by decide +kernel
theorem dX11_count_140 : decode cX11_count 140 = .ok (.aload_n 0, 1) := by decide +kernel
theorem dX11_count_141 : decode cX11_count 141 = .ok (.invokevirtual 448, 3) := by decide +kernel
theorem dX11_count_144 : decode cX11_count 144 = .ok (.ireturn, 1) := by decide +kernel
theorem dX11_count_145 : decode cX11_count 145 = .ok (.aload_n 0, 1) := by decide +kernel
theorem dX11_count_146 : decode cX11_count 146 = .ok (.getfield 26, 3) := by decide +kernel
theorem dX11_count_149 : decode cX11_count 149 = .ok (.invokevirtual 148, 3) := by decide +kernel
theorem dX11_count_152 : decode cX11_count 152 = .ok (.ireturn, 1) := by decide +kernel
theorem dX11_count_153 : decode cX11_count 153 = .ok (.aload_n 0, 1) := by decide +kernel
theorem dX11_count_154 : decode cX11_count 154 = .ok (.getfield 94, 3) := by decide +kernel
theorem dX11_count_157 : decode cX11_count 157 = .ok (.ireturn, 1) := by decide +kernel
theorem dX11_count_158 : decode cX11_count 158 = .ok (.bipush (-9), 2) := by decide +kernel
theorem dX11_count_160 : decode cX11_count 160 = .ok (.ireturn, 1) := by decide +kernel
theorem dX11_refuse_0 : decode cX11_refuse 0 = .ok (.iload_n 1, 1) := by decide +kernel
theorem dX11_refuse_1 : decode cX11_refuse 1 = .ok (.ifCond .ge 20, 3) := by decide +kernel
theorem dX11_refuse_4 : decode cX11_refuse 4 = .ok (.iload_n 1, 1) := by decide +kernel
theorem dX11_refuse_5 : decode cX11_refuse 5 = .ok (.bipush (-6), 2) := by decide +kernel
theorem dX11_refuse_7 : decode cX11_refuse 7 = .ok (.if_icmp .lt 14, 3) := by decide +kernel
theorem dX11_refuse_10 : decode cX11_refuse 10 = .ok (.aload_n 0, 1) := by decide +kernel
theorem dX11_refuse_11 : decode cX11_refuse 11 = .ok (.getfield 97, 3) := by decide +kernel
theorem dX11_refuse_14 : decode cX11_refuse 14 = .ok (.iload_n 1, 1) := by decide +kernel
theorem dX11_refuse_15 : decode cX11_refuse 15 = .ok (.ineg, 1) := by decide +kernel
theorem dX11_refuse_16 : decode cX11_refuse 16 = .ok (.dup2, 1) := by decide +kernel
theorem dX11_refuse_17 : decode cX11_refuse 17 = .ok (.iaload, 1) := by decide +kernel
theorem dX11_refuse_18 : decode cX11_refuse 18 = .ok (.iconst 1, 1) := by decide +kernel
theorem dX11_refuse_19 : decode cX11_refuse 19 = .ok (.iadd, 1) := by decide +kernel
theorem dX11_refuse_20 : decode cX11_refuse 20 = .ok (.iastore, 1) := by decide +kernel
theorem dX11_refuse_21 : decode cX11_refuse 21 = .ok (.iload_n 1, 1) := by decide +kernel
theorem dX11_refuse_22 : decode cX11_refuse 22 = .ok (.ireturn, 1) := by decide +kernel
theorem dX11_outside_0 : decode cX11_outside 0 = .ok (.iload_n 0, 1) := by decide +kernel
theorem dX11_outside_1 : decode cX11_outside 1 = .ok (.iload_n 1, 1) := by decide +kernel
theorem dX11_outside_2 : decode cX11_outside 2 = .ok (.if_icmp .ge 8, 3) := by decide +kernel
theorem dX11_outside_5 : decode cX11_outside 5 = .ok (.bipush (-4), 2) := by decide +kernel
theorem dX11_outside_7 : decode cX11_outside 7 = .ok (.goto 14, 3) := by decide +kernel
theorem dX11_outside_10 : decode cX11_outside 10 = .ok (.iload_n 0, 1) := by decide +kernel
theorem dX11_outside_11 : decode cX11_outside 11 = .ok (.iload_n 2, 1) := by decide +kernel
theorem dX11_outside_12 : decode cX11_outside 12 = .ok (.if_icmp .le 8, 3) := by decide +kernel
theorem dX11_outside_15 : decode cX11_outside 15 = .ok (.bipush (-6), 2) := by decide +kernel
theorem dX11_outside_17 : decode cX11_outside 17 = .ok (.goto 4, 3) := by decide +kernel
theorem dX11_outside_20 : decode cX11_outside 20 = .ok (.iconst 0, 1) := by decide +kernel
theorem dX11_outside_21 : decode cX11_outside 21 = .ok (.ireturn, 1) := by decide +kernel
theorem dX11_fullAt_0 : decode cX11_fullAt 0 = .ok (.iload_n 0, 1) := by decide +kernel
theorem dX11_fullAt_1 : decode cX11_fullAt 1 = .ok (.iload_n 1, 1) := by decide +kernel
theorem dX11_fullAt_2 : decode cX11_fullAt 2 = .ok (.if_icmp .lt 8, 3) := by decide +kernel
theorem dX11_fullAt_5 : decode cX11_fullAt 5 = .ok (.bipush (-6), 2) := by decide +kernel
theorem dX11_fullAt_7 : decode cX11_fullAt 7 = .ok (.goto 4, 3) := by decide +kernel
theorem dX11_fullAt_10 : decode cX11_fullAt 10 = .ok (.iconst 0, 1) := by decide +kernel
theorem dX11_fullAt_11 : decode cX11_fullAt 11 = .ok (.ireturn, 1) := by decide +kernel
theorem dX11_worse_0 : decode cX11_worse 0 = .ok (.iload_n 0, 1) := by decide +kernel
theorem dX11_worse_1 : decode cX11_worse 1 = .ok (.bipush (-4), 2) := by decide +kernel
theorem dX11_worse_3 : decode cX11_worse 3 = .ok (.if_icmp .eq 9, 3) := by decide +kernel
theorem dX11_worse_6 : decode cX11_worse 6 = .ok (.iload_n 1, 1) := by decide +kernel
theorem dX11_worse_7 : decode cX11_worse 7 = .ok (.bipush (-4), 2) := by decide +kernel
theorem dX11_worse_9 : decode cX11_worse 9 = .ok (.if_icmp .ne 8, 3) := by decide +kernel
theorem dX11_worse_12 : decode cX11_worse 12 = .ok (.bipush (-4), 2) := by decide +kernel
theorem dX11_worse_14 : decode cX11_worse 14 = .ok (.goto 8, 3) := by decide +kernel
theorem dX11_worse_17 : decode cX11_worse 17 = .ok (.iload_n 0, 1) := by decide +kernel
theorem dX11_worse_18 : decode cX11_worse 18 = .ok (.iload_n 1, 1) := by decide +kernel
theorem dX11_worse_19 : decode cX11_worse 19 = .ok (.invokestatic 452, 3) := by decide +kernel
theorem dX11_worse_22 : decode cX11_worse 22 = .ok (.ireturn, 1) := by decide +kernel
theorem dX11_wrongTopic_0 : decode cX11_wrongTopic 0 = .ok (.iload_n 0, 1) := by decide +kernel
theorem dX11_wrongTopic_1 : decode cX11_wrongTopic 1 = .ok (.iconst 1, 1) := by decide +kernel
theorem dX11_wrongTopic_2 : decode cX11_wrongTopic 2 = .ok (.bipush 63, 2) := by decide +kernel
theorem dX11_wrongTopic_4 : decode cX11_wrongTopic 4 = .ok (.invokestatic 110, 3) := by decide +kernel
theorem dX11_wrongTopic_7 : decode cX11_wrongTopic 7 = .ok (.iload_n 1, 1) := by decide +kernel
theorem dX11_wrongTopic_8 : decode cX11_wrongTopic 8 = .ok (.iconst 0, 1) := by decide +kernel
theorem dX11_wrongTopic_9 : decode cX11_wrongTopic 9 = .ok (.sipush 9999, 3) := by decide +kernel
theorem dX11_wrongTopic_12 : decode cX11_wrongTopic 12 = .ok (.invokestatic 110, 3) := by decide +kernel
theorem dX11_wrongTopic_15 : decode cX11_wrongTopic 15 = .ok (.invokestatic 118, 3) := by decide +kernel
theorem dX11_wrongTopic_18 : decode cX11_wrongTopic 18 = .ok (.ireturn, 1) := by decide +kernel
theorem dX11_isShop_0 : decode cX11_isShop 0 = .ok (.iload_n 0, 1) := by decide +kernel
theorem dX11_isShop_1 : decode cX11_isShop 1 = .ok (.ifCond .lt 13, 3) := by decide +kernel
theorem dX11_isShop_4 : decode cX11_isShop 4 = .ok (.iload_n 0, 1) := by decide +kernel
theorem dX11_isShop_5 : decode cX11_isShop 5 = .ok (.bipush 6, 2) := by decide +kernel
theorem dX11_isShop_7 : decode cX11_isShop 7 = .ok (.if_icmp .ge 7, 3) := by decide +kernel
theorem dX11_isShop_10 : decode cX11_isShop 10 = .ok (.iconst 1, 1) := by decide +kernel
theorem dX11_isShop_11 : decode cX11_isShop 11 = .ok (.goto 4, 3) := by decide +kernel
theorem dX11_isShop_14 : decode cX11_isShop 14 = .ok (.iconst 0, 1) := by decide +kernel
theorem dX11_isShop_15 : decode cX11_isShop 15 = .ok (.ireturn, 1) := by decide +kernel
theorem dX11_isWhat_0 : decode cX11_isWhat 0 = .ok (.iload_n 0, 1) := by decide +kernel
theorem dX11_isWhat_1 : decode cX11_isWhat 1 = .ok (.ifCond .lt 13, 3) := by decide +kernel
theorem dX11_isWhat_4 : decode cX11_isWhat 4 = .ok (.iload_n 0, 1) := by decide +kernel
theorem dX11_isWhat_5 : decode cX11_isWhat 5 = .ok (.bipush 8, 2) := by decide +kernel
theorem dX11_isWhat_7 : decode cX11_isWhat 7 = .ok (.if_icmp .ge 7, 3) := by decide +kernel
theorem dX11_isWhat_10 : decode cX11_isWhat 10 = .ok (.iconst 1, 1) := by decide +kernel
theorem dX11_isWhat_11 : decode cX11_isWhat 11 = .ok (.goto 4, 3) := by decide +kernel
theorem dX11_isWhat_14 : decode cX11_isWhat 14 = .ok (.iconst 0, 1) := by decide +kernel
theorem dX11_isWhat_15 : decode cX11_isWhat 15 = .ok (.ireturn, 1) := by decide +kernel
theorem dX11_isMatter_0 : decode cX11_isMatter 0 = .ok (.iload_n 1, 1) := by decide +kernel
theorem dX11_isMatter_1 : decode cX11_isMatter 1 = .ok (.ifCond .lt 21, 3) := by decide +kernel
theorem dX11_isMatter_4 : decode cX11_isMatter 4 = .ok (.iload_n 1, 1) := by decide +kernel
theorem dX11_isMatter_5 : decode cX11_isMatter 5 = .ok (.aload_n 0, 1) := by decide +kernel
theorem dX11_isMatter_6 : decode cX11_isMatter 6 = .ok (.getfield 43, 3) := by decide +kernel
theorem dX11_isMatter_9 : decode cX11_isMatter 9 = .ok (.if_icmp .ge 13, 3) := by decide +kernel
theorem dX11_isMatter_12 : decode cX11_isMatter 12 = .ok (.iload_n 1, 1) := by decide +kernel
theorem dX11_isMatter_13 : decode cX11_isMatter 13 = .ok (.bipush 40, 2) := by decide +kernel
theorem dX11_isMatter_15 : decode cX11_isMatter 15 = .ok (.if_icmp .ge 7, 3) := by decide +kernel
theorem dX11_isMatter_18 : decode cX11_isMatter 18 = .ok (.iconst 1, 1) := by decide +kernel
theorem dX11_isMatter_19 : decode cX11_isMatter 19 = .ok (.goto 4, 3) := by decide +kernel
theorem dX11_isMatter_22 : decode cX11_isMatter 22 = .ok (.iconst 0, 1) := by decide +kernel
theorem dX11_isMatter_23 : decode cX11_isMatter 23 = .ok (.ireturn, 1) := by decide +kernel
theorem dX11_tellFacts_0 : decode cX11_tellFacts 0 = .ok (.aload_n 0, 1) := by decide +kernel
theorem dX11_tellFacts_1 : decode cX11_tellFacts 1 = .ok (.getfield 26, 3) := by decide +kernel
theorem dX11_tellFacts_4 : decode cX11_tellFacts 4 = .ok (.getfield 455, 3) := by decide +kernel
theorem dX11_tellFacts_7 : decode cX11_tellFacts 7 = .ok (.getfield 459, 3) := by decide +kernel
theorem dX11_tellFacts_10 : decode cX11_tellFacts 10 = .ok (.astore 4, 2) := by decide +kernel
theorem dX11_tellFacts_12 : decode cX11_tellFacts 12 = .ok (.aload 4, 2) := by decide +kernel
theorem dX11_tellFacts_14 : decode cX11_tellFacts 14 = .ok (.iconst 0, 1) := by decide +kernel
theorem dX11_tellFacts_15 : decode cX11_tellFacts 15 = .ok (.aload_n 0, 1) := by decide +kernel
theorem dX11_tellFacts_16 : decode cX11_tellFacts 16 = .ok (.getfield 19, 3) := by decide +kernel
theorem dX11_tellFacts_19 : decode cX11_tellFacts 19 = .ok (.iload_n 1, 1) := by decide +kernel
theorem dX11_tellFacts_20 : decode cX11_tellFacts 20 = .ok (.invokevirtual 390, 3) := by decide +kernel
theorem dX11_tellFacts_23 : decode cX11_tellFacts 23 = .ok (.iastore, 1) := by decide +kernel
theorem dX11_tellFacts_24 : decode cX11_tellFacts 24 = .ok (.aload 4, 2) := by decide +kernel
theorem dX11_tellFacts_26 : decode cX11_tellFacts 26 = .ok (.iconst 1, 1) := by decide +kernel
theorem dX11_tellFacts_27 : decode cX11_tellFacts 27 = .ok (.aload_n 0, 1) := by decide +kernel
theorem dX11_tellFacts_28 : decode cX11_tellFacts 28 = .ok (.getfield 19, 3) := by decide +kernel
theorem dX11_tellFacts_31 : decode cX11_tellFacts 31 = .ok (.bipush 63, 2) := by decide +kernel
theorem dX11_tellFacts_33 : decode cX11_tellFacts 33 = .ok (.invokevirtual 390, 3) := by decide +kernel
theorem dX11_tellFacts_36 : decode cX11_tellFacts 36 = .ok (.iastore, 1) := by decide +kernel
theorem dX11_tellFacts_37 : decode cX11_tellFacts 37 = .ok (.aload 4, 2) := by decide +kernel
theorem dX11_tellFacts_39 : decode cX11_tellFacts 39 = .ok (.iconst 2, 1) := by decide +kernel
theorem dX11_tellFacts_40 : decode cX11_tellFacts 40 = .ok (.iload_n 1, 1) := by decide +kernel
theorem dX11_tellFacts_41 : decode cX11_tellFacts 41 = .ok (.invokestatic 280, 3) := by decide +kernel
theorem dX11_tellFacts_44 : decode cX11_tellFacts 44 = .ok (.iastore, 1) := by decide +kernel
theorem dX11_tellFacts_45 : decode cX11_tellFacts 45 = .ok (.aload 4, 2) := by decide +kernel
theorem dX11_tellFacts_47 : decode cX11_tellFacts 47 = .ok (.iconst 3, 1) := by decide +kernel
theorem dX11_tellFacts_48 : decode cX11_tellFacts 48 = .ok (.iload_n 2, 1) := by decide +kernel
theorem dX11_tellFacts_49 : decode cX11_tellFacts 49 = .ok (.iastore, 1) := by decide +kernel
theorem dX11_tellFacts_50 : decode cX11_tellFacts 50 = .ok (.aload 4, 2) := by decide +kernel
theorem dX11_tellFacts_52 : decode cX11_tellFacts 52 = .ok (.iconst 4, 1) := by decide +kernel
theorem dX11_tellFacts_53 : decode cX11_tellFacts 53 = .ok (.aload_n 0, 1) := by decide +kernel
theorem dX11_tellFacts_54 : decode cX11_tellFacts 54 = .ok (.getfield 33, 3) := by decide +kernel
theorem dX11_tellFacts_57 : decode cX11_tellFacts 57 = .ok (.getfield 442, 3) := by decide +kernel
theorem dX11_tellFacts_60 : decode cX11_tellFacts 60 = .ok (.iastore, 1) := by decide +kernel
theorem dX11_tellFacts_61 : decode cX11_tellFacts 61 = .ok (.aload 4, 2) := by decide +kernel
theorem dX11_tellFacts_63 : decode cX11_tellFacts 63 = .ok (.iconst 5, 1) := by decide +kernel
theorem dX11_tellFacts_64 : decode cX11_tellFacts 64 = .ok (.iload_n 3, 1) := by decide +kernel
theorem dX11_tellFacts_65 : decode cX11_tellFacts 65 = .ok (.ifCond .eq 7, 3) := by decide +kernel
theorem dX11_tellFacts_68 : decode cX11_tellFacts 68 = .ok (.iconst 1, 1) := by decide +kernel
theorem dX11_tellFacts_69 : decode cX11_tellFacts 69 = .ok (.goto 4, 3) := by decide +kernel
theorem dX11_tellFacts_72 : decode cX11_tellFacts 72 = .ok (.iconst 0, 1) := by decide +kernel
theorem dX11_tellFacts_73 : decode cX11_tellFacts 73 = .ok (.iastore, 1) := by decide +kernel
theorem dX11_tellFacts_74 : decode cX11_tellFacts 74 = .ok (.return_, 1) := by decide +kernel
theorem dX11_holds_0 : decode cX11_holds 0 = .ok (.aload_n 0, 1) := by decide +kernel
theorem dX11_holds_1 : decode cX11_holds 1 = .ok (.getfield 50, 3) := by decide +kernel
theorem dX11_holds_4 : decode cX11_holds 4 = .ok (.getfield 312, 3) := by decide +kernel
theorem dX11_holds_7 : decode cX11_holds 7 = .ok (.iload_n 1, 1) := by decide +kernel
theorem dX11_holds_8 : decode cX11_holds 8 = .ok (.iaload, 1) := by decide +kernel
theorem dX11_holds_9 : decode cX11_holds 9 = .ok (.istore_n 2, 1) := by decide +kernel
theorem dX11_holds_10 : decode cX11_holds 10 = .ok (.aload_n 0, 1) := by decide +kernel
theorem dX11_holds_11 : decode cX11_holds 11 = .ok (.iload_n 2, 1) := by decide +kernel
theorem dX11_holds_12 : decode cX11_holds 12 = .ok (.invokevirtual 204, 3) := by decide +kernel
theorem dX11_holds_15 : decode cX11_holds 15 = .ok (.ifCond .eq 44, 3) := by decide +kernel
theorem dX11_holds_18 : decode cX11_holds 18 = .ok (.aload_n 0, 1) := by decide +kernel
theorem dX11_holds_19 : decode cX11_holds 19 = .ok (.getfield 39, 3) := by decide +kernel
theorem dX11_holds_22 : decode cX11_holds 22 = .ok (.iload_n 2, 1) := by decide +kernel
theorem dX11_holds_23 : decode cX11_holds 23 = .ok (.aaload, 1) := by decide +kernel
theorem dX11_holds_24 : decode cX11_holds 24 = .ok (.aload_n 0, 1) := by decide +kernel
theorem dX11_holds_25 : decode cX11_holds 25 = .ok (.getfield 39, 3) := by decide +kernel
theorem dX11_holds_28 : decode cX11_holds 28 = .ok (.iload_n 2, 1) := by decide +kernel
theorem dX11_holds_29 : decode cX11_holds 29 = .ok (.aaload, 1) := by decide +kernel
theorem dX11_holds_30 : decode cX11_holds 30 = .ok (.aload_n 0, 1) := by decide +kernel
theorem dX11_holds_31 : decode cX11_holds 31 = .ok (.getfield 50, 3) := by decide +kernel
theorem dX11_holds_34 : decode cX11_holds 34 = .ok (.getfield 464, 3) := by decide +kernel
theorem dX11_holds_37 : decode cX11_holds 37 = .ok (.iload_n 1, 1) := by decide +kernel
theorem dX11_holds_38 : decode cX11_holds 38 = .ok (.iaload, 1) := by decide +kernel
theorem dX11_holds_39 : decode cX11_holds 39 = .ok (.aload_n 0, 1) := by decide +kernel
theorem dX11_holds_40 : decode cX11_holds 40 = .ok (.getfield 10, 3) := by decide +kernel
theorem dX11_holds_43 : decode cX11_holds 43 = .ok (.getfield 107, 3) := by decide +kernel
theorem dX11_holds_46 : decode cX11_holds 46 = .ok (.invokevirtual 221, 3) := by decide +kernel
theorem dX11_holds_49 : decode cX11_holds 49 = .ok (.invokevirtual 467, 3) := by decide +kernel
theorem dX11_holds_52 : decode cX11_holds 52 = .ok (.ifCond .eq 7, 3) := by decide +kernel
theorem dX11_holds_55 : decode cX11_holds 55 = .ok (.iconst 1, 1) := by decide +kernel
theorem dX11_holds_56 : decode cX11_holds 56 = .ok (.goto 4, 3) := by decide +kernel
theorem dX11_holds_59 : decode cX11_holds 59 = .ok (.iconst 0, 1) := by decide +kernel
theorem dX11_holds_60 : decode cX11_holds 60 = .ok (.ireturn, 1) := by decide +kernel
theorem dX11_voidSince_0 : decode cX11_voidSince 0 = .ok (.aload_n 0, 1) := by decide +kernel
theorem dX11_voidSince_1 : decode cX11_voidSince 1 = .ok (.getfield 57, 3) := by decide +kernel
theorem dX11_voidSince_4 : decode cX11_voidSince 4 = .ok (.getfield 360, 3) := by decide +kernel
theorem dX11_voidSince_7 : decode cX11_voidSince 7 = .ok (.iload_n 1, 1) := by decide +kernel
theorem dX11_voidSince_8 : decode cX11_voidSince 8 = .ok (.iaload, 1) := by decide +kernel
theorem dX11_voidSince_9 : decode cX11_voidSince 9 = .ok (.istore_n 2, 1) := by decide +kernel
theorem dX11_voidSince_10 : decode cX11_voidSince 10 = .ok (.aload_n 0, 1) := by decide +kernel
theorem dX11_voidSince_11 : decode cX11_voidSince 11 = .ok (.aload_n 0, 1) := by decide +kernel
theorem dX11_voidSince_12 : decode cX11_voidSince 12 = .ok (.getfield 57, 3) := by decide +kernel
theorem dX11_voidSince_15 : decode cX11_voidSince 15 = .ok (.getfield 359, 3) := by decide +kernel
theorem dX11_voidSince_18 : decode cX11_voidSince 18 = .ok (.iload_n 1, 1) := by decide +kernel
theorem dX11_voidSince_19 : decode cX11_voidSince 19 = .ok (.iaload, 1) := by decide +kernel
theorem dX11_voidSince_20 : decode cX11_voidSince 20 = .ok (.invokevirtual 204, 3) := by decide +kernel
theorem dX11_voidSince_23 : decode cX11_voidSince 23 = .ok (.ifCond .ne 22, 3) := by decide +kernel
theorem dX11_voidSince_26 : decode cX11_voidSince 26 = .ok (.aload_n 0, 1) := by decide +kernel
theorem dX11_voidSince_27 : decode cX11_voidSince 27 = .ok (.getfield 57, 3) := by decide +kernel
theorem dX11_voidSince_30 : decode cX11_voidSince 30 = .ok (.getfield 476, 3) := by decide +kernel
theorem dX11_voidSince_33 : decode cX11_voidSince 33 = .ok (.iload_n 1, 1) := by decide +kernel
theorem dX11_voidSince_34 : decode cX11_voidSince 34 = .ok (.baload, 1) := by decide +kernel
theorem dX11_voidSince_35 : decode cX11_voidSince 35 = .ok (.ifCond .eq 7, 3) := by decide +kernel
theorem dX11_voidSince_38 : decode cX11_voidSince 38 = .ok (.iload_n 2, 1) := by decide +kernel
theorem dX11_voidSince_39 : decode cX11_voidSince 39 = .ok (.goto 5, 3) := by decide +kernel
theorem dX11_voidSince_42 : decode cX11_voidSince 42 = .ok (.bipush (-9), 2) := by decide +kernel
theorem dX11_voidSince_44 : decode cX11_voidSince 44 = .ok (.ireturn, 1) := by decide +kernel
theorem dX11_voidSince_45 : decode cX11_voidSince 45 = .ok (.aload_n 0, 1) := by decide +kernel
theorem dX11_voidSince_46 : decode cX11_voidSince 46 = .ok (.getfield 39, 3) := by decide +kernel
theorem dX11_voidSince_49 : decode cX11_voidSince 49 = .ok (.aload_n 0, 1) := by decide +kernel
theorem dX11_voidSince_50 : decode cX11_voidSince 50 = .ok (.getfield 57, 3) := by decide +kernel
theorem dX11_voidSince_53 : decode cX11_voidSince 53 = .ok (.getfield 359, 3) := by decide +kernel
theorem dX11_voidSince_56 : decode cX11_voidSince 56 = .ok (.iload_n 1, 1) := by decide +kernel
theorem dX11_voidSince_57 : decode cX11_voidSince 57 = .ok (.iaload, 1) := by decide +kernel
theorem dX11_voidSince_58 : decode cX11_voidSince 58 = .ok (.aaload, 1) := by decide +kernel
theorem dX11_voidSince_59 : decode cX11_voidSince 59 = .ok (.astore_n 3, 1) := by decide +kernel
theorem dX11_voidSince_60 : decode cX11_voidSince 60 = .ok (.aload_n 0, 1) := by decide +kernel
theorem dX11_voidSince_61 : decode cX11_voidSince 61 = .ok (.getfield 57, 3) := by decide +kernel
theorem dX11_voidSince_64 : decode cX11_voidSince 64 = .ok (.getfield 479, 3) := by decide +kernel
theorem dX11_voidSince_67 : decode cX11_voidSince 67 = .ok (.iload_n 1, 1) := by decide +kernel
theorem dX11_voidSince_68 : decode cX11_voidSince 68 = .ok (.iaload, 1) := by decide +kernel
theorem dX11_voidSince_69 : decode cX11_voidSince 69 = .ok (.aload_n 3, 1) := by decide +kernel
theorem dX11_voidSince_70 : decode cX11_voidSince 70 = .ok (.getfield 470, 3) := by decide +kernel
theorem dX11_voidSince_73 : decode cX11_voidSince 73 = .ok (.iconst (-1), 1) := by decide +kernel
theorem dX11_voidSince_74 : decode cX11_voidSince 74 = .ok (.ixor, 1) := by decide +kernel
theorem dX11_voidSince_75 : decode cX11_voidSince 75 = .ok (.iand, 1) := by decide +kernel
theorem dX11_voidSince_76 : decode cX11_voidSince 76 = .ok (.ifCond .ne 19, 3) := by decide +kernel
theorem dX11_voidSince_79 : decode cX11_voidSince 79 = .ok (.aload_n 0, 1) := by decide +kernel
theorem dX11_voidSince_80 : decode cX11_voidSince 80 = .ok (.getfield 57, 3) := by decide +kernel
theorem dX11_voidSince_83 : decode cX11_voidSince 83 = .ok (.getfield 481, 3) := by decide +kernel
theorem dX11_voidSince_86 : decode cX11_voidSince 86 = .ok (.iload_n 1, 1) := by decide +kernel
theorem dX11_voidSince_87 : decode cX11_voidSince 87 = .ok (.iaload, 1) := by decide +kernel
theorem dX11_voidSince_88 : decode cX11_voidSince 88 = .ok (.aload_n 3, 1) := by decide +kernel
theorem dX11_voidSince_89 : decode cX11_voidSince 89 = .ok (.getfield 484, 3) := by decide +kernel
theorem dX11_voidSince_92 : decode cX11_voidSince 92 = .ok (.if_icmp .le 5, 3) := by decide +kernel
theorem dX11_voidSince_95 : decode cX11_voidSince 95 = .ok (.iload_n 2, 1) := by decide +kernel
theorem dX11_voidSince_96 : decode cX11_voidSince 96 = .ok (.ireturn, 1) := by decide +kernel
theorem dX11_voidSince_97 : decode cX11_voidSince 97 = .ok (.aload_n 3, 1) := by decide +kernel
theorem dX11_voidSince_98 : decode cX11_voidSince 98 = .ok (.iload_n 2, 1) := by decide +kernel
theorem dX11_voidSince_99 : decode cX11_voidSince 99 = .ok (.aload_n 3, 1) := by decide +kernel
theorem dX11_voidSince_100 : decode cX11_voidSince 100 = .ok (.getfield 224, 3) := by decide +kernel
theorem dX11_voidSince_103 : decode cX11_voidSince 103 = .ok (.iconst 4, 1) := by decide +kernel
theorem dX11_voidSince_104 : decode cX11_voidSince 104 = .ok (.if_icmp .ne 13, 3) := by decide +kernel
theorem dX11_voidSince_107 : decode cX11_voidSince 107 = .ok (.aload_n 0, 1) := by decide +kernel
theorem dX11_voidSince_108 : decode cX11_voidSince 108 = .ok (.getfield 10, 3) := by decide +kernel
theorem dX11_voidSince_111 : decode cX11_voidSince 111 = .ok (.getfield 107, 3) := by decide +kernel
theorem dX11_voidSince_114 : decode cX11_voidSince 114 = .ok (.goto 4, 3) := by decide +kernel
theorem dX11_voidSince_117 : decode cX11_voidSince 117 = .ok (.iload_n 2, 1) := by decide +kernel
theorem dX11_voidSince_118 : decode cX11_voidSince 118 = .ok (.invokevirtual 486, 3) := by decide +kernel
theorem dX11_voidSince_121 : decode cX11_voidSince 121 = .ok (.ireturn, 1) := by decide +kernel
theorem dX11_countHolding_0 : decode cX11_countHolding 0 = .ok (.iconst 0, 1) := by decide +kernel
theorem dX11_countHolding_1 : decode cX11_countHolding 1 = .ok (.istore_n 1, 1) := by decide +kernel
theorem dX11_countHolding_2 : decode cX11_countHolding 2 = .ok (.iconst 0, 1) := by decide +kernel
theorem dX11_countHolding_3 : decode cX11_countHolding 3 = .ok (.istore_n 2, 1) := by decide +kernel
theorem dX11_countHolding_4 : decode cX11_countHolding 4 = .ok (.iload_n 2, 1) := by decide +kernel
theorem dX11_countHolding_5 : decode cX11_countHolding 5 = .ok (.aload_n 0, 1) := by decide +kernel
theorem dX11_countHolding_6 : decode cX11_countHolding 6 = .ok (.getfield 50, 3) := by decide +kernel
theorem dX11_countHolding_9 : decode cX11_countHolding 9 = .ok (.getfield 303, 3) := by decide +kernel
theorem dX11_countHolding_12 : decode cX11_countHolding 12 = .ok (.if_icmp .ge 20, 3) := by decide +kernel
theorem dX11_countHolding_15 : decode cX11_countHolding 15 = .ok (.aload_n 0, 1) := by decide +kernel
theorem dX11_countHolding_16 : decode cX11_countHolding 16 = .ok (.iload_n 2, 1) := by decide +kernel
theorem dX11_countHolding_17 : decode cX11_countHolding 17 = .ok (.invokevirtual 324, 3) := by decide +kernel
theorem dX11_countHolding_20 : decode cX11_countHolding 20 = .ok (.ifCond .eq 6, 3) := by decide +kernel
theorem dX11_countHolding_23 : decode cX11_countHolding 23 = .ok (.iinc 1 1, 3) := by decide +kernel
theorem dX11_countHolding_26 : decode cX11_countHolding 26 = .ok (.iinc 2 1, 3) := by decide +kernel
theorem dX11_countHolding_29 : decode cX11_countHolding 29 = .ok (.goto (-25), 3) := by decide +kernel
theorem dX11_countHolding_32 : decode cX11_countHolding 32 = .ok (.iload_n 1, 1) := by decide +kernel
theorem dX11_countHolding_33 : decode cX11_countHolding 33 = .ok (.ireturn, 1) := by decide +kernel
theorem dX11_countVoid_0 : decode cX11_countVoid 0 = .ok (.iconst 0, 1) := by decide +kernel
theorem dX11_countVoid_1 : decode cX11_countVoid 1 = .ok (.istore_n 1, 1) := by decide +kernel
theorem dX11_countVoid_2 : decode cX11_countVoid 2 = .ok (.iconst 0, 1) := by decide +kernel
theorem dX11_countVoid_3 : decode cX11_countVoid 3 = .ok (.istore_n 2, 1) := by decide +kernel
theorem dX11_countVoid_4 : decode cX11_countVoid 4 = .ok (.iload_n 2, 1) := by decide +kernel
theorem dX11_countVoid_5 : decode cX11_countVoid 5 = .ok (.aload_n 0, 1) := by decide +kernel
theorem dX11_countVoid_6 : decode cX11_countVoid 6 = .ok (.getfield 57, 3) := by decide +kernel
theorem dX11_countVoid_9 : decode cX11_countVoid 9 = .ok (.getfield 354, 3) := by decide +kernel
theorem dX11_countVoid_12 : decode cX11_countVoid 12 = .ok (.if_icmp .ge 22, 3) := by decide +kernel
theorem dX11_countVoid_15 : decode cX11_countVoid 15 = .ok (.aload_n 0, 1) := by decide +kernel
theorem dX11_countVoid_16 : decode cX11_countVoid 16 = .ok (.iload_n 2, 1) := by decide +kernel
theorem dX11_countVoid_17 : decode cX11_countVoid 17 = .ok (.invokevirtual 361, 3) := by decide +kernel
theorem dX11_countVoid_20 : decode cX11_countVoid 20 = .ok (.bipush (-9), 2) := by decide +kernel
theorem dX11_countVoid_22 : decode cX11_countVoid 22 = .ok (.if_icmp .eq 6, 3) := by decide +kernel
theorem dX11_countVoid_25 : decode cX11_countVoid 25 = .ok (.iinc 1 1, 3) := by decide +kernel
theorem dX11_countVoid_28 : decode cX11_countVoid 28 = .ok (.iinc 2 1, 3) := by decide +kernel
theorem dX11_countVoid_31 : decode cX11_countVoid 31 = .ok (.goto (-27), 3) := by decide +kernel
theorem dX11_countVoid_34 : decode cX11_countVoid 34 = .ok (.iload_n 1, 1) := by decide +kernel
theorem dX11_countVoid_35 : decode cX11_countVoid 35 = .ok (.ireturn, 1) := by decide +kernel
theorem dJ6_bitCount_0f7a4_0 : decode cJ6_bitCount_0f7a4 0 = .ok (.iload_n 0, 1) := by decide +kernel
theorem dJ6_bitCount_0f7a4_1 : decode cJ6_bitCount_0f7a4 1 = .ok (.iload_n 0, 1) := by decide +kernel
theorem dJ6_bitCount_0f7a4_2 : decode cJ6_bitCount_0f7a4 2 = .ok (.iconst 1, 1) := by decide +kernel
theorem dJ6_bitCount_0f7a4_3 : decode cJ6_bitCount_0f7a4 3 = .ok (.iushr, 1) := by decide +kernel
theorem dJ6_bitCount_0f7a4_4 : decode cJ6_bitCount_0f7a4 4 = .ok (.ldc_w 265, 3) := by decide +kernel
theorem dJ6_bitCount_0f7a4_7 : decode cJ6_bitCount_0f7a4 7 = .ok (.iand, 1) := by decide +kernel
theorem dJ6_bitCount_0f7a4_8 : decode cJ6_bitCount_0f7a4 8 = .ok (.isub, 1) := by decide +kernel
theorem dJ6_bitCount_0f7a4_9 : decode cJ6_bitCount_0f7a4 9 = .ok (.istore_n 0, 1) := by decide +kernel
theorem dJ6_bitCount_0f7a4_10 : decode cJ6_bitCount_0f7a4 10 = .ok (.iload_n 0, 1) := by decide +kernel
theorem dJ6_bitCount_0f7a4_11 : decode cJ6_bitCount_0f7a4 11 = .ok (.ldc_w 266, 3) := by decide +kernel
theorem dJ6_bitCount_0f7a4_14 : decode cJ6_bitCount_0f7a4 14 = .ok (.iand, 1) := by decide +kernel
theorem dJ6_bitCount_0f7a4_15 : decode cJ6_bitCount_0f7a4 15 = .ok (.iload_n 0, 1) := by decide +kernel
theorem dJ6_bitCount_0f7a4_16 : decode cJ6_bitCount_0f7a4 16 = .ok (.iconst 2, 1) := by decide +kernel
theorem dJ6_bitCount_0f7a4_17 : decode cJ6_bitCount_0f7a4 17 = .ok (.iushr, 1) := by decide +kernel
theorem dJ6_bitCount_0f7a4_18 : decode cJ6_bitCount_0f7a4 18 = .ok (.ldc_w 266, 3) := by decide +kernel
theorem dJ6_bitCount_0f7a4_21 : decode cJ6_bitCount_0f7a4 21 = .ok (.iand, 1) := by decide +kernel
theorem dJ6_bitCount_0f7a4_22 : decode cJ6_bitCount_0f7a4 22 = .ok (.iadd, 1) := by decide +kernel
theorem dJ6_bitCount_0f7a4_23 : decode cJ6_bitCount_0f7a4 23 = .ok (.istore_n 0, 1) := by decide +kernel
theorem dJ6_bitCount_0f7a4_24 : decode cJ6_bitCount_0f7a4 24 = .ok (.iload_n 0, 1) := by decide +kernel
theorem dJ6_bitCount_0f7a4_25 : decode cJ6_bitCount_0f7a4 25 = .ok (.iload_n 0, 1) := by decide +kernel
theorem dJ6_bitCount_0f7a4_26 : decode cJ6_bitCount_0f7a4 26 = .ok (.iconst 4, 1) := by decide +kernel
theorem dJ6_bitCount_0f7a4_27 : decode cJ6_bitCount_0f7a4 27 = .ok (.iushr, 1) := by decide +kernel
theorem dJ6_bitCount_0f7a4_28 : decode cJ6_bitCount_0f7a4 28 = .ok (.iadd, 1) := by decide +kernel
theorem dJ6_bitCount_0f7a4_29 : decode cJ6_bitCount_0f7a4 29 = .ok (.ldc_w 267, 3) := by decide +kernel
theorem dJ6_bitCount_0f7a4_32 : decode cJ6_bitCount_0f7a4 32 = .ok (.iand, 1) := by decide +kernel
theorem dJ6_bitCount_0f7a4_33 : decode cJ6_bitCount_0f7a4 33 = .ok (.istore_n 0, 1) := by decide +kernel
theorem dJ6_bitCount_0f7a4_34 : decode cJ6_bitCount_0f7a4 34 = .ok (.iload_n 0, 1) := by decide +kernel
theorem dJ6_bitCount_0f7a4_35 : decode cJ6_bitCount_0f7a4 35 = .ok (.iload_n 0, 1) := by decide +kernel
theorem dJ6_bitCount_0f7a4_36 : decode cJ6_bitCount_0f7a4 36 = .ok (.bipush 8, 2) := by decide +kernel
theorem dJ6_bitCount_0f7a4_38 : decode cJ6_bitCount_0f7a4 38 = .ok (.iushr, 1) := by decide +kernel
theorem dJ6_bitCount_0f7a4_39 : decode cJ6_bitCount_0f7a4 39 = .ok (.iadd, 1) := by decide +kernel
theorem dJ6_bitCount_0f7a4_40 : decode cJ6_bitCount_0f7a4 40 = .ok (.istore_n 0, 1) := by decide +kernel
theorem dJ6_bitCount_0f7a4_41 : decode cJ6_bitCount_0f7a4 41 = .ok (.iload_n 0, 1) := by decide +kernel
theorem dJ6_bitCount_0f7a4_42 : decode cJ6_bitCount_0f7a4 42 = .ok (.iload_n 0, 1) := by decide +kernel
theorem dJ6_bitCount_0f7a4_43 : decode cJ6_bitCount_0f7a4 43 = .ok (.bipush 16, 2) := by decide +kernel
theorem dJ6_bitCount_0f7a4_45 : decode cJ6_bitCount_0f7a4 45 = .ok (.iushr, 1) := by decide +kernel
theorem dJ6_bitCount_0f7a4_46 : decode cJ6_bitCount_0f7a4 46 = .ok (.iadd, 1) := by decide +kernel
theorem dJ6_bitCount_0f7a4_47 : decode cJ6_bitCount_0f7a4 47 = .ok (.istore_n 0, 1) := by decide +kernel
theorem dJ6_bitCount_0f7a4_48 : decode cJ6_bitCount_0f7a4 48 = .ok (.iload_n 0, 1) := by decide +kernel
theorem dJ6_bitCount_0f7a4_49 : decode cJ6_bitCount_0f7a4 49 = .ok (.bipush 63, 2) := by decide +kernel
theorem dJ6_bitCount_0f7a4_51 : decode cJ6_bitCount_0f7a4 51 = .ok (.iand, 1) := by decide +kernel
theorem dJ6_bitCount_0f7a4_52 : decode cJ6_bitCount_0f7a4 52 = .ok (.ireturn, 1) := by decide +kernel
theorem dJ9_max_7cf53_0 : decode cJ9_max_7cf53 0 = .ok (.iload_n 0, 1) := by decide +kernel
theorem dJ9_max_7cf53_1 : decode cJ9_max_7cf53 1 = .ok (.iload_n 1, 1) := by decide +kernel
theorem dJ9_max_7cf53_2 : decode cJ9_max_7cf53 2 = .ok (.if_icmp .lt 7, 3) := by decide +kernel
theorem dJ9_max_7cf53_5 : decode cJ9_max_7cf53 5 = .ok (.iload_n 0, 1) := by decide +kernel
theorem dJ9_max_7cf53_6 : decode cJ9_max_7cf53 6 = .ok (.goto 4, 3) := by decide +kernel
theorem dJ9_max_7cf53_9 : decode cJ9_max_7cf53 9 = .ok (.iload_n 1, 1) := by decide +kernel
theorem dJ9_max_7cf53_10 : decode cJ9_max_7cf53 10 = .ok (.ireturn, 1) := by decide +kernel
theorem dJ9_min_7cf53_0 : decode cJ9_min_7cf53 0 = .ok (.iload_n 0, 1) := by decide +kernel
theorem dJ9_min_7cf53_1 : decode cJ9_min_7cf53 1 = .ok (.iload_n 1, 1) := by decide +kernel
theorem dJ9_min_7cf53_2 : decode cJ9_min_7cf53 2 = .ok (.if_icmp .gt 7, 3) := by decide +kernel
theorem dJ9_min_7cf53_5 : decode cJ9_min_7cf53 5 = .ok (.iload_n 0, 1) := by decide +kernel
theorem dJ9_min_7cf53_6 : decode cJ9_min_7cf53 6 = .ok (.goto 4, 3) := by decide +kernel
theorem dJ9_min_7cf53_9 : decode cJ9_min_7cf53 9 = .ok (.iload_n 1, 1) := by decide +kernel
theorem dJ9_min_7cf53_10 : decode cJ9_min_7cf53 10 = .ok (.ireturn, 1) := by decide +kernel
