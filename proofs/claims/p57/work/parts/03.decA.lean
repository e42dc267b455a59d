theorem dX0_init_0 : decode cX0_init 0 = .ok (.aload_n 0, 1) := by decide +kernel
theorem dX0_init_1 : decode cX0_init 1 = .ok (.invokespecial 3, 3) := by decide +kernel
theorem dX0_init_4 : decode cX0_init 4 = .ok (.aload_n 0, 1) := by decide +kernel
theorem dX0_init_5 : decode cX0_init 5 = .ok (.iconst 0, 1) := by decide +kernel
theorem dX0_init_6 : decode cX0_init 6 = .ok (.putfield 9, 3) := by decide +kernel
theorem dX0_init_9 : decode cX0_init 9 = .ok (.aload_n 0, 1) := by decide +kernel
theorem dX0_init_10 : decode cX0_init 10 = .ok (.bipush 25, 2) := by decide +kernel
theorem dX0_init_12 : decode cX0_init 12 = .ok (.bipush 60, 2) := by decide +kernel
theorem dX0_init_14 : decode cX0_init 14 = .ok (.multianewarray 15 2, 4) := by decide +kernel
theorem dX0_init_18 : decode cX0_init 18 = .ok (.putfield 17, 3) := by decide +kernel
theorem dX0_init_21 : decode cX0_init 21 = .ok (.aload_n 0, 1) := by decide +kernel
theorem dX0_init_22 : decode cX0_init 22 = .ok (.bipush 25, 2) := by decide +kernel
theorem dX0_init_24 : decode cX0_init 24 = .ok (.newarray .int, 2) := by decide +kernel
theorem dX0_init_26 : decode cX0_init 26 = .ok (.putfield 20, 3) := by decide +kernel
theorem dX0_init_29 : decode cX0_init 29 = .ok (.aload_n 0, 1) := by decide +kernel
theorem dX0_init_30 : decode cX0_init 30 = .ok (.bipush 24, 2) := by decide +kernel
theorem dX0_init_32 : decode cX0_init 32 = .ok (.newarray .int, 2) := by decide +kernel
theorem dX0_init_34 : decode cX0_init 34 = .ok (.putfield 24, 3) := by decide +kernel
theorem dX0_init_37 : decode cX0_init 37 = .ok (.aload_n 0, 1) := by decide +kernel
theorem dX0_init_38 : decode cX0_init 38 = .ok (.bipush 24, 2) := by decide +kernel
theorem dX0_init_40 : decode cX0_init 40 = .ok (.newarray .int, 2) := by decide +kernel
theorem dX0_init_42 : decode cX0_init 42 = .ok (.putfield 27, 3) := by decide +kernel
theorem dX0_init_45 : decode cX0_init 45 = .ok (.aload_n 0, 1) := by decide +kernel
theorem dX0_init_46 : decode cX0_init 46 = .ok (.new 30, 3) := by decide +kernel
theorem dX0_init_49 : decode cX0_init 49 = .ok (.dup, 1) := by decide +kernel
theorem dX0_init_50 : decode cX0_init 50 = .ok (.invokespecial 32, 3) := by decide +kernel
theorem dX0_init_53 : decode cX0_init 53 = .ok (.putfield 33, 3) := by decide +kernel
theorem dX0_init_56 : decode cX0_init 56 = .ok (.return_, 1) := by decide +kernel
theorem dX0_fed_0 : decode cX0_fed 0 = .ok (.aload_n 0, 1) := by decide +kernel
theorem dX0_fed_1 : decode cX0_fed 1 = .ok (.getfield 20, 3) := by decide +kernel
theorem dX0_fed_4 : decode cX0_fed 4 = .ok (.aload_n 0, 1) := by decide +kernel
theorem dX0_fed_5 : decode cX0_fed 5 = .ok (.getfield 9, 3) := by decide +kernel
theorem dX0_fed_8 : decode cX0_fed 8 = .ok (.iaload, 1) := by decide +kernel
theorem dX0_fed_9 : decode cX0_fed 9 = .ok (.ireturn, 1) := by decide +kernel
theorem dX0_feedText_0 : decode cX0_feedText 0 = .ok (.iconst 0, 1) := by decide +kernel
theorem dX0_feedText_1 : decode cX0_feedText 1 = .ok (.istore 4, 2) := by decide +kernel
theorem dX0_feedText_3 : decode cX0_feedText 3 = .ok (.iload 4, 2) := by decide +kernel
theorem dX0_feedText_5 : decode cX0_feedText 5 = .ok (.iload_n 1, 1) := by decide +kernel
theorem dX0_feedText_6 : decode cX0_feedText 6 = .ok (.if_icmp .ge 71, 3) := by decide +kernel
theorem dX0_feedText_9 : decode cX0_feedText 9 = .ok (.iload 4, 2) := by decide +kernel
theorem dX0_feedText_11 : decode cX0_feedText 11 = .ok (.bipush 8, 2) := by decide +kernel
theorem dX0_feedText_13 : decode cX0_feedText 13 = .ok (.if_icmp .ge 64, 3) := by decide +kernel
theorem dX0_feedText_16 : decode cX0_feedText 16 = .ok (.aload_n 0, 1) := by decide +kernel
theorem dX0_feedText_17 : decode cX0_feedText 17 = .ok (.getfield 20, 3) := by decide +kernel
theorem dX0_feedText_20 : decode cX0_feedText 20 = .ok (.aload_n 0, 1) := by decide +kernel
theorem dX0_feedText_21 : decode cX0_feedText 21 = .ok (.getfield 9, 3) := by decide +kernel
theorem dX0_feedText_24 : decode cX0_feedText 24 = .ok (.iaload, 1) := by decide +kernel
theorem dX0_feedText_25 : decode cX0_feedText 25 = .ok (.bipush 60, 2) := by decide +kernel
theorem dX0_feedText_27 : decode cX0_feedText 27 = .ok (.if_icmp .ge 50, 3) := by decide +kernel
theorem dX0_feedText_30 : decode cX0_feedText 30 = .ok (.aload_n 0, 1) := by decide +kernel
theorem dX0_feedText_31 : decode cX0_feedText 31 = .ok (.getfield 17, 3) := by decide +kernel
theorem dX0_feedText_34 : decode cX0_feedText 34 = .ok (.aload_n 0, 1) := by decide +kernel
theorem dX0_feedText_35 : decode cX0_feedText 35 = .ok (.getfield 9, 3) := by decide +kernel
theorem dX0_feedText_38 : decode cX0_feedText 38 = .ok (.aaload, 1) := by decide +kernel
theorem dX0_feedText_39 : decode cX0_feedText 39 = .ok (.aload_n 0, 1) := by decide +kernel
theorem dX0_feedText_40 : decode cX0_feedText 40 = .ok (.getfield 20, 3) := by decide +kernel
theorem dX0_feedText_43 : decode cX0_feedText 43 = .ok (.aload_n 0, 1) := by decide +kernel
theorem dX0_feedText_44 : decode cX0_feedText 44 = .ok (.getfield 9, 3) := by decide +kernel
theorem dX0_feedText_47 : decode cX0_feedText 47 = .ok (.iaload, 1) := by decide +kernel
theorem dX0_feedText_48 : decode cX0_feedText 48 = .ok (.lload_n 2, 1) := by decide +kernel
theorem dX0_feedText_49 : decode cX0_feedText 49 = .ok (.bipush 8, 2) := by decide +kernel
theorem dX0_feedText_51 : decode cX0_feedText 51 = .ok (.iload 4, 2) := by decide +kernel
theorem dX0_feedText_53 : decode cX0_feedText 53 = .ok (.imul, 1) := by decide +kernel
theorem dX0_feedText_54 : decode cX0_feedText 54 = .ok (.lshr, 1) := by decide +kernel
theorem dX0_feedText_55 : decode cX0_feedText 55 = .ok (.l2i, 1) := by decide +kernel
theorem dX0_feedText_56 : decode cX0_feedText 56 = .ok (.i2b, 1) := by decide +kernel
theorem dX0_feedText_57 : decode cX0_feedText 57 = .ok (.bastore, 1) := by decide +kernel
theorem dX0_feedText_58 : decode cX0_feedText 58 = .ok (.aload_n 0, 1) := by decide +kernel
theorem dX0_feedText_59 : decode cX0_feedText 59 = .ok (.getfield 20, 3) := by decide +kernel
theorem dX0_feedText_62 : decode cX0_feedText 62 = .ok (.aload_n 0, 1) := by decide +kernel
theorem dX0_feedText_63 : decode cX0_feedText 63 = .ok (.getfield 9, 3) := by decide +kernel
theorem dX0_feedText_66 : decode cX0_feedText 66 = .ok (.dup2, 1) := by decide +kernel
theorem dX0_feedText_67 : decode cX0_feedText 67 = .ok (.iaload, 1) := by decide +kernel
theorem dX0_feedText_68 : decode cX0_feedText 68 = .ok (.iconst 1, 1) := by decide +kernel
theorem dX0_feedText_69 : decode cX0_feedText 69 = .ok (.iadd, 1) := by decide +kernel
theorem dX0_feedText_70 : decode cX0_feedText 70 = .ok (.iastore, 1) := by decide +kernel
theorem dX0_feedText_71 : decode cX0_feedText 71 = .ok (.iinc 4 1, 3) := by decide +kernel
theorem dX0_feedText_74 : decode cX0_feedText 74 = .ok (.goto (-71), 3) := by decide +kernel
theorem dX0_feedText_77 : decode cX0_feedText 77 = .ok (.aload_n 0, 1) := by decide +kernel
theorem dX0_feedText_78 : decode cX0_feedText 78 = .ok (.getfield 20, 3) := by decide +kernel
theorem dX0_feedText_81 : decode cX0_feedText 81 = .ok (.aload_n 0, 1) := by decide +kernel
theorem dX0_feedText_82 : decode cX0_feedText 82 = .ok (.getfield 9, 3) := by decide +kernel
theorem dX0_feedText_85 : decode cX0_feedText 85 = .ok (.iaload, 1) := by decide +kernel
theorem dX0_feedText_86 : decode cX0_feedText 86 = .ok (.ireturn, 1) := by decide +kernel
theorem dX0_faultOfText_0 : decode cX0_faultOfText 0 = .ok (.aload_n 0, 1) := by decide +kernel
theorem dX0_faultOfText_1 : decode cX0_faultOfText 1 = .ok (.getfield 33, 3) := by decide +kernel
theorem dX0_faultOfText_4 : decode cX0_faultOfText 4 = .ok (.aload_n 0, 1) := by decide +kernel
theorem dX0_faultOfText_5 : decode cX0_faultOfText 5 = .ok (.getfield 17, 3) := by decide +kernel
theorem dX0_faultOfText_8 : decode cX0_faultOfText 8 = .ok (.aload_n 0, 1) := by decide +kernel
theorem dX0_faultOfText_9 : decode cX0_faultOfText 9 = .ok (.getfield 9, 3) := by decide +kernel
theorem dX0_faultOfText_12 : decode cX0_faultOfText 12 = .ok (.aaload, 1) := by decide +kernel
theorem dX0_faultOfText_13 : decode cX0_faultOfText 13 = .ok (.aload_n 0, 1) := by decide +kernel
theorem dX0_faultOfText_14 : decode cX0_faultOfText 14 = .ok (.getfield 20, 3) := by decide +kernel
theorem dX0_faultOfText_17 : decode cX0_faultOfText 17 = .ok (.aload_n 0, 1) := by decide +kernel
theorem dX0_faultOfText_18 : decode cX0_faultOfText 18 = .ok (.getfield 9, 3) := by decide +kernel
theorem dX0_faultOfText_21 : decode cX0_faultOfText 21 = .ok (.iaload, 1) := by decide +kernel
theorem dX0_faultOfText_22 : decode cX0_faultOfText 22 = .ok (.invokevirtual 37, 3) := by decide +kernel
theorem dX0_faultOfText_25 : decode cX0_faultOfText 25 = .ok (.ireturn, 1) := by decide +kernel
theorem dX0_dropText_0 : decode cX0_dropText 0 = .ok (.aload_n 0, 1) := by decide +kernel
theorem dX0_dropText_1 : decode cX0_dropText 1 = .ok (.getfield 20, 3) := by decide +kernel
theorem dX0_dropText_4 : decode cX0_dropText 4 = .ok (.aload_n 0, 1) := by decide +kernel
theorem dX0_dropText_5 : decode cX0_dropText 5 = .ok (.getfield 9, 3) := by decide +kernel
theorem dX0_dropText_8 : decode cX0_dropText 8 = .ok (.iconst 0, 1) := by decide +kernel
theorem dX0_dropText_9 : decode cX0_dropText 9 = .ok (.iastore, 1) := by decide +kernel
theorem dX0_dropText_10 : decode cX0_dropText 10 = .ok (.return_, 1) := by decide +kernel
theorem dX0_takeText_0 : decode cX0_takeText 0 = .ok (.aload_n 0, 1) := by decide +kernel
theorem dX0_takeText_1 : decode cX0_takeText 1 = .ok (.getfield 9, 3) := by decide +kernel
theorem dX0_takeText_4 : decode cX0_takeText 4 = .ok (.bipush 24, 2) := by decide +kernel
theorem dX0_takeText_6 : decode cX0_takeText 6 = .ok (.if_icmp .lt 6, 3) := by decide +kernel
theorem dX0_takeText_9 : decode cX0_takeText 9 = .ok (.bipush (-6), 2) := by decide +kernel
theorem dX0_takeText_11 : decode cX0_takeText 11 = .ok (.ireturn, 1) := by decide +kernel
theorem dX0_takeText_12 : decode cX0_takeText 12 = .ok (.aload_n 0, 1) := by decide +kernel
theorem dX0_takeText_13 : decode cX0_takeText 13 = .ok (.getfield 24, 3) := by decide +kernel
theorem dX0_takeText_16 : decode cX0_takeText 16 = .ok (.aload_n 0, 1) := by decide +kernel
theorem dX0_takeText_17 : decode cX0_takeText 17 = .ok (.getfield 9, 3) := by decide +kernel
theorem dX0_takeText_20 : decode cX0_takeText 20 = .ok (.iload_n 1, 1) := by decide +kernel
theorem dX0_takeText_21 : decode cX0_takeText 21 = .ok (.iastore, 1) := by decide +kernel
theorem dX0_takeText_22 : decode cX0_takeText 22 = .ok (.aload_n 0, 1) := by decide +kernel
theorem dX0_takeText_23 : decode cX0_takeText 23 = .ok (.getfield 27, 3) := by decide +kernel
theorem dX0_takeText_26 : decode cX0_takeText 26 = .ok (.aload_n 0, 1) := by decide +kernel
theorem dX0_takeText_27 : decode cX0_takeText 27 = .ok (.getfield 9, 3) := by decide +kernel
theorem dX0_takeText_30 : decode cX0_takeText 30 = .ok (.ldc 41, 2) := by decide +kernel
theorem dX0_takeText_32 : decode cX0_takeText 32 = .ok (.iastore, 1) := by decide +kernel
theorem dX0_takeText_33 : decode cX0_takeText 33 = .ok (.aload_n 0, 1) := by decide +kernel
theorem dX0_takeText_34 : decode cX0_takeText 34 = .ok (.dup, 1) := by decide +kernel
theorem dX0_takeText_35 : decode cX0_takeText 35 = .ok (.getfield 9, 3) := by decide +kernel
theorem dX0_takeText_38 : decode cX0_takeText 38 = .ok (.iconst 1, 1) := by decide +kernel
theorem dX0_takeText_39 : decode cX0_takeText 39 = .ok (.iadd, 1) := by decide +kernel
theorem dX0_takeText_40 : decode cX0_takeText 40 = .ok (.putfield 9, 3) := by decide +kernel
theorem dX0_takeText_43 : decode cX0_takeText 43 = .ok (.aload_n 0, 1) := by decide +kernel
theorem dX0_takeText_44 : decode cX0_takeText 44 = .ok (.getfield 20, 3) := by decide +kernel
theorem dX0_takeText_47 : decode cX0_takeText 47 = .ok (.aload_n 0, 1) := by decide +kernel
theorem dX0_takeText_48 : decode cX0_takeText 48 = .ok (.getfield 9, 3) := by decide +kernel
theorem dX0_takeText_51 : decode cX0_takeText 51 = .ok (.iconst 0, 1) := by decide +kernel
theorem dX0_takeText_52 : decode cX0_takeText 52 = .ok (.iastore, 1) := by decide +kernel
theorem dX0_takeText_53 : decode cX0_takeText 53 = .ok (.aload_n 0, 1) := by decide +kernel
theorem dX0_takeText_54 : decode cX0_takeText 54 = .ok (.getfield 9, 3) := by decide +kernel
theorem dX0_takeText_57 : decode cX0_takeText 57 = .ok (.iconst 1, 1) := by decide +kernel
theorem dX0_takeText_58 : decode cX0_takeText 58 = .ok (.isub, 1) := by decide +kernel
theorem dX0_takeText_59 : decode cX0_takeText 59 = .ok (.ireturn, 1) := by decide +kernel
theorem dX0_kindOf_0 : decode cX0_kindOf 0 = .ok (.iload_n 1, 1) := by decide +kernel
theorem dX0_kindOf_1 : decode cX0_kindOf 1 = .ok (.ifCond .lt 11, 3) := by decide +kernel
theorem dX0_kindOf_4 : decode cX0_kindOf 4 = .ok (.iload_n 1, 1) := by decide +kernel
theorem dX0_kindOf_5 : decode cX0_kindOf 5 = .ok (.aload_n 0, 1) := by decide +kernel
theorem dX0_kindOf_6 : decode cX0_kindOf 6 = .ok (.getfield 9, 3) := by decide +kernel
theorem dX0_kindOf_9 : decode cX0_kindOf 9 = .ok (.if_icmp .lt 7, 3) := by decide +kernel
theorem dX0_kindOf_12 : decode cX0_kindOf 12 = .ok (.iconst 0, 1) := by decide +kernel
theorem dX0_kindOf_13 : decode cX0_kindOf 13 = .ok (.goto 14, 3) := by decide +kernel
theorem dX0_kindOf_16 : decode cX0_kindOf 16 = .ok (.aload_n 0, 1) := by decide +kernel
theorem dX0_kindOf_17 : decode cX0_kindOf 17 = .ok (.getfield 17, 3) := by decide +kernel
theorem dX0_kindOf_20 : decode cX0_kindOf 20 = .ok (.iload_n 1, 1) := by decide +kernel
theorem dX0_kindOf_21 : decode cX0_kindOf 21 = .ok (.aaload, 1) := by decide +kernel
theorem dX0_kindOf_22 : decode cX0_kindOf 22 = .ok (.iconst 1, 1) := by decide +kernel
theorem dX0_kindOf_23 : decode cX0_kindOf 23 = .ok (.baload, 1) := by decide +kernel
theorem dX0_kindOf_24 : decode cX0_kindOf 24 = .ok (.bipush 48, 2) := by decide +kernel
theorem dX0_kindOf_26 : decode cX0_kindOf 26 = .ok (.isub, 1) := by decide +kernel
theorem dX0_kindOf_27 : decode cX0_kindOf 27 = .ok (.ireturn, 1) := by decide +kernel
theorem dX0_bearingOn_0 : decode cX0_bearingOn 0 = .ok (.iconst 0, 1) := by decide +kernel
theorem dX0_bearingOn_1 : decode cX0_bearingOn 1 = .ok (.istore_n 3, 1) := by decide +kernel
theorem dX0_bearingOn_2 : decode cX0_bearingOn 2 = .ok (.iconst 0, 1) := by decide +kernel
theorem dX0_bearingOn_3 : decode cX0_bearingOn 3 = .ok (.istore 4, 2) := by decide +kernel
theorem dX0_bearingOn_5 : decode cX0_bearingOn 5 = .ok (.iload 4, 2) := by decide +kernel
theorem dX0_bearingOn_7 : decode cX0_bearingOn 7 = .ok (.aload_n 0, 1) := by decide +kernel
theorem dX0_bearingOn_8 : decode cX0_bearingOn 8 = .ok (.getfield 9, 3) := by decide +kernel
theorem dX0_bearingOn_11 : decode cX0_bearingOn 11 = .ok (.if_icmp .ge 78, 3) := by decide +kernel
theorem dX0_bearingOn_14 : decode cX0_bearingOn 14 = .ok (.aload_n 0, 1) := by decide +kernel
theorem dX0_bearingOn_15 : decode cX0_bearingOn 15 = .ok (.getfield 17, 3) := by decide +kernel
theorem dX0_bearingOn_18 : decode cX0_bearingOn 18 = .ok (.iload 4, 2) := by decide +kernel
theorem dX0_bearingOn_20 : decode cX0_bearingOn 20 = .ok (.aaload, 1) := by decide +kernel
theorem dX0_bearingOn_21 : decode cX0_bearingOn 21 = .ok (.iconst 0, 1) := by decide +kernel
theorem dX0_bearingOn_22 : decode cX0_bearingOn 22 = .ok (.baload, 1) := by decide +kernel
theorem dX0_bearingOn_23 : decode cX0_bearingOn 23 = .ok (.bipush 65, 2) := by decide +kernel
theorem dX0_bearingOn_25 : decode cX0_bearingOn 25 = .ok (.isub, 1) := by decide +kernel
theorem dX0_bearingOn_26 : decode cX0_bearingOn 26 = .ok (.iload_n 1, 1) := by decide +kernel
theorem dX0_bearingOn_27 : decode cX0_bearingOn 27 = .ok (.if_icmp .ne 56, 3) := by decide +kernel
theorem dX0_bearingOn_30 : decode cX0_bearingOn 30 = .ok (.aload_n 0, 1) := by decide +kernel
theorem dX0_bearingOn_31 : decode cX0_bearingOn 31 = .ok (.getfield 24, 3) := by decide +kernel
theorem dX0_bearingOn_34 : decode cX0_bearingOn 34 = .ok (.iload 4, 2) := by decide +kernel
theorem dX0_bearingOn_36 : decode cX0_bearingOn 36 = .ok (.iaload, 1) := by decide +kernel
theorem dX0_bearingOn_37 : decode cX0_bearingOn 37 = .ok (.iload_n 2, 1) := by decide +kernel
theorem dX0_bearingOn_38 : decode cX0_bearingOn 38 = .ok (.if_icmp .gt 45, 3) := by decide +kernel
theorem dX0_bearingOn_41 : decode cX0_bearingOn 41 = .ok (.iload_n 2, 1) := by decide +kernel
theorem dX0_bearingOn_42 : decode cX0_bearingOn 42 = .ok (.aload_n 0, 1) := by decide +kernel
theorem dX0_bearingOn_43 : decode cX0_bearingOn 43 = .ok (.getfield 27, 3) := by decide +kernel
theorem dX0_bearingOn_46 : decode cX0_bearingOn 46 = .ok (.iload 4, 2) := by decide +kernel
theorem dX0_bearingOn_48 : decode cX0_bearingOn 48 = .ok (.iaload, 1) := by decide +kernel
theorem dX0_bearingOn_49 : decode cX0_bearingOn 49 = .ok (.if_icmp .ge 34, 3) := by decide +kernel
theorem dX0_bearingOn_52 : decode cX0_bearingOn 52 = .ok (.aload_n 0, 1) := by decide +kernel
theorem dX0_bearingOn_53 : decode cX0_bearingOn 53 = .ok (.getfield 33, 3) := by decide +kernel
theorem dX0_bearingOn_56 : decode cX0_bearingOn 56 = .ok (.aload_n 0, 1) := by decide +kernel
theorem dX0_bearingOn_57 : decode cX0_bearingOn 57 = .ok (.getfield 17, 3) := by decide +kernel
theorem dX0_bearingOn_60 : decode cX0_bearingOn 60 = .ok (.iload 4, 2) := by decide +kernel
theorem dX0_bearingOn_62 : decode cX0_bearingOn 62 = .ok (.aaload, 1) := by decide +kernel
theorem dX0_bearingOn_63 : decode cX0_bearingOn 63 = .ok (.aload_n 0, 1) := by decide +kernel
theorem dX0_bearingOn_64 : decode cX0_bearingOn 64 = .ok (.getfield 20, 3) := by decide +kernel
theorem dX0_bearingOn_67 : decode cX0_bearingOn 67 = .ok (.iload 4, 2) := by decide +kernel
theorem dX0_bearingOn_69 : decode cX0_bearingOn 69 = .ok (.iaload, 1) := by decide +kernel
theorem dX0_bearingOn_70 : decode cX0_bearingOn 70 = .ok (.invokevirtual 42, 3) := by decide +kernel
theorem dX0_bearingOn_73 : decode cX0_bearingOn 73 = .ok (.ifCond .eq 10, 3) := by decide +kernel
theorem dX0_bearingOn_76 : decode cX0_bearingOn 76 = .ok (.iload_n 3, 1) := by decide +kernel
theorem dX0_bearingOn_77 : decode cX0_bearingOn 77 = .ok (.iconst 1, 1) := by decide +kernel
theorem dX0_bearingOn_78 : decode cX0_bearingOn 78 = .ok (.iload 4, 2) := by decide +kernel
theorem dX0_bearingOn_80 : decode cX0_bearingOn 80 = .ok (.ishl, 1) := by decide +kernel
theorem dX0_bearingOn_81 : decode cX0_bearingOn 81 = .ok (.ior, 1) := by decide +kernel
theorem dX0_bearingOn_82 : decode cX0_bearingOn 82 = .ok (.istore_n 3, 1) := by decide +kernel
theorem dX0_bearingOn_83 : decode cX0_bearingOn 83 = .ok (.iinc 4 1, 3) := by decide +kernel
theorem dX0_bearingOn_86 : decode cX0_bearingOn 86 = .ok (.goto (-81), 3) := by decide +kernel
theorem dX0_bearingOn_89 : decode cX0_bearingOn 89 = .ok (.iload_n 3, 1) := by decide +kernel
theorem dX0_bearingOn_90 : decode cX0_bearingOn 90 = .ok (.ireturn, 1) := by decide +kernel
theorem dX0_giverAmong_0 : decode cX0_giverAmong 0 = .ok (.bipush (-9), 2) := by decide +kernel
theorem dX0_giverAmong_2 : decode cX0_giverAmong 2 = .ok (.istore_n 2, 1) := by decide +kernel
theorem dX0_giverAmong_3 : decode cX0_giverAmong 3 = .ok (.iconst 0, 1) := by decide +kernel
theorem dX0_giverAmong_4 : decode cX0_giverAmong 4 = .ok (.istore_n 3, 1) := by decide +kernel
theorem dX0_giverAmong_5 : decode cX0_giverAmong 5 = .ok (.iload_n 3, 1) := by decide +kernel
theorem dX0_giverAmong_6 : decode cX0_giverAmong 6 = .ok (.aload_n 0, 1) := by decide +kernel
theorem dX0_giverAmong_7 : decode cX0_giverAmong 7 = .ok (.getfield 9, 3) := by decide +kernel
theorem dX0_giverAmong_10 : decode cX0_giverAmong 10 = .ok (.if_icmp .ge 41, 3) := by decide +kernel
theorem dX0_giverAmong_13 : decode cX0_giverAmong 13 = .ok (.iload_n 1, 1) := by decide +kernel
theorem dX0_giverAmong_14 : decode cX0_giverAmong 14 = .ok (.iload_n 3, 1) := by decide +kernel
theorem dX0_giverAmong_15 : decode cX0_giverAmong 15 = .ok (.ishr, 1) := by decide +kernel
theorem dX0_giverAmong_16 : decode cX0_giverAmong 16 = .ok (.iconst 1, 1) := by decide +kernel
theorem dX0_giverAmong_17 : decode cX0_giverAmong 17 = .ok (.iand, 1) := by decide +kernel
theorem dX0_giverAmong_18 : decode cX0_giverAmong 18 = .ok (.iconst 1, 1) := by decide +kernel
theorem dX0_giverAmong_19 : decode cX0_giverAmong 19 = .ok (.if_icmp .ne 26, 3) := by decide +kernel
theorem dX0_giverAmong_22 : decode cX0_giverAmong 22 = .ok (.iload_n 2, 1) := by decide +kernel
theorem dX0_giverAmong_23 : decode cX0_giverAmong 23 = .ok (.bipush (-9), 2) := by decide +kernel
theorem dX0_giverAmong_25 : decode cX0_giverAmong 25 = .ok (.if_icmp .eq 18, 3) := by decide +kernel
theorem dX0_giverAmong_28 : decode cX0_giverAmong 28 = .ok (.aload_n 0, 1) := by decide +kernel
theorem dX0_giverAmong_29 : decode cX0_giverAmong 29 = .ok (.getfield 24, 3) := by decide +kernel
theorem dX0_giverAmong_32 : decode cX0_giverAmong 32 = .ok (.iload_n 3, 1) := by decide +kernel
theorem dX0_giverAmong_33 : decode cX0_giverAmong 33 = .ok (.iaload, 1) := by decide +kernel
theorem dX0_giverAmong_34 : decode cX0_giverAmong 34 = .ok (.aload_n 0, 1) := by decide +kernel
theorem dX0_giverAmong_35 : decode cX0_giverAmong 35 = .ok (.getfield 24, 3) := by decide +kernel
theorem dX0_giverAmong_38 : decode cX0_giverAmong 38 = .ok (.iload_n 2, 1) := by decide +kernel
theorem dX0_giverAmong_39 : decode cX0_giverAmong 39 = .ok (.iaload, 1) := by decide +kernel
theorem dX0_giverAmong_40 : decode cX0_giverAmong 40 = .ok (.if_icmp .lt 5, 3) := by decide +kernel
theorem dX0_giverAmong_43 : decode cX0_giverAmong 43 = .ok (.iload_n 3, 1) := by decide +kernel
theorem dX0_giverAmong_44 : decode cX0_giverAmong 44 = .ok (.istore_n 2, 1) := by decide +kernel
theorem dX0_giverAmong_45 : decode cX0_giverAmong 45 = .ok (.iinc 3 1, 3) := by decide +kernel
theorem dX0_giverAmong_48 : decode cX0_giverAmong 48 = .ok (.goto (-43), 3) := by decide +kernel
theorem dX0_giverAmong_51 : decode cX0_giverAmong 51 = .ok (.iload_n 2, 1) := by decide +kernel
theorem dX0_giverAmong_52 : decode cX0_giverAmong 52 = .ok (.ireturn, 1) := by decide +kernel
theorem dX1_init_0 : decode cX1_init 0 = .ok (.aload_n 0, 1) := by decide +kernel
theorem dX1_init_1 : decode cX1_init 1 = .ok (.invokespecial 3, 3) := by decide +kernel
theorem dX1_init_4 : decode cX1_init 4 = .ok (.aload_n 0, 1) := by decide +kernel
theorem dX1_init_5 : decode cX1_init 5 = .ok (.iconst 0, 1) := by decide +kernel
theorem dX1_init_6 : decode cX1_init 6 = .ok (.putfield 9, 3) := by decide +kernel
theorem dX1_init_9 : decode cX1_init 9 = .ok (.aload_n 0, 1) := by decide +kernel
theorem dX1_init_10 : decode cX1_init 10 = .ok (.bipush 30, 2) := by decide +kernel
theorem dX1_init_12 : decode cX1_init 12 = .ok (.newarray .int, 2) := by decide +kernel
theorem dX1_init_14 : decode cX1_init 14 = .ok (.putfield 15, 3) := by decide +kernel
theorem dX1_init_17 : decode cX1_init 17 = .ok (.aload_n 0, 1) := by decide +kernel
theorem dX1_init_18 : decode cX1_init 18 = .ok (.bipush 30, 2) := by decide +kernel
theorem dX1_init_20 : decode cX1_init 20 = .ok (.newarray .int, 2) := by decide +kernel
theorem dX1_init_22 : decode cX1_init 22 = .ok (.putfield 19, 3) := by decide +kernel
theorem dX1_init_25 : decode cX1_init 25 = .ok (.aload_n 0, 1) := by decide +kernel
theorem dX1_init_26 : decode cX1_init 26 = .ok (.bipush 30, 2) := by decide +kernel
theorem dX1_init_28 : decode cX1_init 28 = .ok (.newarray .int, 2) := by decide +kernel
theorem dX1_init_30 : decode cX1_init 30 = .ok (.putfield 22, 3) := by decide +kernel
theorem dX1_init_33 : decode cX1_init 33 = .ok (.aload_n 0, 1) := by decide +kernel
theorem dX1_init_34 : decode cX1_init 34 = .ok (.bipush 30, 2) := by decide +kernel
theorem dX1_init_36 : decode cX1_init 36 = .ok (.newarray .int, 2) := by decide +kernel
theorem dX1_init_38 : decode cX1_init 38 = .ok (.putfield 25, 3) := by decide +kernel
theorem dX1_init_41 : decode cX1_init 41 = .ok (.aload_n 0, 1) := by decide +kernel
theorem dX1_init_42 : decode cX1_init 42 = .ok (.bipush 30, 2) := by decide +kernel
theorem dX1_init_44 : decode cX1_init 44 = .ok (.newarray .int, 2) := by decide +kernel
theorem dX1_init_46 : decode cX1_init 46 = .ok (.putfield 28, 3) := by decide +kernel
theorem dX1_init_49 : decode cX1_init 49 = .ok (.aload_n 0, 1) := by decide +kernel
theorem dX1_init_50 : decode cX1_init 50 = .ok (.bipush 30, 2) := by decide +kernel
theorem dX1_init_52 : decode cX1_init 52 = .ok (.newarray .boolean, 2) := by decide +kernel
theorem dX1_init_54 : decode cX1_init 54 = .ok (.putfield 31, 3) := by decide +kernel
theorem dX1_init_57 : decode cX1_init 57 = .ok (.aload_n 0, 1) := by decide +kernel
theorem dX1_init_58 : decode cX1_init 58 = .ok (.bipush 8, 2) := by decide +kernel
theorem dX1_init_60 : decode cX1_init 60 = .ok (.newarray .int, 2) := by decide +kernel
theorem dX1_init_62 : decode cX1_init 62 = .ok (.dup, 1) := by decide +kernel
theorem dX1_init_63 : decode cX1_init 63 = .ok (.iconst 0, 1) := by decide +kernel
theorem dX1_init_64 : decode cX1_init 64 = .ok (.iconst (-1), 1) := by decide +kernel
theorem dX1_init_65 : decode cX1_init 65 = .ok (.iastore, 1) := by decide +kernel
theorem dX1_init_66 : decode cX1_init 66 = .ok (.dup, 1) := by decide +kernel
theorem dX1_init_67 : decode cX1_init 67 = .ok (.iconst 1, 1) := by decide +kernel
theorem dX1_init_68 : decode cX1_init 68 = .ok (.iconst (-1), 1) := by decide +kernel
theorem dX1_init_69 : decode cX1_init 69 = .ok (.iastore, 1) := by decide +kernel
theorem dX1_init_70 : decode cX1_init 70 = .ok (.dup, 1) := by decide +kernel
theorem dX1_init_71 : decode cX1_init 71 = .ok (.iconst 2, 1) := by decide +kernel
theorem dX1_init_72 : decode cX1_init 72 = .ok (.iconst (-1), 1) := by decide +kernel
theorem dX1_init_73 : decode cX1_init 73 = .ok (.iastore, 1) := by decide +kernel
theorem dX1_init_74 : decode cX1_init 74 = .ok (.dup, 1) := by decide +kernel
theorem dX1_init_75 : decode cX1_init 75 = .ok (.iconst 3, 1) := by decide +kernel
theorem dX1_init_76 : decode cX1_init 76 = .ok (.iconst (-1), 1) := by decide +kernel
theorem dX1_init_77 : decode cX1_init 77 = .ok (.iastore, 1) := by decide +kernel
theorem dX1_init_78 : decode cX1_init 78 = .ok (.dup, 1) := by decide +kernel
theorem dX1_init_79 : decode cX1_init 79 = .ok (.iconst 4, 1) := by decide +kernel
theorem dX1_init_80 : decode cX1_init 80 = .ok (.iconst (-1), 1) := by decide +kernel
theorem dX1_init_81 : decode cX1_init 81 = .ok (.iastore, 1) := by decide +kernel
theorem dX1_init_82 : decode cX1_init 82 = .ok (.dup, 1) := by decide +kernel
theorem dX1_init_83 : decode cX1_init 83 = .ok (.iconst 5, 1) := by decide +kernel
theorem dX1_init_84 : decode cX1_init 84 = .ok (.iconst (-1), 1) := by decide +kernel
theorem dX1_init_85 : decode cX1_init 85 = .ok (.iastore, 1) := by decide +kernel
theorem dX1_init_86 : decode cX1_init 86 = .ok (.dup, 1) := by decide +kernel
theorem dX1_init_87 : decode cX1_init 87 = .ok (.bipush 6, 2) := by decide +kernel
theorem dX1_init_89 : decode cX1_init 89 = .ok (.iconst (-1), 1) := by decide +kernel
theorem dX1_init_90 : decode cX1_init 90 = .ok (.iastore, 1) := by decide +kernel
theorem dX1_init_91 : decode cX1_init 91 = .ok (.dup, 1) := by decide +kernel
theorem dX1_init_92 : decode cX1_init 92 = .ok (.bipush 7, 2) := by decide +kernel
theorem dX1_init_94 : decode cX1_init 94 = .ok (.iconst (-1), 1) := by decide +kernel
theorem dX1_init_95 : decode cX1_init 95 = .ok (.iastore, 1) := by decide +kernel
theorem dX1_init_96 : decode cX1_init 96 = .ok (.putfield 35, 3) := by decide +kernel
theorem dX1_init_99 : decode cX1_init 99 = .ok (.aload_n 0, 1) := by decide +kernel
theorem dX1_init_100 : decode cX1_init 100 = .ok (.bipush 8, 2) := by decide +kernel
theorem dX1_init_102 : decode cX1_init 102 = .ok (.newarray .int, 2) := by decide +kernel
theorem dX1_init_104 : decode cX1_init 104 = .ok (.putfield 38, 3) := by decide +kernel
theorem dX1_init_107 : decode cX1_init 107 = .ok (.aload_n 0, 1) := by decide +kernel
theorem dX1_init_108 : decode cX1_init 108 = .ok (.bipush 8, 2) := by decide +kernel
theorem dX1_init_110 : decode cX1_init 110 = .ok (.newarray .boolean, 2) := by decide +kernel
theorem dX1_init_112 : decode cX1_init 112 = .ok (.putfield 41, 3) := by decide +kernel
theorem dX1_init_115 : decode cX1_init 115 = .ok (.return_, 1) := by decide +kernel
theorem dX2_init_0 : decode cX2_init 0 = .ok (.aload_n 0, 1) := by decide +kernel
theorem dX2_init_1 : decode cX2_init 1 = .ok (.invokespecial 3, 3) := by decide +kernel
theorem dX2_init_4 : decode cX2_init 4 = .ok (.aload_n 0, 1) := by decide +kernel
theorem dX2_init_5 : decode cX2_init 5 = .ok (.bipush 6, 2) := by decide +kernel
theorem dX2_init_7 : decode cX2_init 7 = .ok (.newarray .int, 2) := by decide +kernel
theorem dX2_init_9 : decode cX2_init 9 = .ok (.putfield 9, 3) := by decide +kernel
theorem dX2_init_12 : decode cX2_init 12 = .ok (.aload_n 0, 1) := by decide +kernel
theorem dX2_init_13 : decode cX2_init 13 = .ok (.iconst 0, 1) := by decide +kernel
theorem dX2_init_14 : decode cX2_init 14 = .ok (.putfield 15, 3) := by decide +kernel
theorem dX2_init_17 : decode cX2_init 17 = .ok (.aload_n 0, 1) := by decide +kernel
theorem dX2_init_18 : decode cX2_init 18 = .ok (.bipush 9, 2) := by decide +kernel
theorem dX2_init_20 : decode cX2_init 20 = .ok (.newarray .int, 2) := by decide +kernel
theorem dX2_init_22 : decode cX2_init 22 = .ok (.putfield 19, 3) := by decide +kernel
theorem dX2_init_25 : decode cX2_init 25 = .ok (.aload_n 0, 1) := by decide +kernel
theorem dX2_init_26 : decode cX2_init 26 = .ok (.bipush 9, 2) := by decide +kernel
theorem dX2_init_28 : decode cX2_init 28 = .ok (.newarray .int, 2) := by decide +kernel
theorem dX2_init_30 : decode cX2_init 30 = .ok (.putfield 22, 3) := by decide +kernel
theorem dX2_init_33 : decode cX2_init 33 = .ok (.aload_n 0, 1) := by decide +kernel
theorem dX2_init_34 : decode cX2_init 34 = .ok (.bipush 6, 2) := by decide +kernel
theorem dX2_init_36 : decode cX2_init 36 = .ok (.newarray .int, 2) := by decide +kernel
theorem dX2_init_38 : decode cX2_init 38 = .ok (.putfield 25, 3) := by decide +kernel
theorem dX2_init_41 : decode cX2_init 41 = .ok (.aload_n 0, 1) := by decide +kernel
theorem dX2_init_42 : decode cX2_init 42 = .ok (.iconst 0, 1) := by decide +kernel
theorem dX2_init_43 : decode cX2_init 43 = .ok (.putfield 28, 3) := by decide +kernel
theorem dX2_init_46 : decode cX2_init 46 = .ok (.aload_n 0, 1) := by decide +kernel
theorem dX2_init_47 : decode cX2_init 47 = .ok (.bipush 30, 2) := by decide +kernel
theorem dX2_init_49 : decode cX2_init 49 = .ok (.newarray .int, 2) := by decide +kernel
theorem dX2_init_51 : decode cX2_init 51 = .ok (.putfield 31, 3) := by decide +kernel
theorem dX2_init_54 : decode cX2_init 54 = .ok (.aload_n 0, 1) := by decide +kernel
theorem dX2_init_55 : decode cX2_init 55 = .ok (.bipush 30, 2) := by decide +kernel
theorem dX2_init_57 : decode cX2_init 57 = .ok (.newarray .int, 2) := by decide +kernel
theorem dX2_init_59 : decode cX2_init 59 = .ok (.putfield 34, 3) := by decide +kernel
theorem dX2_init_62 : decode cX2_init 62 = .ok (.aload_n 0, 1) := by decide +kernel
theorem dX2_init_63 : decode cX2_init 63 = .ok (.bipush 30, 2) := by decide +kernel
theorem dX2_init_65 : decode cX2_init 65 = .ok (.newarray .boolean, 2) := by decide +kernel
theorem dX2_init_67 : decode cX2_init 67 = .ok (.putfield 37, 3) := by decide +kernel
theorem dX2_init_70 : decode cX2_init 70 = .ok (.aload_n 0, 1) := by decide +kernel
theorem dX2_init_71 : decode cX2_init 71 = .ok (.bipush 30, 2) := by decide +kernel
theorem dX2_init_73 : decode cX2_init 73 = .ok (.newarray .int, 2) := by decide +kernel
theorem dX2_init_75 : decode cX2_init 75 = .ok (.putfield 41, 3) := by decide +kernel
theorem dX2_init_78 : decode cX2_init 78 = .ok (.aload_n 0, 1) := by decide +kernel
theorem dX2_init_79 : decode cX2_init 79 = .ok (.bipush 30, 2) := by decide +kernel
theorem dX2_init_81 : decode cX2_init 81 = .ok (.newarray .int, 2) := by decide +kernel
theorem dX2_init_83 : decode cX2_init 83 = .ok (.putfield 44, 3) := by decide +kernel
theorem dX2_init_86 : decode cX2_init 86 = .ok (.return_, 1) := by decide +kernel
theorem dX2_fillSeats_0 : decode cX2_fillSeats 0 = .ok (.aload_n 0, 1) := by decide +kernel
theorem dX2_fillSeats_1 : decode cX2_fillSeats 1 = .ok (.iconst 0, 1) := by decide +kernel
theorem dX2_fillSeats_2 : decode cX2_fillSeats 2 = .ok (.putfield 15, 3) := by decide +kernel
theorem dX2_fillSeats_5 : decode cX2_fillSeats 5 = .ok (.iconst 0, 1) := by decide +kernel
theorem dX2_fillSeats_6 : decode cX2_fillSeats 6 = .ok (.istore_n 2, 1) := by decide +kernel
theorem dX2_fillSeats_7 : decode cX2_fillSeats 7 = .ok (.iload_n 2, 1) := by decide +kernel
theorem dX2_fillSeats_8 : decode cX2_fillSeats 8 = .ok (.bipush 6, 2) := by decide +kernel
theorem dX2_fillSeats_10 : decode cX2_fillSeats 10 = .ok (.if_icmp .ge 16, 3) := by decide +kernel
theorem dX2_fillSeats_13 : decode cX2_fillSeats 13 = .ok (.aload_n 0, 1) := by decide +kernel
theorem dX2_fillSeats_14 : decode cX2_fillSeats 14 = .ok (.getfield 25, 3) := by decide +kernel
theorem dX2_fillSeats_17 : decode cX2_fillSeats 17 = .ok (.iload_n 2, 1) := by decide +kernel
theorem dX2_fillSeats_18 : decode cX2_fillSeats 18 = .ok (.iconst 0, 1) := by decide +kernel
theorem dX2_fillSeats_19 : decode cX2_fillSeats 19 = .ok (.iastore, 1) := by decide +kernel
theorem dX2_fillSeats_20 : decode cX2_fillSeats 20 = .ok (.iinc 2 1, 3) := by decide +kernel
theorem dX2_fillSeats_23 : decode cX2_fillSeats 23 = .ok (.goto (-16), 3) := by decide +kernel
theorem dX2_fillSeats_26 : decode cX2_fillSeats 26 = .ok (.iconst 0, 1) := by decide +kernel
theorem dX2_fillSeats_27 : decode cX2_fillSeats 27 = .ok (.istore_n 2, 1) := by decide +kernel
theorem dX2_fillSeats_28 : decode cX2_fillSeats 28 = .ok (.iload_n 2, 1) := by decide +kernel
theorem dX2_fillSeats_29 : decode cX2_fillSeats 29 = .ok (.iload_n 1, 1) := by decide +kernel
theorem dX2_fillSeats_30 : decode cX2_fillSeats 30 = .ok (.if_icmp .ge 61, 3) := by decide +kernel
theorem dX2_fillSeats_33 : decode cX2_fillSeats 33 = .ok (.iload_n 2, 1) := by decide +kernel
theorem dX2_fillSeats_34 : decode cX2_fillSeats 34 = .ok (.bipush 9, 2) := by decide +kernel
theorem dX2_fillSeats_36 : decode cX2_fillSeats 36 = .ok (.if_icmp .ge 55, 3) := by decide +kernel
theorem dX2_fillSeats_39 : decode cX2_fillSeats 39 = .ok (.aload_n 0, 1) := by decide +kernel
theorem dX2_fillSeats_40 : decode cX2_fillSeats 40 = .ok (.invokevirtual 47, 3) := by decide +kernel
theorem dX2_fillSeats_43 : decode cX2_fillSeats 43 = .ok (.istore_n 3, 1) := by decide +kernel
theorem dX2_fillSeats_44 : decode cX2_fillSeats 44 = .ok (.iload_n 3, 1) := by decide +kernel
theorem dX2_fillSeats_45 : decode cX2_fillSeats 45 = .ok (.ifCond .ge 8, 3) := by decide +kernel
theorem dX2_fillSeats_48 : decode cX2_fillSeats 48 = .ok (.aload_n 0, 1) := by decide +kernel
theorem dX2_fillSeats_49 : decode cX2_fillSeats 49 = .ok (.getfield 15, 3) := by decide +kernel
theorem dX2_fillSeats_52 : decode cX2_fillSeats 52 = .ok (.ireturn, 1) := by decide +kernel
theorem dX2_fillSeats_53 : decode cX2_fillSeats 53 = .ok (.aload_n 0, 1) := by decide +kernel
theorem dX2_fillSeats_54 : decode cX2_fillSeats 54 = .ok (.getfield 25, 3) := by decide +kernel
theorem dX2_fillSeats_57 : decode cX2_fillSeats 57 = .ok (.iload_n 3, 1) := by decide +kernel
theorem dX2_fillSeats_58 : decode cX2_fillSeats 58 = .ok (.dup2, 1) := by decide +kernel
theorem dX2_fillSeats_59 : decode cX2_fillSeats 59 = .ok (.iaload, 1) := by decide +kernel
theorem dX2_fillSeats_60 : decode cX2_fillSeats 60 = .ok (.iconst 1, 1) := by decide +kernel
theorem dX2_fillSeats_61 : decode cX2_fillSeats 61 = .ok (.iadd, 1) := by decide +kernel
theorem dX2_fillSeats_62 : decode cX2_fillSeats 62 = .ok (.iastore, 1) := by decide +kernel
theorem dX2_fillSeats_63 : decode cX2_fillSeats 63 = .ok (.aload_n 0, 1) := by decide +kernel
theorem dX2_fillSeats_64 : decode cX2_fillSeats 64 = .ok (.getfield 19, 3) := by decide +kernel
theorem dX2_fillSeats_67 : decode cX2_fillSeats 67 = .ok (.iload_n 2, 1) := by decide +kernel
theorem dX2_fillSeats_68 : decode cX2_fillSeats 68 = .ok (.iload_n 3, 1) := by decide +kernel
theorem dX2_fillSeats_69 : decode cX2_fillSeats 69 = .ok (.iastore, 1) := by decide +kernel
theorem dX2_fillSeats_70 : decode cX2_fillSeats 70 = .ok (.aload_n 0, 1) := by decide +kernel
theorem dX2_fillSeats_71 : decode cX2_fillSeats 71 = .ok (.getfield 22, 3) := by decide +kernel
theorem dX2_fillSeats_74 : decode cX2_fillSeats 74 = .ok (.iload_n 2, 1) := by decide +kernel
theorem dX2_fillSeats_75 : decode cX2_fillSeats 75 = .ok (.bipush (-9), 2) := by decide +kernel
theorem dX2_fillSeats_77 : decode cX2_fillSeats 77 = .ok (.iastore, 1) := by decide +kernel
theorem dX2_fillSeats_78 : decode cX2_fillSeats 78 = .ok (.aload_n 0, 1) := by decide +kernel
theorem dX2_fillSeats_79 : decode cX2_fillSeats 79 = .ok (.iload_n 2, 1) := by decide +kernel
theorem dX2_fillSeats_80 : decode cX2_fillSeats 80 = .ok (.iconst 1, 1) := by decide +kernel
theorem dX2_fillSeats_81 : decode cX2_fillSeats 81 = .ok (.iadd, 1) := by decide +kernel
theorem dX2_fillSeats_82 : decode cX2_fillSeats 82 = .ok (.putfield 15, 3) := by decide +kernel
theorem dX2_fillSeats_85 : decode cX2_fillSeats 85 = .ok (.iinc 2 1, 3) := by decide +kernel
theorem dX2_fillSeats_88 : decode cX2_fillSeats 88 = .ok (.goto (-60), 3) := by decide +kernel
theorem dX2_fillSeats_91 : decode cX2_fillSeats 91 = .ok (.aload_n 0, 1) := by decide +kernel
theorem dX2_fillSeats_92 : decode cX2_fillSeats 92 = .ok (.getfield 15, 3) := by decide +kernel
theorem dX2_fillSeats_95 : decode cX2_fillSeats 95 = .ok (.ireturn, 1) := by decide +kernel
theorem dX2_nextWinner_0 : decode cX2_nextWinner 0 = .ok (.bipush (-9), 2) := by decide +kernel
theorem dX2_nextWinner_2 : decode cX2_nextWinner 2 = .ok (.istore_n 1, 1) := by decide +kernel
theorem dX2_nextWinner_3 : decode cX2_nextWinner 3 = .ok (.iconst 0, 1) := by decide +kernel
theorem dX2_nextWinner_4 : decode cX2_nextWinner 4 = .ok (.istore_n 2, 1) := by decide +kernel
theorem dX2_nextWinner_5 : decode cX2_nextWinner 5 = .ok (.iload_n 2, 1) := by decide +kernel
theorem dX2_nextWinner_6 : decode cX2_nextWinner 6 = .ok (.bipush 6, 2) := by decide +kernel
theorem dX2_nextWinner_8 : decode cX2_nextWinner 8 = .ok (.if_icmp .ge 57, 3) := by decide +kernel
theorem dX2_nextWinner_11 : decode cX2_nextWinner 11 = .ok (.aload_n 0, 1) := by decide +kernel
theorem dX2_nextWinner_12 : decode cX2_nextWinner 12 = .ok (.getfield 9, 3) := by decide +kernel
theorem dX2_nextWinner_15 : decode cX2_nextWinner 15 = .ok (.iload_n 2, 1) := by decide +kernel
theorem dX2_nextWinner_16 : decode cX2_nextWinner 16 = .ok (.iaload, 1) := by decide +kernel
theorem dX2_nextWinner_17 : decode cX2_nextWinner 17 = .ok (.ifCond .le 42, 3) := by decide +kernel
theorem dX2_nextWinner_20 : decode cX2_nextWinner 20 = .ok (.iload_n 1, 1) := by decide +kernel
theorem dX2_nextWinner_21 : decode cX2_nextWinner 21 = .ok (.ifCond .lt 36, 3) := by decide +kernel
theorem dX2_nextWinner_24 : decode cX2_nextWinner 24 = .ok (.aload_n 0, 1) := by decide +kernel
theorem dX2_nextWinner_25 : decode cX2_nextWinner 25 = .ok (.getfield 9, 3) := by decide +kernel
theorem dX2_nextWinner_28 : decode cX2_nextWinner 28 = .ok (.iload_n 2, 1) := by decide +kernel
theorem dX2_nextWinner_29 : decode cX2_nextWinner 29 = .ok (.iaload, 1) := by decide +kernel
theorem dX2_nextWinner_30 : decode cX2_nextWinner 30 = .ok (.aload_n 0, 1) := by decide +kernel
theorem dX2_nextWinner_31 : decode cX2_nextWinner 31 = .ok (.getfield 25, 3) := by decide +kernel
theorem dX2_nextWinner_34 : decode cX2_nextWinner 34 = .ok (.iload_n 1, 1) := by decide +kernel
theorem dX2_nextWinner_35 : decode cX2_nextWinner 35 = .ok (.iaload, 1) := by decide +kernel
theorem dX2_nextWinner_36 : decode cX2_nextWinner 36 = .ok (.iconst 1, 1) := by decide +kernel
theorem dX2_nextWinner_37 : decode cX2_nextWinner 37 = .ok (.iadd, 1) := by decide +kernel
theorem dX2_nextWinner_38 : decode cX2_nextWinner 38 = .ok (.imul, 1) := by decide +kernel
theorem dX2_nextWinner_39 : decode cX2_nextWinner 39 = .ok (.aload_n 0, 1) := by decide +kernel
theorem dX2_nextWinner_40 : decode cX2_nextWinner 40 = .ok (.getfield 9, 3) := by decide +kernel
theorem dX2_nextWinner_43 : decode cX2_nextWinner 43 = .ok (.iload_n 1, 1) := by decide +kernel
theorem dX2_nextWinner_44 : decode cX2_nextWinner 44 = .ok (.iaload, 1) := by decide +kernel
theorem dX2_nextWinner_45 : decode cX2_nextWinner 45 = .ok (.aload_n 0, 1) := by decide +kernel
theorem dX2_nextWinner_46 : decode cX2_nextWinner 46 = .ok (.getfield 25, 3) := by decide +kernel
theorem dX2_nextWinner_49 : decode cX2_nextWinner 49 = .ok (.iload_n 2, 1) := by decide +kernel
theorem dX2_nextWinner_50 : decode cX2_nextWinner 50 = .ok (.iaload, 1) := by decide +kernel
theorem dX2_nextWinner_51 : decode cX2_nextWinner 51 = .ok (.iconst 1, 1) := by decide +kernel
theorem dX2_nextWinner_52 : decode cX2_nextWinner 52 = .ok (.iadd, 1) := by decide +kernel
theorem dX2_nextWinner_53 : decode cX2_nextWinner 53 = .ok (.imul, 1) := by decide +kernel
theorem dX2_nextWinner_54 : decode cX2_nextWinner 54 = .ok (.if_icmp .le 5, 3) := by decide +kernel
theorem dX2_nextWinner_57 : decode cX2_nextWinner 57 = .ok (.iload_n 2, 1) := by decide +kernel
theorem dX2_nextWinner_58 : decode cX2_nextWinner 58 = .ok (.istore_n 1, 1) := by decide +kernel
theorem dX2_nextWinner_59 : decode cX2_nextWinner 59 = .ok (.iinc 2 1, 3) := by decide +kernel
theorem dX2_nextWinner_62 : decode cX2_nextWinner 62 = .ok (.goto (-57), 3) := by decide +kernel
theorem dX2_nextWinner_65 : decode cX2_nextWinner 65 = .ok (.iload_n 1, 1) := by decide +kernel
theorem dX2_nextWinner_66 : decode cX2_nextWinner 66 = .ok (.ireturn, 1) := by decide +kernel
theorem dX2_hasSeat_0 : decode cX2_hasSeat 0 = .ok (.iload_n 1, 1) := by decide +kernel
theorem dX2_hasSeat_1 : decode cX2_hasSeat 1 = .ok (.ifCond .lt 21, 3) := by decide +kernel
theorem dX2_hasSeat_4 : decode cX2_hasSeat 4 = .ok (.iload_n 1, 1) := by decide +kernel
theorem dX2_hasSeat_5 : decode cX2_hasSeat 5 = .ok (.aload_n 0, 1) := by decide +kernel
theorem dX2_hasSeat_6 : decode cX2_hasSeat 6 = .ok (.getfield 15, 3) := by decide +kernel
theorem dX2_hasSeat_9 : decode cX2_hasSeat 9 = .ok (.if_icmp .ge 13, 3) := by decide +kernel
theorem dX2_hasSeat_12 : decode cX2_hasSeat 12 = .ok (.iload_n 1, 1) := by decide +kernel
theorem dX2_hasSeat_13 : decode cX2_hasSeat 13 = .ok (.bipush 9, 2) := by decide +kernel
theorem dX2_hasSeat_15 : decode cX2_hasSeat 15 = .ok (.if_icmp .ge 7, 3) := by decide +kernel
theorem dX2_hasSeat_18 : decode cX2_hasSeat 18 = .ok (.iconst 1, 1) := by decide +kernel
theorem dX2_hasSeat_19 : decode cX2_hasSeat 19 = .ok (.goto 4, 3) := by decide +kernel
theorem dX2_hasSeat_22 : decode cX2_hasSeat 22 = .ok (.iconst 0, 1) := by decide +kernel
theorem dX2_hasSeat_23 : decode cX2_hasSeat 23 = .ok (.ireturn, 1) := by decide +kernel
theorem dX2_isVoidBy_0 : decode cX2_isVoidBy 0 = .ok (.iload_n 1, 1) := by decide +kernel
theorem dX2_isVoidBy_1 : decode cX2_isVoidBy 1 = .ok (.ifCond .lt 25, 3) := by decide +kernel
theorem dX2_isVoidBy_4 : decode cX2_isVoidBy 4 = .ok (.iload_n 1, 1) := by decide +kernel
theorem dX2_isVoidBy_5 : decode cX2_isVoidBy 5 = .ok (.aload_n 0, 1) := by decide +kernel
theorem dX2_isVoidBy_6 : decode cX2_isVoidBy 6 = .ok (.getfield 28, 3) := by decide +kernel
theorem dX2_isVoidBy_9 : decode cX2_isVoidBy 9 = .ok (.if_icmp .ge 17, 3) := by decide +kernel
theorem dX2_isVoidBy_12 : decode cX2_isVoidBy 12 = .ok (.aload_n 0, 1) := by decide +kernel
theorem dX2_isVoidBy_13 : decode cX2_isVoidBy 13 = .ok (.getfield 41, 3) := by decide +kernel
theorem dX2_isVoidBy_16 : decode cX2_isVoidBy 16 = .ok (.iload_n 1, 1) := by decide +kernel
theorem dX2_isVoidBy_17 : decode cX2_isVoidBy 17 = .ok (.iaload, 1) := by decide +kernel
theorem dX2_isVoidBy_18 : decode cX2_isVoidBy 18 = .ok (.iload_n 2, 1) := by decide +kernel
theorem dX2_isVoidBy_19 : decode cX2_isVoidBy 19 = .ok (.if_icmp .gt 7, 3) := by decide +kernel
theorem dX2_isVoidBy_22 : decode cX2_isVoidBy 22 = .ok (.iconst 1, 1) := by decide +kernel
theorem dX2_isVoidBy_23 : decode cX2_isVoidBy 23 = .ok (.goto 4, 3) := by decide +kernel
theorem dX2_isVoidBy_26 : decode cX2_isVoidBy 26 = .ok (.iconst 0, 1) := by decide +kernel
theorem dX2_isVoidBy_27 : decode cX2_isVoidBy 27 = .ok (.ireturn, 1) := by decide +kernel
theorem dX3_init_0 : decode cX3_init 0 = .ok (.aload_n 0, 1) := by decide +kernel
theorem dX3_init_1 : decode cX3_init 1 = .ok (.invokespecial 3, 3) := by decide +kernel
theorem dX3_init_4 : decode cX3_init 4 = .ok (.aload_n 0, 1) := by decide +kernel
theorem dX3_init_5 : decode cX3_init 5 = .ok (.iconst 0, 1) := by decide +kernel
theorem dX3_init_6 : decode cX3_init 6 = .ok (.putfield 9, 3) := by decide +kernel
theorem dX3_init_9 : decode cX3_init 9 = .ok (.aload_n 0, 1) := by decide +kernel
theorem dX3_init_10 : decode cX3_init 10 = .ok (.sipush 1001, 3) := by decide +kernel
theorem dX3_init_13 : decode cX3_init 13 = .ok (.newarray .boolean, 2) := by decide +kernel
theorem dX3_init_15 : decode cX3_init 15 = .ok (.putfield 15, 3) := by decide +kernel
theorem dX3_init_18 : decode cX3_init 18 = .ok (.aload_n 0, 1) := by decide +kernel
theorem dX3_init_19 : decode cX3_init 19 = .ok (.sipush 1001, 3) := by decide +kernel
theorem dX3_init_22 : decode cX3_init 22 = .ok (.newarray .int, 2) := by decide +kernel
theorem dX3_init_24 : decode cX3_init 24 = .ok (.putfield 19, 3) := by decide +kernel
theorem dX3_init_27 : decode cX3_init 27 = .ok (.iconst 0, 1) := by decide +kernel
theorem dX3_init_28 : decode cX3_init 28 = .ok (.istore_n 1, 1) := by decide +kernel
theorem dX3_init_29 : decode cX3_init 29 = .ok (.iconst 0, 1) := by decide +kernel
theorem dX3_init_30 : decode cX3_init 30 = .ok (.istore_n 2, 1) := by decide +kernel
theorem dX3_init_31 : decode cX3_init 31 = .ok (.iload_n 2, 1) := by decide +kernel
theorem dX3_init_32 : decode cX3_init 32 = .ok (.sipush 1000, 3) := by decide +kernel
theorem dX3_init_35 : decode cX3_init 35 = .ok (.if_icmp .gt 32, 3) := by decide +kernel
theorem dX3_init_38 : decode cX3_init 38 = .ok (.iload_n 1, 1) := by decide +kernel
theorem dX3_init_39 : decode cX3_init 39 = .ok (.iload_n 2, 1) := by decide +kernel
theorem dX3_init_40 : decode cX3_init 40 = .ok (.bipush 7, 2) := by decide +kernel
theorem dX3_init_42 : decode cX3_init 42 = .ok (.irem, 1) := by decide +kernel
theorem dX3_init_43 : decode cX3_init 43 = .ok (.iconst 5, 1) := by decide +kernel
theorem dX3_init_44 : decode cX3_init 44 = .ok (.if_icmp .ge 7, 3) := by decide +kernel
theorem dX3_init_47 : decode cX3_init 47 = .ok (.iconst 1, 1) := by decide +kernel
theorem dX3_init_48 : decode cX3_init 48 = .ok (.goto 4, 3) := by decide +kernel
theorem dX3_init_51 : decode cX3_init 51 = .ok (.iconst 0, 1) := by decide +kernel
theorem dX3_init_52 : decode cX3_init 52 = .ok (.iadd, 1) := by decide +kernel
theorem dX3_init_53 : decode cX3_init 53 = .ok (.istore_n 1, 1) := by decide +kernel
theorem dX3_init_54 : decode cX3_init 54 = .ok (.aload_n 0, 1) := by decide +kernel
theorem dX3_init_55 : decode cX3_init 55 = .ok (.getfield 19, 3) := by decide +kernel
theorem dX3_init_58 : decode cX3_init 58 = .ok (.iload_n 2, 1) := by decide +kernel
theorem dX3_init_59 : decode cX3_init 59 = .ok (.iload_n 1, 1) := by decide +kernel
theorem dX3_init_60 : decode cX3_init 60 = .ok (.iastore, 1) := by decide +kernel
theorem dX3_init_61 : decode cX3_init 61 = .ok (.iinc 2 1, 3) := by decide +kernel
theorem dX3_init_64 : decode cX3_init 64 = .ok (.goto (-33), 3) := by decide +kernel
theorem dX3_init_67 : decode cX3_init 67 = .ok (.return_, 1) := by decide +kernel
theorem dX3_workdaysBehind_0 : decode cX3_workdaysBehind 0 = .ok (.iload_n 1, 1) := by decide +kernel
theorem dX3_workdaysBehind_1 : decode cX3_workdaysBehind 1 = .ok (.ifCond .lt 15, 3) := by decide +kernel
theorem dX3_workdaysBehind_4 : decode cX3_workdaysBehind 4 = .ok (.iload_n 2, 1) := by decide +kernel
theorem dX3_workdaysBehind_5 : decode cX3_workdaysBehind 5 = .ok (.sipush 1000, 3) := by decide +kernel
theorem dX3_workdaysBehind_8 : decode cX3_workdaysBehind 8 = .ok (.if_icmp .gt 8, 3) := by decide +kernel
theorem dX3_workdaysBehind_11 : decode cX3_workdaysBehind 11 = .ok (.iload_n 2, 1) := by decide +kernel
theorem dX3_workdaysBehind_12 : decode cX3_workdaysBehind 12 = .ok (.iload_n 1, 1) := by decide +kernel
theorem dX3_workdaysBehind_13 : decode cX3_workdaysBehind 13 = .ok (.if_icmp .gt 5, 3) := by decide +kernel
theorem dX3_workdaysBehind_16 : decode cX3_workdaysBehind 16 = .ok (.iconst 0, 1) := by decide +kernel
theorem dX3_workdaysBehind_17 : decode cX3_workdaysBehind 17 = .ok (.ireturn, 1) := by decide +kernel
theorem dX3_workdaysBehind_18 : decode cX3_workdaysBehind 18 = .ok (.aload_n 0, 1) := by decide +kernel
theorem dX3_workdaysBehind_19 : decode cX3_workdaysBehind 19 = .ok (.getfield 19, 3) := by decide +kernel
theorem dX3_workdaysBehind_22 : decode cX3_workdaysBehind 22 = .ok (.iload_n 2, 1) := by decide +kernel
theorem dX3_workdaysBehind_23 : decode cX3_workdaysBehind 23 = .ok (.iaload, 1) := by decide +kernel
theorem dX3_workdaysBehind_24 : decode cX3_workdaysBehind 24 = .ok (.aload_n 0, 1) := by decide +kernel
theorem dX3_workdaysBehind_25 : decode cX3_workdaysBehind 25 = .ok (.getfield 19, 3) := by decide +kernel
theorem dX3_workdaysBehind_28 : decode cX3_workdaysBehind 28 = .ok (.iload_n 1, 1) := by decide +kernel
theorem dX3_workdaysBehind_29 : decode cX3_workdaysBehind 29 = .ok (.iaload, 1) := by decide +kernel
theorem dX3_workdaysBehind_30 : decode cX3_workdaysBehind 30 = .ok (.isub, 1) := by decide +kernel
theorem dX3_workdaysBehind_31 : decode cX3_workdaysBehind 31 = .ok (.ireturn, 1) := by decide +kernel
theorem dX3_firstDayBeyond_0 : decode cX3_firstDayBeyond 0 = .ok (.iload_n 1, 1) := by decide +kernel
theorem dX3_firstDayBeyond_1 : decode cX3_firstDayBeyond 1 = .ok (.ifCond .ge 6, 3) := by decide +kernel
theorem dX3_firstDayBeyond_4 : decode cX3_firstDayBeyond 4 = .ok (.ldc 23, 2) := by decide +kernel
theorem dX3_firstDayBeyond_6 : decode cX3_firstDayBeyond 6 = .ok (.ireturn, 1) := by decide +kernel
theorem dX3_firstDayBeyond_7 : decode cX3_firstDayBeyond 7 = .ok (.iload_n 1, 1) := by decide +kernel
theorem dX3_firstDayBeyond_8 : decode cX3_firstDayBeyond 8 = .ok (.iconst 1, 1) := by decide +kernel
theorem dX3_firstDayBeyond_9 : decode cX3_firstDayBeyond 9 = .ok (.iadd, 1) := by decide +kernel
theorem dX3_firstDayBeyond_10 : decode cX3_firstDayBeyond 10 = .ok (.istore_n 3, 1) := by decide +kernel
theorem dX3_firstDayBeyond_11 : decode cX3_firstDayBeyond 11 = .ok (.iload_n 3, 1) := by decide +kernel
theorem dX3_firstDayBeyond_12 : decode cX3_firstDayBeyond 12 = .ok (.sipush 1000, 3) := by decide +kernel
theorem dX3_firstDayBeyond_15 : decode cX3_firstDayBeyond 15 = .ok (.if_icmp .gt 28, 3) := by decide +kernel
theorem dX3_firstDayBeyond_18 : decode cX3_firstDayBeyond 18 = .ok (.aload_n 0, 1) := by decide +kernel
theorem dX3_firstDayBeyond_19 : decode cX3_firstDayBeyond 19 = .ok (.getfield 19, 3) := by decide +kernel
theorem dX3_firstDayBeyond_22 : decode cX3_firstDayBeyond 22 = .ok (.iload_n 3, 1) := by decide +kernel
theorem dX3_firstDayBeyond_23 : decode cX3_firstDayBeyond 23 = .ok (.iaload, 1) := by decide +kernel
theorem dX3_firstDayBeyond_24 : decode cX3_firstDayBeyond 24 = .ok (.aload_n 0, 1) := by decide +kernel
theorem dX3_firstDayBeyond_25 : decode cX3_firstDayBeyond 25 = .ok (.getfield 19, 3) := by decide +kernel
theorem dX3_firstDayBeyond_28 : decode cX3_firstDayBeyond 28 = .ok (.iload_n 1, 1) := by decide +kernel
theorem dX3_firstDayBeyond_29 : decode cX3_firstDayBeyond 29 = .ok (.iaload, 1) := by decide +kernel
theorem dX3_firstDayBeyond_30 : decode cX3_firstDayBeyond 30 = .ok (.isub, 1) := by decide +kernel
theorem dX3_firstDayBeyond_31 : decode cX3_firstDayBeyond 31 = .ok (.iload_n 2, 1) := by decide +kernel
theorem dX3_firstDayBeyond_32 : decode cX3_firstDayBeyond 32 = .ok (.if_icmp .le 5, 3) := by decide +kernel
theorem dX3_firstDayBeyond_35 : decode cX3_firstDayBeyond 35 = .ok (.iload_n 3, 1) := by decide +kernel
theorem dX3_firstDayBeyond_36 : decode cX3_firstDayBeyond 36 = .ok (.ireturn, 1) := by decide +kernel
theorem dX3_firstDayBeyond_37 : decode cX3_firstDayBeyond 37 = .ok (.iinc 3 1, 3) := by decide +kernel
theorem dX3_firstDayBeyond_40 : decode cX3_firstDayBeyond 40 = .ok (.goto (-29), 3) := by decide +kernel
theorem dX3_firstDayBeyond_43 : decode cX3_firstDayBeyond 43 = .ok (.ldc 23, 2) := by decide +kernel
theorem dX3_firstDayBeyond_45 : decode cX3_firstDayBeyond 45 = .ok (.ireturn, 1) := by decide +kernel
theorem dX4_init_0 : decode cX4_init 0 = .ok (.aload_n 0, 1) := by decide +kernel
theorem dX4_init_1 : decode cX4_init 1 = .ok (.invokespecial 3, 3) := by decide +kernel
theorem dX4_init_4 : decode cX4_init 4 = .ok (.aload_n 0, 1) := by decide +kernel
theorem dX4_init_5 : decode cX4_init 5 = .ok (.iconst 0, 1) := by decide +kernel
theorem dX4_init_6 : decode cX4_init 6 = .ok (.putfield 9, 3) := by decide +kernel
theorem dX4_init_9 : decode cX4_init 9 = .ok (.aload_n 0, 1) := by decide +kernel
theorem dX4_init_10 : decode cX4_init 10 = .ok (.bipush 60, 2) := by decide +kernel
theorem dX4_init_12 : decode cX4_init 12 = .ok (.newarray .int, 2) := by decide +kernel
theorem dX4_init_14 : decode cX4_init 14 = .ok (.putfield 15, 3) := by decide +kernel
theorem dX4_init_17 : decode cX4_init 17 = .ok (.aload_n 0, 1) := by decide +kernel
theorem dX4_init_18 : decode cX4_init 18 = .ok (.bipush 60, 2) := by decide +kernel
theorem dX4_init_20 : decode cX4_init 20 = .ok (.newarray .int, 2) := by decide +kernel
theorem dX4_init_22 : decode cX4_init 22 = .ok (.putfield 19, 3) := by decide +kernel
theorem dX4_init_25 : decode cX4_init 25 = .ok (.aload_n 0, 1) := by decide +kernel
theorem dX4_init_26 : decode cX4_init 26 = .ok (.bipush 60, 2) := by decide +kernel
theorem dX4_init_28 : decode cX4_init 28 = .ok (.newarray .int, 2) := by decide +kernel
theorem dX4_init_30 : decode cX4_init 30 = .ok (.putfield 22, 3) := by decide +kernel
theorem dX4_init_33 : decode cX4_init 33 = .ok (.aload_n 0, 1) := by decide +kernel
theorem dX4_init_34 : decode cX4_init 34 = .ok (.bipush 60, 2) := by decide +kernel
theorem dX4_init_36 : decode cX4_init 36 = .ok (.newarray .int, 2) := by decide +kernel
theorem dX4_init_38 : decode cX4_init 38 = .ok (.putfield 25, 3) := by decide +kernel
theorem dX4_init_41 : decode cX4_init 41 = .ok (.aload_n 0, 1) := by decide +kernel
theorem dX4_init_42 : decode cX4_init 42 = .ok (.bipush 60, 2) := by decide +kernel
theorem dX4_init_44 : decode cX4_init 44 = .ok (.newarray .boolean, 2) := by decide +kernel
theorem dX4_init_46 : decode cX4_init 46 = .ok (.putfield 28, 3) := by decide +kernel
theorem dX4_init_49 : decode cX4_init 49 = .ok (.aload_n 0, 1) := by decide +kernel
theorem dX4_init_50 : decode cX4_init 50 = .ok (.iconst 0, 1) := by decide +kernel
theorem dX4_init_51 : decode cX4_init 51 = .ok (.putfield 32, 3) := by decide +kernel
theorem dX4_init_54 : decode cX4_init 54 = .ok (.aload_n 0, 1) := by decide +kernel
theorem dX4_init_55 : decode cX4_init 55 = .ok (.bipush 100, 2) := by decide +kernel
theorem dX4_init_57 : decode cX4_init 57 = .ok (.newarray .int, 2) := by decide +kernel
theorem dX4_init_59 : decode cX4_init 59 = .ok (.putfield 35, 3) := by decide +kernel
theorem dX4_init_62 : decode cX4_init 62 = .ok (.aload_n 0, 1) := by decide +kernel
theorem dX4_init_63 : decode cX4_init 63 = .ok (.bipush 100, 2) := by decide +kernel
theorem dX4_init_65 : decode cX4_init 65 = .ok (.newarray .int, 2) := by decide +kernel
theorem dX4_init_67 : decode cX4_init 67 = .ok (.putfield 38, 3) := by decide +kernel
theorem dX4_init_70 : decode cX4_init 70 = .ok (.aload_n 0, 1) := by decide +kernel
theorem dX4_init_71 : decode cX4_init 71 = .ok (.bipush 100, 2) := by decide +kernel
theorem dX4_init_73 : decode cX4_init 73 = .ok (.newarray .int, 2) := by decide +kernel
theorem dX4_init_75 : decode cX4_init 75 = .ok (.putfield 41, 3) := by decide +kernel
theorem dX4_init_78 : decode cX4_init 78 = .ok (.return_, 1) := by decide +kernel
theorem dX5_init_0 : decode cX5_init 0 = .ok (.aload_n 0, 1) := by decide +kernel
theorem dX5_init_1 : decode cX5_init 1 = .ok (.invokespecial 3, 3) := by decide +kernel
theorem dX5_init_4 : decode cX5_init 4 = .ok (.aload_n 0, 1) := by decide +kernel
theorem dX5_init_5 : decode cX5_init 5 = .ok (.iconst 0, 1) := by decide +kernel
theorem dX5_init_6 : decode cX5_init 6 = .ok (.putfield 9, 3) := by decide +kernel
theorem dX5_init_9 : decode cX5_init 9 = .ok (.aload_n 0, 1) := by decide +kernel
theorem dX5_init_10 : decode cX5_init 10 = .ok (.iconst 0, 1) := by decide +kernel
theorem dX5_init_11 : decode cX5_init 11 = .ok (.putfield 15, 3) := by decide +kernel
theorem dX5_init_14 : decode cX5_init 14 = .ok (.aload_n 0, 1) := by decide +kernel
theorem dX5_init_15 : decode cX5_init 15 = .ok (.iconst 0, 1) := by decide +kernel
theorem dX5_init_16 : decode cX5_init 16 = .ok (.putfield 18, 3) := by decide +kernel
theorem dX5_init_19 : decode cX5_init 19 = .ok (.aload_n 0, 1) := by decide +kernel
theorem dX5_init_20 : decode cX5_init 20 = .ok (.bipush (-9), 2) := by decide +kernel
theorem dX5_init_22 : decode cX5_init 22 = .ok (.putfield 21, 3) := by decide +kernel
theorem dX5_init_25 : decode cX5_init 25 = .ok (.aload_n 0, 1) := by decide +kernel
theorem dX5_init_26 : decode cX5_init 26 = .ok (.iconst 0, 1) := by decide +kernel
theorem dX5_init_27 : decode cX5_init 27 = .ok (.putfield 24, 3) := by decide +kernel
theorem dX5_init_30 : decode cX5_init 30 = .ok (.aload_n 0, 1) := by decide +kernel
theorem dX5_init_31 : decode cX5_init 31 = .ok (.iconst 0, 1) := by decide +kernel
theorem dX5_init_32 : decode cX5_init 32 = .ok (.putfield 27, 3) := by decide +kernel
theorem dX5_init_35 : decode cX5_init 35 = .ok (.aload_n 0, 1) := by decide +kernel
theorem dX5_init_36 : decode cX5_init 36 = .ok (.iconst 0, 1) := by decide +kernel
theorem dX5_init_37 : decode cX5_init 37 = .ok (.putfield 30, 3) := by decide +kernel
theorem dX5_init_40 : decode cX5_init 40 = .ok (.aload_n 0, 1) := by decide +kernel
theorem dX5_init_41 : decode cX5_init 41 = .ok (.iconst 0, 1) := by decide +kernel
theorem dX5_init_42 : decode cX5_init 42 = .ok (.putfield 33, 3) := by decide +kernel
theorem dX5_init_45 : decode cX5_init 45 = .ok (.aload_n 0, 1) := by decide +kernel
theorem dX5_init_46 : decode cX5_init 46 = .ok (.iconst 0, 1) := by decide +kernel
theorem dX5_init_47 : decode cX5_init 47 = .ok (.putfield 36, 3) := by decide +kernel
theorem dX5_init_50 : decode cX5_init 50 = .ok (.aload_n 0, 1) := by decide +kernel
theorem dX5_init_51 : decode cX5_init 51 = .ok (.iconst 0, 1) := by decide +kernel
theorem dX5_init_52 : decode cX5_init 52 = .ok (.putfield 40, 3) := by decide +kernel
theorem dX5_init_55 : decode cX5_init 55 = .ok (.aload_n 0, 1) := by decide +kernel
theorem dX5_init_56 : decode cX5_init 56 = .ok (.bipush 30, 2) := by decide +kernel
theorem dX5_init_58 : decode cX5_init 58 = .ok (.newarray .int, 2) := by decide +kernel
theorem dX5_init_60 : decode cX5_init 60 = .ok (.putfield 43, 3) := by decide +kernel
theorem dX5_init_63 : decode cX5_init 63 = .ok (.aload_n 0, 1) := by decide +kernel
theorem dX5_init_64 : decode cX5_init 64 = .ok (.bipush 30, 2) := by decide +kernel
theorem dX5_init_66 : decode cX5_init 66 = .ok (.newarray .int, 2) := by decide +kernel
theorem dX5_init_68 : decode cX5_init 68 = .ok (.putfield 47, 3) := by decide +kernel
theorem dX5_init_71 : decode cX5_init 71 = .ok (.aload_n 0, 1) := by decide +kernel
theorem dX5_init_72 : decode cX5_init 72 = .ok (.bipush 30, 2) := by decide +kernel
theorem dX5_init_74 : decode cX5_init 74 = .ok (.newarray .int, 2) := by decide +kernel
theorem dX5_init_76 : decode cX5_init 76 = .ok (.putfield 50, 3) := by decide +kernel
theorem dX5_init_79 : decode cX5_init 79 = .ok (.aload_n 0, 1) := by decide +kernel
theorem dX5_init_80 : decode cX5_init 80 = .ok (.aload_n 1, 1) := by decide +kernel
theorem dX5_init_81 : decode cX5_init 81 = .ok (.putfield 53, 3) := by decide +kernel
theorem dX5_init_84 : decode cX5_init 84 = .ok (.aload_n 0, 1) := by decide +kernel
theorem dX5_init_85 : decode cX5_init 85 = .ok (.aload_n 2, 1) := by decide +kernel
theorem dX5_init_86 : decode cX5_init 86 = .ok (.putfield 57, 3) := by decide +kernel
theorem dX5_init_89 : decode cX5_init 89 = .ok (.return_, 1) := by decide +kernel
theorem dX5_begin_0 : decode cX5_begin 0 = .ok (.aload_n 0, 1) := by decide +kernel
theorem dX5_begin_1 : decode cX5_begin 1 = .ok (.iload_n 1, 1) := by decide +kernel
theorem dX5_begin_2 : decode cX5_begin 2 = .ok (.putfield 9, 3) := by decide +kernel
theorem dX5_begin_5 : decode cX5_begin 5 = .ok (.aload_n 0, 1) := by decide +kernel
theorem dX5_begin_6 : decode cX5_begin 6 = .ok (.iload_n 2, 1) := by decide +kernel
theorem dX5_begin_7 : decode cX5_begin 7 = .ok (.putfield 15, 3) := by decide +kernel
theorem dX5_begin_10 : decode cX5_begin 10 = .ok (.aload_n 0, 1) := by decide +kernel
theorem dX5_begin_11 : decode cX5_begin 11 = .ok (.iload_n 3, 1) := by decide +kernel
theorem dX5_begin_12 : decode cX5_begin 12 = .ok (.putfield 18, 3) := by decide +kernel
theorem dX5_begin_15 : decode cX5_begin 15 = .ok (.aload_n 0, 1) := by decide +kernel
theorem dX5_begin_16 : decode cX5_begin 16 = .ok (.iload 4, 2) := by decide +kernel
theorem dX5_begin_18 : decode cX5_begin 18 = .ok (.putfield 21, 3) := by decide +kernel
theorem dX5_begin_21 : decode cX5_begin 21 = .ok (.aload_n 0, 1) := by decide +kernel
theorem dX5_begin_22 : decode cX5_begin 22 = .ok (.aload_n 0, 1) := by decide +kernel
theorem dX5_begin_23 : decode cX5_begin 23 = .ok (.getfield 53, 3) := by decide +kernel
theorem dX5_begin_26 : decode cX5_begin 26 = .ok (.getfield 61, 3) := by decide +kernel
theorem dX5_begin_29 : decode cX5_begin 29 = .ok (.putfield 24, 3) := by decide +kernel
theorem dX5_begin_32 : decode cX5_begin 32 = .ok (.return_, 1) := by decide +kernel
theorem dX5_takeTerms_0 : decode cX5_takeTerms 0 = .ok (.aload_n 0, 1) := by decide +kernel
theorem dX5_takeTerms_1 : decode cX5_takeTerms 1 = .ok (.iload_n 1, 1) := by decide +kernel
theorem dX5_takeTerms_2 : decode cX5_takeTerms 2 = .ok (.putfield 27, 3) := by decide +kernel
theorem dX5_takeTerms_5 : decode cX5_takeTerms 5 = .ok (.aload_n 0, 1) := by decide +kernel
theorem dX5_takeTerms_6 : decode cX5_takeTerms 6 = .ok (.iload_n 2, 1) := by decide +kernel
theorem dX5_takeTerms_7 : decode cX5_takeTerms 7 = .ok (.putfield 30, 3) := by decide +kernel
theorem dX5_takeTerms_10 : decode cX5_takeTerms 10 = .ok (.aload_n 0, 1) := by decide +kernel
theorem dX5_takeTerms_11 : decode cX5_takeTerms 11 = .ok (.iload_n 3, 1) := by decide +kernel
theorem dX5_takeTerms_12 : decode cX5_takeTerms 12 = .ok (.putfield 33, 3) := by decide +kernel
theorem dX5_takeTerms_15 : decode cX5_takeTerms 15 = .ok (.aload_n 0, 1) := by decide +kernel
theorem dX5_takeTerms_16 : decode cX5_takeTerms 16 = .ok (.iload 4, 2) := by decide +kernel
theorem dX5_takeTerms_18 : decode cX5_takeTerms 18 = .ok (.putfield 36, 3) := by decide +kernel
theorem dX5_takeTerms_21 : decode cX5_takeTerms 21 = .ok (.return_, 1) := by decide +kernel
theorem dX5_isFull_0 : decode cX5_isFull 0 = .ok (.aload_n 0, 1) := by decide +kernel
theorem dX5_isFull_1 : decode cX5_isFull 1 = .ok (.getfield 40, 3) := by decide +kernel
theorem dX5_isFull_4 : decode cX5_isFull 4 = .ok (.bipush 30, 2) := by decide +kernel
theorem dX5_isFull_6 : decode cX5_isFull 6 = .ok (.if_icmp .lt 7, 3) := by decide +kernel
theorem dX5_isFull_9 : decode cX5_isFull 9 = .ok (.iconst 1, 1) := by decide +kernel
theorem dX5_isFull_10 : decode cX5_isFull 10 = .ok (.goto 4, 3) := by decide +kernel
theorem dX5_isFull_13 : decode cX5_isFull 13 = .ok (.iconst 0, 1) := by decide +kernel
theorem dX5_isFull_14 : decode cX5_isFull 14 = .ok (.ireturn, 1) := by decide +kernel
theorem dX5_tell_0 : decode cX5_tell 0 = .ok (.aload_n 0, 1) := by decide +kernel
theorem dX5_tell_1 : decode cX5_tell 1 = .ok (.getfield 40, 3) := by decide +kernel
theorem dX5_tell_4 : decode cX5_tell 4 = .ok (.bipush 30, 2) := by decide +kernel
theorem dX5_tell_6 : decode cX5_tell 6 = .ok (.if_icmp .ge 49, 3) := by decide +kernel
theorem dX5_tell_9 : decode cX5_tell 9 = .ok (.aload_n 0, 1) := by decide +kernel
theorem dX5_tell_10 : decode cX5_tell 10 = .ok (.getfield 43, 3) := by decide +kernel
theorem dX5_tell_13 : decode cX5_tell 13 = .ok (.aload_n 0, 1) := by decide +kernel
theorem dX5_tell_14 : decode cX5_tell 14 = .ok (.getfield 40, 3) := by decide +kernel
theorem dX5_tell_17 : decode cX5_tell 17 = .ok (.iload_n 1, 1) := by decide +kernel
theorem dX5_tell_18 : decode cX5_tell 18 = .ok (.iastore, 1) := by decide +kernel
theorem dX5_tell_19 : decode cX5_tell 19 = .ok (.aload_n 0, 1) := by decide +kernel
theorem dX5_tell_20 : decode cX5_tell 20 = .ok (.getfield 47, 3) := by decide +kernel
theorem dX5_tell_23 : decode cX5_tell 23 = .ok (.aload_n 0, 1) := by decide +kernel
theorem dX5_tell_24 : decode cX5_tell 24 = .ok (.getfield 40, 3) := by decide +kernel
theorem dX5_tell_27 : decode cX5_tell 27 = .ok (.iload_n 2, 1) := by decide +kernel
theorem dX5_tell_28 : decode cX5_tell 28 = .ok (.iastore, 1) := by decide +kernel
theorem dX5_tell_29 : decode cX5_tell 29 = .ok (.aload_n 0, 1) := by decide +kernel
theorem dX5_tell_30 : decode cX5_tell 30 = .ok (.getfield 50, 3) := by decide +kernel
theorem dX5_tell_33 : decode cX5_tell 33 = .ok (.aload_n 0, 1) := by decide +kernel
theorem dX5_tell_34 : decode cX5_tell 34 = .ok (.getfield 40, 3) := by decide +kernel
theorem dX5_tell_37 : decode cX5_tell 37 = .ok (.aload_n 0, 1) := by decide +kernel
theorem dX5_tell_38 : decode cX5_tell 38 = .ok (.getfield 53, 3) := by decide +kernel
theorem dX5_tell_41 : decode cX5_tell 41 = .ok (.getfield 61, 3) := by decide +kernel
theorem dX5_tell_44 : decode cX5_tell 44 = .ok (.iastore, 1) := by decide +kernel
theorem dX5_tell_45 : decode cX5_tell 45 = .ok (.aload_n 0, 1) := by decide +kernel
theorem dX5_tell_46 : decode cX5_tell 46 = .ok (.dup, 1) := by decide +kernel
theorem dX5_tell_47 : decode cX5_tell 47 = .ok (.getfield 40, 3) := by decide +kernel
theorem dX5_tell_50 : decode cX5_tell 50 = .ok (.iconst 1, 1) := by decide +kernel
theorem dX5_tell_51 : decode cX5_tell 51 = .ok (.iadd, 1) := by decide +kernel
theorem dX5_tell_52 : decode cX5_tell 52 = .ok (.putfield 40, 3) := by decide +kernel
theorem dX5_tell_55 : decode cX5_tell 55 = .ok (.aload_n 0, 1) := by decide +kernel
theorem dX5_tell_56 : decode cX5_tell 56 = .ok (.getfield 40, 3) := by decide +kernel
theorem dX5_tell_59 : decode cX5_tell 59 = .ok (.ireturn, 1) := by decide +kernel
theorem dX5_withdrawnBy_0 : decode cX5_withdrawnBy 0 = .ok (.iconst 0, 1) := by decide +kernel
theorem dX5_withdrawnBy_1 : decode cX5_withdrawnBy 1 = .ok (.istore_n 2, 1) := by decide +kernel
theorem dX5_withdrawnBy_2 : decode cX5_withdrawnBy 2 = .ok (.iload_n 2, 1) := by decide +kernel
theorem dX5_withdrawnBy_3 : decode cX5_withdrawnBy 3 = .ok (.aload_n 0, 1) := by decide +kernel
theorem dX5_withdrawnBy_4 : decode cX5_withdrawnBy 4 = .ok (.getfield 40, 3) := by decide +kernel
theorem dX5_withdrawnBy_7 : decode cX5_withdrawnBy 7 = .ok (.if_icmp .ge 31, 3) := by decide +kernel
theorem dX5_withdrawnBy_10 : decode cX5_withdrawnBy 10 = .ok (.aload_n 0, 1) := by decide +kernel
theorem dX5_withdrawnBy_11 : decode cX5_withdrawnBy 11 = .ok (.getfield 43, 3) := by decide +kernel
theorem dX5_withdrawnBy_14 : decode cX5_withdrawnBy 14 = .ok (.iload_n 2, 1) := by decide +kernel
theorem dX5_withdrawnBy_15 : decode cX5_withdrawnBy 15 = .ok (.iaload, 1) := by decide +kernel
theorem dX5_withdrawnBy_16 : decode cX5_withdrawnBy 16 = .ok (.iconst 2, 1) := by decide +kernel
theorem dX5_withdrawnBy_17 : decode cX5_withdrawnBy 17 = .ok (.if_icmp .ne 15, 3) := by decide +kernel
theorem dX5_withdrawnBy_20 : decode cX5_withdrawnBy 20 = .ok (.aload_n 0, 1) := by decide +kernel
theorem dX5_withdrawnBy_21 : decode cX5_withdrawnBy 21 = .ok (.getfield 50, 3) := by decide +kernel
theorem dX5_withdrawnBy_24 : decode cX5_withdrawnBy 24 = .ok (.iload_n 2, 1) := by decide +kernel
theorem dX5_withdrawnBy_25 : decode cX5_withdrawnBy 25 = .ok (.iaload, 1) := by decide +kernel
theorem dX5_withdrawnBy_26 : decode cX5_withdrawnBy 26 = .ok (.iload_n 1, 1) := by decide +kernel
theorem dX5_withdrawnBy_27 : decode cX5_withdrawnBy 27 = .ok (.if_icmp .gt 5, 3) := by decide +kernel
theorem dX5_withdrawnBy_30 : decode cX5_withdrawnBy 30 = .ok (.iconst 1, 1) := by decide +kernel
theorem dX5_withdrawnBy_31 : decode cX5_withdrawnBy 31 = .ok (.ireturn, 1) := by decide +kernel
theorem dX5_withdrawnBy_32 : decode cX5_withdrawnBy 32 = .ok (.iinc 2 1, 3) := by decide +kernel
theorem dX5_withdrawnBy_35 : decode cX5_withdrawnBy 35 = .ok (.goto (-33), 3) := by decide +kernel
theorem dX5_withdrawnBy_38 : decode cX5_withdrawnBy 38 = .ok (.iconst 0, 1) := by decide +kernel
theorem dX5_withdrawnBy_39 : decode cX5_withdrawnBy 39 = .ok (.ireturn, 1) := by decide +kernel
theorem dX5_paperDay_0 : decode cX5_paperDay 0 = .ok (.bipush (-9), 2) := by decide +kernel
theorem dX5_paperDay_2 : decode cX5_paperDay 2 = .ok (.istore 4, 2) := by decide +kernel
theorem dX5_paperDay_4 : decode cX5_paperDay 4 = .ok (.aload_n 0, 1) := by decide +kernel
theorem dX5_paperDay_5 : decode cX5_paperDay 5 = .ok (.getfield 40, 3) := by decide +kernel
theorem dX5_paperDay_8 : decode cX5_paperDay 8 = .ok (.iconst 1, 1) := by decide +kernel
theorem dX5_paperDay_9 : decode cX5_paperDay 9 = .ok (.isub, 1) := by decide +kernel
theorem dX5_paperDay_10 : decode cX5_paperDay 10 = .ok (.istore 5, 2) := by decide +kernel
theorem dX5_paperDay_12 : decode cX5_paperDay 12 = .ok (.iload 5, 2) := by decide +kernel
theorem dX5_paperDay_14 : decode cX5_paperDay 14 = .ok (.ifCond .lt 86, 3) := by decide +kernel
theorem dX5_paperDay_17 : decode cX5_paperDay 17 = .ok (.aload_n 0, 1) := by decide +kernel
theorem dX5_paperDay_18 : decode cX5_paperDay 18 = .ok (.getfield 43, 3) := by decide +kernel
theorem dX5_paperDay_21 : decode cX5_paperDay 21 = .ok (.iload 5, 2) := by decide +kernel
theorem dX5_paperDay_23 : decode cX5_paperDay 23 = .ok (.iaload, 1) := by decide +kernel
theorem dX5_paperDay_24 : decode cX5_paperDay 24 = .ok (.iconst 1, 1) := by decide +kernel
theorem dX5_paperDay_25 : decode cX5_paperDay 25 = .ok (.if_icmp .ne 28, 3) := by decide +kernel
theorem dX5_paperDay_28 : decode cX5_paperDay 28 = .ok (.aload_n 0, 1) := by decide +kernel
theorem dX5_paperDay_29 : decode cX5_paperDay 29 = .ok (.getfield 47, 3) := by decide +kernel
theorem dX5_paperDay_32 : decode cX5_paperDay 32 = .ok (.iload 5, 2) := by decide +kernel
theorem dX5_paperDay_34 : decode cX5_paperDay 34 = .ok (.iaload, 1) := by decide +kernel
theorem dX5_paperDay_35 : decode cX5_paperDay 35 = .ok (.iload_n 1, 1) := by decide +kernel
theorem dX5_paperDay_36 : decode cX5_paperDay 36 = .ok (.if_icmp .ne 17, 3) := by decide +kernel
theorem dX5_paperDay_39 : decode cX5_paperDay 39 = .ok (.aload_n 0, 1) := by decide +kernel
theorem dX5_paperDay_40 : decode cX5_paperDay 40 = .ok (.getfield 50, 3) := by decide +kernel
theorem dX5_paperDay_43 : decode cX5_paperDay 43 = .ok (.iload 5, 2) := by decide +kernel
theorem dX5_paperDay_45 : decode cX5_paperDay 45 = .ok (.iaload, 1) := by decide +kernel
theorem dX5_paperDay_46 : decode cX5_paperDay 46 = .ok (.iload_n 3, 1) := by decide +kernel
theorem dX5_paperDay_47 : decode cX5_paperDay 47 = .ok (.if_icmp .gt 6, 3) := by decide +kernel
theorem dX5_paperDay_50 : decode cX5_paperDay 50 = .ok (.iload 4, 2) := by decide +kernel
theorem dX5_paperDay_52 : decode cX5_paperDay 52 = .ok (.ireturn, 1) := by decide +kernel
theorem dX5_paperDay_53 : decode cX5_paperDay 53 = .ok (.aload_n 0, 1) := by decide +kernel
theorem dX5_paperDay_54 : decode cX5_paperDay 54 = .ok (.getfield 43, 3) := by decide +kernel
theorem dX5_paperDay_57 : decode cX5_paperDay 57 = .ok (.iload 5, 2) := by decide +kernel
theorem dX5_paperDay_59 : decode cX5_paperDay 59 = .ok (.iaload, 1) := by decide +kernel
theorem dX5_paperDay_60 : decode cX5_paperDay 60 = .ok (.ifCond .ne 34, 3) := by decide +kernel
theorem dX5_paperDay_63 : decode cX5_paperDay 63 = .ok (.aload_n 0, 1) := by decide +kernel
theorem dX5_paperDay_64 : decode cX5_paperDay 64 = .ok (.getfield 47, 3) := by decide +kernel
theorem dX5_paperDay_67 : decode cX5_paperDay 67 = .ok (.iload 5, 2) := by decide +kernel
theorem dX5_paperDay_69 : decode cX5_paperDay 69 = .ok (.iaload, 1) := by decide +kernel
theorem dX5_paperDay_70 : decode cX5_paperDay 70 = .ok (.iload_n 1, 1) := by decide +kernel
theorem dX5_paperDay_71 : decode cX5_paperDay 71 = .ok (.if_icmp .ne 23, 3) := by decide +kernel
theorem dX5_paperDay_74 : decode cX5_paperDay 74 = .ok (.aload_n 0, 1) := by decide +kernel
theorem dX5_paperDay_75 : decode cX5_paperDay 75 = .ok (.getfield 50, 3) := by decide +kernel
theorem dX5_paperDay_78 : decode cX5_paperDay 78 = .ok (.iload 5, 2) := by decide +kernel
theorem dX5_paperDay_80 : decode cX5_paperDay 80 = .ok (.iaload, 1) := by decide +kernel
theorem dX5_paperDay_81 : decode cX5_paperDay 81 = .ok (.iload_n 2, 1) := by decide +kernel
theorem dX5_paperDay_82 : decode cX5_paperDay 82 = .ok (.if_icmp .gt 12, 3) := by decide +kernel
theorem dX5_paperDay_85 : decode cX5_paperDay 85 = .ok (.aload_n 0, 1) := by decide +kernel
theorem dX5_paperDay_86 : decode cX5_paperDay 86 = .ok (.getfield 50, 3) := by decide +kernel
theorem dX5_paperDay_89 : decode cX5_paperDay 89 = .ok (.iload 5, 2) := by decide +kernel
theorem dX5_paperDay_91 : decode cX5_paperDay 91 = .ok (.iaload, 1) := by decide +kernel
theorem dX5_paperDay_92 : decode cX5_paperDay 92 = .ok (.istore 4, 2) := by decide +kernel
theorem dX5_paperDay_94 : decode cX5_paperDay 94 = .ok (.iinc 5 (-1), 3) := by decide +kernel
theorem dX5_paperDay_97 : decode cX5_paperDay 97 = .ok (.goto (-85), 3) := by decide +kernel
theorem dX5_paperDay_100 : decode cX5_paperDay 100 = .ok (.iload 4, 2) := by decide +kernel
theorem dX5_paperDay_102 : decode cX5_paperDay 102 = .ok (.ireturn, 1) := by decide +kernel
theorem dX5_wholeSince_0 : decode cX5_wholeSince 0 = .ok (.aload_n 0, 1) := by decide +kernel
theorem dX5_wholeSince_1 : decode cX5_wholeSince 1 = .ok (.getfield 24, 3) := by decide +kernel
theorem dX5_wholeSince_4 : decode cX5_wholeSince 4 = .ok (.istore_n 3, 1) := by decide +kernel
theorem dX5_wholeSince_5 : decode cX5_wholeSince 5 = .ok (.iconst 0, 1) := by decide +kernel
theorem dX5_wholeSince_6 : decode cX5_wholeSince 6 = .ok (.istore 4, 2) := by decide +kernel
theorem dX5_wholeSince_8 : decode cX5_wholeSince 8 = .ok (.iload 4, 2) := by decide +kernel
theorem dX5_wholeSince_10 : decode cX5_wholeSince 10 = .ok (.bipush 8, 2) := by decide +kernel
theorem dX5_wholeSince_12 : decode cX5_wholeSince 12 = .ok (.if_icmp .ge 51, 3) := by decide +kernel
theorem dX5_wholeSince_15 : decode cX5_wholeSince 15 = .ok (.aload_n 0, 1) := by decide +kernel
theorem dX5_wholeSince_16 : decode cX5_wholeSince 16 = .ok (.getfield 30, 3) := by decide +kernel
theorem dX5_wholeSince_19 : decode cX5_wholeSince 19 = .ok (.iload 4, 2) := by decide +kernel
theorem dX5_wholeSince_21 : decode cX5_wholeSince 21 = .ok (.ishr, 1) := by decide +kernel
theorem dX5_wholeSince_22 : decode cX5_wholeSince 22 = .ok (.iconst 1, 1) := by decide +kernel
theorem dX5_wholeSince_23 : decode cX5_wholeSince 23 = .ok (.iand, 1) := by decide +kernel
theorem dX5_wholeSince_24 : decode cX5_wholeSince 24 = .ok (.ifCond .ne 6, 3) := by decide +kernel
theorem dX5_wholeSince_27 : decode cX5_wholeSince 27 = .ok (.goto 30, 3) := by decide +kernel
theorem dX5_wholeSince_30 : decode cX5_wholeSince 30 = .ok (.aload_n 0, 1) := by decide +kernel
theorem dX5_wholeSince_31 : decode cX5_wholeSince 31 = .ok (.iload 4, 2) := by decide +kernel
theorem dX5_wholeSince_33 : decode cX5_wholeSince 33 = .ok (.iload_n 1, 1) := by decide +kernel
theorem dX5_wholeSince_34 : decode cX5_wholeSince 34 = .ok (.iload_n 2, 1) := by decide +kernel
theorem dX5_wholeSince_35 : decode cX5_wholeSince 35 = .ok (.invokevirtual 66, 3) := by decide +kernel
theorem dX5_wholeSince_38 : decode cX5_wholeSince 38 = .ok (.istore 5, 2) := by decide +kernel
theorem dX5_wholeSince_40 : decode cX5_wholeSince 40 = .ok (.iload 5, 2) := by decide +kernel
theorem dX5_wholeSince_42 : decode cX5_wholeSince 42 = .ok (.bipush (-9), 2) := by decide +kernel
theorem dX5_wholeSince_44 : decode cX5_wholeSince 44 = .ok (.if_icmp .ne 6, 3) := by decide +kernel
theorem dX5_wholeSince_47 : decode cX5_wholeSince 47 = .ok (.bipush (-9), 2) := by decide +kernel
theorem dX5_wholeSince_49 : decode cX5_wholeSince 49 = .ok (.ireturn, 1) := by decide +kernel
theorem dX5_wholeSince_50 : decode cX5_wholeSince 50 = .ok (.iload_n 3, 1) := by decide +kernel
theorem dX5_wholeSince_51 : decode cX5_wholeSince 51 = .ok (.iload 5, 2) := by decide +kernel
theorem dX5_wholeSince_53 : decode cX5_wholeSince 53 = .ok (.invokestatic 70, 3) := by decide +kernel
theorem dX5_wholeSince_56 : decode cX5_wholeSince 56 = .ok (.istore_n 3, 1) := by decide +kernel
theorem dX5_wholeSince_57 : decode cX5_wholeSince 57 = .ok (.iinc 4 1, 3) := by decide +kernel
theorem dX5_wholeSince_60 : decode cX5_wholeSince 60 = .ok (.goto (-52), 3) := by decide +kernel
theorem dX5_wholeSince_63 : decode cX5_wholeSince 63 = .ok (.iload_n 3, 1) := by decide +kernel
theorem dX5_wholeSince_64 : decode cX5_wholeSince 64 = .ok (.ireturn, 1) := by decide +kernel
theorem dX5_lastRuling_0 : decode cX5_lastRuling 0 = .ok (.aload_n 0, 1) := by decide +kernel
theorem dX5_lastRuling_1 : decode cX5_lastRuling 1 = .ok (.getfield 40, 3) := by decide +kernel
theorem dX5_lastRuling_4 : decode cX5_lastRuling 4 = .ok (.iconst 1, 1) := by decide +kernel
theorem dX5_lastRuling_5 : decode cX5_lastRuling 5 = .ok (.isub, 1) := by decide +kernel
theorem dX5_lastRuling_6 : decode cX5_lastRuling 6 = .ok (.istore_n 3, 1) := by decide +kernel
theorem dX5_lastRuling_7 : decode cX5_lastRuling 7 = .ok (.iload_n 3, 1) := by decide +kernel
theorem dX5_lastRuling_8 : decode cX5_lastRuling 8 = .ok (.ifCond .lt 59, 3) := by decide +kernel
theorem dX5_lastRuling_11 : decode cX5_lastRuling 11 = .ok (.aload_n 0, 1) := by decide +kernel
theorem dX5_lastRuling_12 : decode cX5_lastRuling 12 = .ok (.getfield 43, 3) := by decide +kernel
theorem dX5_lastRuling_15 : decode cX5_lastRuling 15 = .ok (.iload_n 3, 1) := by decide +kernel
theorem dX5_lastRuling_16 : decode cX5_lastRuling 16 = .ok (.iaload, 1) := by decide +kernel
theorem dX5_lastRuling_17 : decode cX5_lastRuling 17 = .ok (.iconst 5, 1) := by decide +kernel
theorem dX5_lastRuling_18 : decode cX5_lastRuling 18 = .ok (.if_icmp .ne 16, 3) := by decide +kernel
theorem dX5_lastRuling_21 : decode cX5_lastRuling 21 = .ok (.aload_n 0, 1) := by decide +kernel
theorem dX5_lastRuling_22 : decode cX5_lastRuling 22 = .ok (.getfield 50, 3) := by decide +kernel
theorem dX5_lastRuling_25 : decode cX5_lastRuling 25 = .ok (.iload_n 3, 1) := by decide +kernel
theorem dX5_lastRuling_26 : decode cX5_lastRuling 26 = .ok (.iaload, 1) := by decide +kernel
theorem dX5_lastRuling_27 : decode cX5_lastRuling 27 = .ok (.iload_n 2, 1) := by decide +kernel
theorem dX5_lastRuling_28 : decode cX5_lastRuling 28 = .ok (.if_icmp .gt 6, 3) := by decide +kernel
theorem dX5_lastRuling_31 : decode cX5_lastRuling 31 = .ok (.bipush (-9), 2) := by decide +kernel
theorem dX5_lastRuling_33 : decode cX5_lastRuling 33 = .ok (.ireturn, 1) := by decide +kernel
theorem dX5_lastRuling_34 : decode cX5_lastRuling 34 = .ok (.aload_n 0, 1) := by decide +kernel
theorem dX5_lastRuling_35 : decode cX5_lastRuling 35 = .ok (.getfield 43, 3) := by decide +kernel
theorem dX5_lastRuling_38 : decode cX5_lastRuling 38 = .ok (.iload_n 3, 1) := by decide +kernel
theorem dX5_lastRuling_39 : decode cX5_lastRuling 39 = .ok (.iaload, 1) := by decide +kernel
theorem dX5_lastRuling_40 : decode cX5_lastRuling 40 = .ok (.iconst 4, 1) := by decide +kernel
theorem dX5_lastRuling_41 : decode cX5_lastRuling 41 = .ok (.if_icmp .ne 20, 3) := by decide +kernel
theorem dX5_lastRuling_44 : decode cX5_lastRuling 44 = .ok (.aload_n 0, 1) := by decide +kernel
theorem dX5_lastRuling_45 : decode cX5_lastRuling 45 = .ok (.getfield 50, 3) := by decide +kernel
theorem dX5_lastRuling_48 : decode cX5_lastRuling 48 = .ok (.iload_n 3, 1) := by decide +kernel
theorem dX5_lastRuling_49 : decode cX5_lastRuling 49 = .ok (.iaload, 1) := by decide +kernel
theorem dX5_lastRuling_50 : decode cX5_lastRuling 50 = .ok (.iload_n 1, 1) := by decide +kernel
theorem dX5_lastRuling_51 : decode cX5_lastRuling 51 = .ok (.if_icmp .gt 10, 3) := by decide +kernel
theorem dX5_lastRuling_54 : decode cX5_lastRuling 54 = .ok (.aload_n 0, 1) := by decide +kernel
theorem dX5_lastRuling_55 : decode cX5_lastRuling 55 = .ok (.getfield 47, 3) := by decide +kernel
theorem dX5_lastRuling_58 : decode cX5_lastRuling 58 = .ok (.iload_n 3, 1) := by decide +kernel
theorem dX5_lastRuling_59 : decode cX5_lastRuling 59 = .ok (.iaload, 1) := by decide +kernel
theorem dX5_lastRuling_60 : decode cX5_lastRuling 60 = .ok (.ireturn, 1) := by decide +kernel
theorem dX5_lastRuling_61 : decode cX5_lastRuling 61 = .ok (.iinc 3 (-1), 3) := by decide +kernel
theorem dX5_lastRuling_64 : decode cX5_lastRuling 64 = .ok (.goto (-57), 3) := by decide +kernel
theorem dX5_lastRuling_67 : decode cX5_lastRuling 67 = .ok (.bipush (-9), 2) := by decide +kernel
theorem dX5_lastRuling_69 : decode cX5_lastRuling 69 = .ok (.ireturn, 1) := by decide +kernel
theorem dX5_lastAnswer_0 : decode cX5_lastAnswer 0 = .ok (.aload_n 0, 1) := by decide +kernel
theorem dX5_lastAnswer_1 : decode cX5_lastAnswer 1 = .ok (.getfield 40, 3) := by decide +kernel
theorem dX5_lastAnswer_4 : decode cX5_lastAnswer 4 = .ok (.iconst 1, 1) := by decide +kernel
theorem dX5_lastAnswer_5 : decode cX5_lastAnswer 5 = .ok (.isub, 1) := by decide +kernel
theorem dX5_lastAnswer_6 : decode cX5_lastAnswer 6 = .ok (.istore_n 3, 1) := by decide +kernel
theorem dX5_lastAnswer_7 : decode cX5_lastAnswer 7 = .ok (.iload_n 3, 1) := by decide +kernel
theorem dX5_lastAnswer_8 : decode cX5_lastAnswer 8 = .ok (.ifCond .lt 57, 3) := by decide +kernel
theorem dX5_lastAnswer_11 : decode cX5_lastAnswer 11 = .ok (.aload_n 0, 1) := by decide +kernel
theorem dX5_lastAnswer_12 : decode cX5_lastAnswer 12 = .ok (.getfield 43, 3) := by decide +kernel
theorem dX5_lastAnswer_15 : decode cX5_lastAnswer 15 = .ok (.iload_n 3, 1) := by decide +kernel
theorem dX5_lastAnswer_16 : decode cX5_lastAnswer 16 = .ok (.iaload, 1) := by decide +kernel
theorem dX5_lastAnswer_17 : decode cX5_lastAnswer 17 = .ok (.iconst 3, 1) := by decide +kernel
theorem dX5_lastAnswer_18 : decode cX5_lastAnswer 18 = .ok (.if_icmp .ne 41, 3) := by decide +kernel
theorem dX5_lastAnswer_21 : decode cX5_lastAnswer 21 = .ok (.aload_n 0, 1) := by decide +kernel
theorem dX5_lastAnswer_22 : decode cX5_lastAnswer 22 = .ok (.getfield 50, 3) := by decide +kernel
theorem dX5_lastAnswer_25 : decode cX5_lastAnswer 25 = .ok (.iload_n 3, 1) := by decide +kernel
theorem dX5_lastAnswer_26 : decode cX5_lastAnswer 26 = .ok (.iaload, 1) := by decide +kernel
theorem dX5_lastAnswer_27 : decode cX5_lastAnswer 27 = .ok (.iload_n 1, 1) := by decide +kernel
theorem dX5_lastAnswer_28 : decode cX5_lastAnswer 28 = .ok (.if_icmp .gt 31, 3) := by decide +kernel
theorem dX5_lastAnswer_31 : decode cX5_lastAnswer 31 = .ok (.aload_n 0, 1) := by decide +kernel
theorem dX5_lastAnswer_32 : decode cX5_lastAnswer 32 = .ok (.getfield 57, 3) := by decide +kernel
theorem dX5_lastAnswer_35 : decode cX5_lastAnswer 35 = .ok (.aload_n 0, 1) := by decide +kernel
theorem dX5_lastAnswer_36 : decode cX5_lastAnswer 36 = .ok (.getfield 47, 3) := by decide +kernel
theorem dX5_lastAnswer_39 : decode cX5_lastAnswer 39 = .ok (.iload_n 3, 1) := by decide +kernel
theorem dX5_lastAnswer_40 : decode cX5_lastAnswer 40 = .ok (.iaload, 1) := by decide +kernel
theorem dX5_lastAnswer_41 : decode cX5_lastAnswer 41 = .ok (.iconst 2, 1) := by decide +kernel
theorem dX5_lastAnswer_42 : decode cX5_lastAnswer 42 = .ok (.idiv, 1) := by decide +kernel
theorem dX5_lastAnswer_43 : decode cX5_lastAnswer 43 = .ok (.iload_n 2, 1) := by decide +kernel
theorem dX5_lastAnswer_44 : decode cX5_lastAnswer 44 = .ok (.invokevirtual 76, 3) := by decide +kernel
theorem dX5_lastAnswer_47 : decode cX5_lastAnswer 47 = .ok (.ifCond .ne 12, 3) := by decide +kernel
theorem dX5_lastAnswer_50 : decode cX5_lastAnswer 50 = .ok (.aload_n 0, 1) := by decide +kernel
theorem dX5_lastAnswer_51 : decode cX5_lastAnswer 51 = .ok (.getfield 47, 3) := by decide +kernel
theorem dX5_lastAnswer_54 : decode cX5_lastAnswer 54 = .ok (.iload_n 3, 1) := by decide +kernel
theorem dX5_lastAnswer_55 : decode cX5_lastAnswer 55 = .ok (.iaload, 1) := by decide +kernel
theorem dX5_lastAnswer_56 : decode cX5_lastAnswer 56 = .ok (.iconst 2, 1) := by decide +kernel
theorem dX5_lastAnswer_57 : decode cX5_lastAnswer 57 = .ok (.irem, 1) := by decide +kernel
theorem dX5_lastAnswer_58 : decode cX5_lastAnswer 58 = .ok (.ireturn, 1) := by decide +kernel
theorem dX5_lastAnswer_59 : decode cX5_lastAnswer 59 = .ok (.iinc 3 (-1), 3) := by decide +kernel
theorem dX5_lastAnswer_62 : decode cX5_lastAnswer 62 = .ok (.goto (-55), 3) := by decide +kernel
theorem dX5_lastAnswer_65 : decode cX5_lastAnswer 65 = .ok (.bipush (-9), 2) := by decide +kernel
theorem dX5_lastAnswer_67 : decode cX5_lastAnswer 67 = .ok (.ireturn, 1) := by decide +kernel
theorem dX5_stateOn_0 : decode cX5_stateOn 0 = .ok (.aload_n 0, 1) := by decide +kernel
theorem dX5_stateOn_1 : decode cX5_stateOn 1 = .ok (.iload_n 1, 1) := by decide +kernel
theorem dX5_stateOn_2 : decode cX5_stateOn 2 = .ok (.invokevirtual 82, 3) := by decide +kernel
theorem dX5_stateOn_5 : decode cX5_stateOn 5 = .ok (.ifCond .eq 5, 3) := by decide +kernel
theorem dX5_stateOn_8 : decode cX5_stateOn 8 = .ok (.iconst 1, 1) := by decide +kernel
theorem dX5_stateOn_9 : decode cX5_stateOn 9 = .ok (.ireturn, 1) := by decide +kernel
theorem dX5_stateOn_10 : decode cX5_stateOn 10 = .ok (.aload_n 0, 1) := by decide +kernel
theorem dX5_stateOn_11 : decode cX5_stateOn 11 = .ok (.getfield 27, 3) := by decide +kernel
theorem dX5_stateOn_14 : decode cX5_stateOn 14 = .ok (.ifCond .ne 5, 3) := by decide +kernel
theorem dX5_stateOn_17 : decode cX5_stateOn 17 = .ok (.iconst 0, 1) := by decide +kernel
theorem dX5_stateOn_18 : decode cX5_stateOn 18 = .ok (.ireturn, 1) := by decide +kernel
theorem dX5_stateOn_19 : decode cX5_stateOn 19 = .ok (.aload_n 0, 1) := by decide +kernel
theorem dX5_stateOn_20 : decode cX5_stateOn 20 = .ok (.iload_n 1, 1) := by decide +kernel
theorem dX5_stateOn_21 : decode cX5_stateOn 21 = .ok (.iload_n 2, 1) := by decide +kernel
theorem dX5_stateOn_22 : decode cX5_stateOn 22 = .ok (.invokevirtual 86, 3) := by decide +kernel
theorem dX5_stateOn_25 : decode cX5_stateOn 25 = .ok (.istore_n 3, 1) := by decide +kernel
theorem dX5_stateOn_26 : decode cX5_stateOn 26 = .ok (.iload_n 3, 1) := by decide +kernel
theorem dX5_stateOn_27 : decode cX5_stateOn 27 = .ok (.bipush (-9), 2) := by decide +kernel
theorem dX5_stateOn_29 : decode cX5_stateOn 29 = .ok (.if_icmp .eq 16, 3) := by decide +kernel
theorem dX5_stateOn_32 : decode cX5_stateOn 32 = .ok (.iload_n 3, 1) := by decide +kernel
theorem dX5_stateOn_33 : decode cX5_stateOn 33 = .ok (.iconst 1, 1) := by decide +kernel
theorem dX5_stateOn_34 : decode cX5_stateOn 34 = .ok (.if_icmp .ne 8, 3) := by decide +kernel
theorem dX5_stateOn_37 : decode cX5_stateOn 37 = .ok (.bipush 8, 2) := by decide +kernel
theorem dX5_stateOn_39 : decode cX5_stateOn 39 = .ok (.goto 5, 3) := by decide +kernel
theorem dX5_stateOn_42 : decode cX5_stateOn 42 = .ok (.bipush 9, 2) := by decide +kernel
theorem dX5_stateOn_44 : decode cX5_stateOn 44 = .ok (.ireturn, 1) := by decide +kernel
theorem dX5_stateOn_45 : decode cX5_stateOn 45 = .ok (.aload_n 0, 1) := by decide +kernel
theorem dX5_stateOn_46 : decode cX5_stateOn 46 = .ok (.iload_n 1, 1) := by decide +kernel
theorem dX5_stateOn_47 : decode cX5_stateOn 47 = .ok (.iload_n 2, 1) := by decide +kernel
theorem dX5_stateOn_48 : decode cX5_stateOn 48 = .ok (.invokevirtual 89, 3) := by decide +kernel
theorem dX5_stateOn_51 : decode cX5_stateOn 51 = .ok (.istore 4, 2) := by decide +kernel
theorem dX5_stateOn_53 : decode cX5_stateOn 53 = .ok (.iload 4, 2) := by decide +kernel
theorem dX5_stateOn_55 : decode cX5_stateOn 55 = .ok (.bipush (-9), 2) := by decide +kernel
theorem dX5_stateOn_57 : decode cX5_stateOn 57 = .ok (.if_icmp .eq 15, 3) := by decide +kernel
theorem dX5_stateOn_60 : decode cX5_stateOn 60 = .ok (.iload 4, 2) := by decide +kernel
theorem dX5_stateOn_62 : decode cX5_stateOn 62 = .ok (.iconst 1, 1) := by decide +kernel
theorem dX5_stateOn_63 : decode cX5_stateOn 63 = .ok (.if_icmp .ne 7, 3) := by decide +kernel
theorem dX5_stateOn_66 : decode cX5_stateOn 66 = .ok (.iconst 4, 1) := by decide +kernel
theorem dX5_stateOn_67 : decode cX5_stateOn 67 = .ok (.goto 4, 3) := by decide +kernel
theorem dX5_stateOn_70 : decode cX5_stateOn 70 = .ok (.iconst 5, 1) := by decide +kernel
theorem dX5_stateOn_71 : decode cX5_stateOn 71 = .ok (.ireturn, 1) := by decide +kernel
theorem dX5_stateOn_72 : decode cX5_stateOn 72 = .ok (.aload_n 0, 1) := by decide +kernel
theorem dX5_stateOn_73 : decode cX5_stateOn 73 = .ok (.iload_n 1, 1) := by decide +kernel
theorem dX5_stateOn_74 : decode cX5_stateOn 74 = .ok (.iload_n 2, 1) := by decide +kernel
theorem dX5_stateOn_75 : decode cX5_stateOn 75 = .ok (.invokevirtual 92, 3) := by decide +kernel
theorem dX5_stateOn_78 : decode cX5_stateOn 78 = .ok (.istore 5, 2) := by decide +kernel
theorem dX5_stateOn_80 : decode cX5_stateOn 80 = .ok (.iload 5, 2) := by decide +kernel
theorem dX5_stateOn_82 : decode cX5_stateOn 82 = .ok (.bipush (-9), 2) := by decide +kernel
theorem dX5_stateOn_84 : decode cX5_stateOn 84 = .ok (.if_icmp .ne 5, 3) := by decide +kernel
theorem dX5_stateOn_87 : decode cX5_stateOn 87 = .ok (.iconst 2, 1) := by decide +kernel
theorem dX5_stateOn_88 : decode cX5_stateOn 88 = .ok (.ireturn, 1) := by decide +kernel
theorem dX5_stateOn_89 : decode cX5_stateOn 89 = .ok (.aload_n 0, 1) := by decide +kernel
theorem dX5_stateOn_90 : decode cX5_stateOn 90 = .ok (.getfield 27, 3) := by decide +kernel
theorem dX5_stateOn_93 : decode cX5_stateOn 93 = .ok (.iconst 1, 1) := by decide +kernel
theorem dX5_stateOn_94 : decode cX5_stateOn 94 = .ok (.if_icmp .ne 6, 3) := by decide +kernel
theorem dX5_stateOn_97 : decode cX5_stateOn 97 = .ok (.bipush 6, 2) := by decide +kernel
theorem dX5_stateOn_99 : decode cX5_stateOn 99 = .ok (.ireturn, 1) := by decide +kernel
theorem dX5_stateOn_100 : decode cX5_stateOn 100 = .ok (.aload_n 0, 1) := by decide +kernel
theorem dX5_stateOn_101 : decode cX5_stateOn 101 = .ok (.getfield 53, 3) := by decide +kernel
theorem dX5_stateOn_104 : decode cX5_stateOn 104 = .ok (.iload 5, 2) := by decide +kernel
theorem dX5_stateOn_106 : decode cX5_stateOn 106 = .ok (.iload_n 1, 1) := by decide +kernel
theorem dX5_stateOn_107 : decode cX5_stateOn 107 = .ok (.invokevirtual 95, 3) := by decide +kernel
theorem dX5_stateOn_110 : decode cX5_stateOn 110 = .ok (.aload_n 0, 1) := by decide +kernel
theorem dX5_stateOn_111 : decode cX5_stateOn 111 = .ok (.getfield 33, 3) := by decide +kernel
theorem dX5_stateOn_114 : decode cX5_stateOn 114 = .ok (.if_icmp .gt 5, 3) := by decide +kernel
theorem dX5_stateOn_117 : decode cX5_stateOn 117 = .ok (.iconst 3, 1) := by decide +kernel
theorem dX5_stateOn_118 : decode cX5_stateOn 118 = .ok (.ireturn, 1) := by decide +kernel
theorem dX5_stateOn_119 : decode cX5_stateOn 119 = .ok (.aload_n 0, 1) := by decide +kernel
theorem dX5_stateOn_120 : decode cX5_stateOn 120 = .ok (.getfield 36, 3) := by decide +kernel
theorem dX5_stateOn_123 : decode cX5_stateOn 123 = .ok (.ifCond .eq 8, 3) := by decide +kernel
theorem dX5_stateOn_126 : decode cX5_stateOn 126 = .ok (.bipush 6, 2) := by decide +kernel
theorem dX5_stateOn_128 : decode cX5_stateOn 128 = .ok (.goto 5, 3) := by decide +kernel
theorem dX5_stateOn_131 : decode cX5_stateOn 131 = .ok (.bipush 7, 2) := by decide +kernel
theorem dX5_stateOn_133 : decode cX5_stateOn 133 = .ok (.ireturn, 1) := by decide +kernel
theorem dX5_lets_0 : decode cX5_lets 0 = .ok (.aload_n 0, 1) := by decide +kernel
theorem dX5_lets_1 : decode cX5_lets 1 = .ok (.getfield 27, 3) := by decide +kernel
theorem dX5_lets_4 : decode cX5_lets 4 = .ok (.tableswitch 99 0 3 #[32, 42, 54, 76], 32) := by decide +kernel
theorem dX5_lets_36 : decode cX5_lets 36 = .ok (.iload_n 1, 1) := by decide +kernel
theorem dX5_lets_37 : decode cX5_lets 37 = .ok (.ifCond .ne 7, 3) := by decide +kernel
theorem dX5_lets_40 : decode cX5_lets 40 = .ok (.iconst 1, 1) := by decide +kernel
theorem dX5_lets_41 : decode cX5_lets 41 = .ok (.goto 4, 3) := by decide +kernel
theorem dX5_lets_44 : decode cX5_lets 44 = .ok (.iconst 0, 1) := by decide +kernel
theorem dX5_lets_45 : decode cX5_lets 45 = .ok (.ireturn, 1) := by decide +kernel
theorem dX5_lets_46 : decode cX5_lets 46 = .ok (.iload_n 1, 1) := by decide +kernel
theorem dX5_lets_47 : decode cX5_lets 47 = .ok (.bipush 6, 2) := by decide +kernel
theorem dX5_lets_49 : decode cX5_lets 49 = .ok (.if_icmp .ne 7, 3) := by decide +kernel
theorem dX5_lets_52 : decode cX5_lets 52 = .ok (.iconst 1, 1) := by decide +kernel
theorem dX5_lets_53 : decode cX5_lets 53 = .ok (.goto 4, 3) := by decide +kernel
theorem dX5_lets_56 : decode cX5_lets 56 = .ok (.iconst 0, 1) := by decide +kernel
theorem dX5_lets_57 : decode cX5_lets 57 = .ok (.ireturn, 1) := by decide +kernel
theorem dX5_lets_58 : decode cX5_lets 58 = .ok (.iload_n 1, 1) := by decide +kernel
theorem dX5_lets_59 : decode cX5_lets 59 = .ok (.iconst 4, 1) := by decide +kernel
theorem dX5_lets_60 : decode cX5_lets 60 = .ok (.if_icmp .eq 14, 3) := by decide +kernel
theorem dX5_lets_63 : decode cX5_lets 63 = .ok (.iload_n 1, 1) := by decide +kernel
theorem dX5_lets_64 : decode cX5_lets 64 = .ok (.iconst 5, 1) := by decide +kernel
theorem dX5_lets_65 : decode cX5_lets 65 = .ok (.if_icmp .eq 9, 3) := by decide +kernel
theorem dX5_lets_68 : decode cX5_lets 68 = .ok (.iload_n 1, 1) := by decide +kernel
theorem dX5_lets_69 : decode cX5_lets 69 = .ok (.bipush 6, 2) := by decide +kernel
theorem dX5_lets_71 : decode cX5_lets 71 = .ok (.if_icmp .ne 7, 3) := by decide +kernel
theorem dX5_lets_74 : decode cX5_lets 74 = .ok (.iconst 1, 1) := by decide +kernel
theorem dX5_lets_75 : decode cX5_lets 75 = .ok (.goto 4, 3) := by decide +kernel
theorem dX5_lets_78 : decode cX5_lets 78 = .ok (.iconst 0, 1) := by decide +kernel
theorem dX5_lets_79 : decode cX5_lets 79 = .ok (.ireturn, 1) := by decide +kernel
theorem dX5_lets_80 : decode cX5_lets 80 = .ok (.iload_n 1, 1) := by decide +kernel
theorem dX5_lets_81 : decode cX5_lets 81 = .ok (.iconst 4, 1) := by decide +kernel
theorem dX5_lets_82 : decode cX5_lets 82 = .ok (.if_icmp .eq 15, 3) := by decide +kernel
theorem dX5_lets_85 : decode cX5_lets 85 = .ok (.iload_n 1, 1) := by decide +kernel
theorem dX5_lets_86 : decode cX5_lets 86 = .ok (.bipush 6, 2) := by decide +kernel
theorem dX5_lets_88 : decode cX5_lets 88 = .ok (.if_icmp .eq 9, 3) := by decide +kernel
theorem dX5_lets_91 : decode cX5_lets 91 = .ok (.iload_n 1, 1) := by decide +kernel
theorem dX5_lets_92 : decode cX5_lets 92 = .ok (.bipush 8, 2) := by decide +kernel
theorem dX5_lets_94 : decode cX5_lets 94 = .ok (.if_icmp .ne 7, 3) := by decide +kernel
theorem dX5_lets_97 : decode cX5_lets 97 = .ok (.iconst 1, 1) := by decide +kernel
theorem dX5_lets_98 : decode cX5_lets 98 = .ok (.goto 4, 3) := by decide +kernel
theorem dX5_lets_101 : decode cX5_lets 101 = .ok (.iconst 0, 1) := by decide +kernel
theorem dX5_lets_102 : decode cX5_lets 102 = .ok (.ireturn, 1) := by decide +kernel
theorem dX5_lets_103 : decode cX5_lets 103 = .ok (.iload_n 1, 1) := by decide +kernel
theorem dX5_lets_104 : decode cX5_lets 104 = .ok (.iconst 2, 1) := by decide +kernel
theorem dX5_lets_105 : decode cX5_lets 105 = .ok (.if_icmp .eq 25, 3) := by decide +kernel
theorem dX5_lets_108 : decode cX5_lets 108 = .ok (.iload_n 1, 1) := by decide +kernel
theorem dX5_lets_109 : decode cX5_lets 109 = .ok (.iconst 3, 1) := by decide +kernel
theorem dX5_lets_110 : decode cX5_lets 110 = .ok (.if_icmp .eq 20, 3) := by decide +kernel
theorem dX5_lets_113 : decode cX5_lets 113 = .ok (.iload_n 1, 1) := by decide +kernel
theorem dX5_lets_114 : decode cX5_lets 114 = .ok (.iconst 4, 1) := by decide +kernel
theorem dX5_lets_115 : decode cX5_lets 115 = .ok (.if_icmp .eq 15, 3) := by decide +kernel
theorem dX5_lets_118 : decode cX5_lets 118 = .ok (.iload_n 1, 1) := by decide +kernel
theorem dX5_lets_119 : decode cX5_lets 119 = .ok (.bipush 6, 2) := by decide +kernel
theorem dX5_lets_121 : decode cX5_lets 121 = .ok (.if_icmp .eq 9, 3) := by decide +kernel
theorem dX5_lets_124 : decode cX5_lets 124 = .ok (.iload_n 1, 1) := by decide +kernel
theorem dX5_lets_125 : decode cX5_lets 125 = .ok (.bipush 8, 2) := by decide +kernel
theorem dX5_lets_127 : decode cX5_lets 127 = .ok (.if_icmp .ne 7, 3) := by decide +kernel
theorem dX5_lets_130 : decode cX5_lets 130 = .ok (.iconst 1, 1) := by decide +kernel
theorem dX5_lets_131 : decode cX5_lets 131 = .ok (.goto 4, 3) := by decide +kernel
theorem dX5_lets_134 : decode cX5_lets 134 = .ok (.iconst 0, 1) := by decide +kernel
theorem dX5_lets_135 : decode cX5_lets 135 = .ok (.ireturn, 1) := by decide +kernel
theorem dX5_letsOn_0 : decode cX5_letsOn 0 = .ok (.aload_n 0, 1) := by decide +kernel
theorem dX5_letsOn_1 : decode cX5_letsOn 1 = .ok (.aload_n 0, 1) := by decide +kernel
theorem dX5_letsOn_2 : decode cX5_letsOn 2 = .ok (.iload_n 1, 1) := by decide +kernel
theorem dX5_letsOn_3 : decode cX5_letsOn 3 = .ok (.aload_n 0, 1) := by decide +kernel
theorem dX5_letsOn_4 : decode cX5_letsOn 4 = .ok (.getfield 53, 3) := by decide +kernel
theorem dX5_letsOn_7 : decode cX5_letsOn 7 = .ok (.getfield 61, 3) := by decide +kernel
theorem dX5_letsOn_10 : decode cX5_letsOn 10 = .ok (.invokevirtual 98, 3) := by decide +kernel
theorem dX5_letsOn_13 : decode cX5_letsOn 13 = .ok (.invokevirtual 101, 3) := by decide +kernel
theorem dX5_letsOn_16 : decode cX5_letsOn 16 = .ok (.ireturn, 1) := by decide +kernel
theorem dX5_firstNotLetting_0 : decode cX5_firstNotLetting 0 = .ok (.iload_n 1, 1) := by decide +kernel
theorem dX5_firstNotLetting_1 : decode cX5_firstNotLetting 1 = .ok (.istore_n 3, 1) := by decide +kernel
theorem dX5_firstNotLetting_2 : decode cX5_firstNotLetting 2 = .ok (.iconst 0, 1) := by decide +kernel
theorem dX5_firstNotLetting_3 : decode cX5_firstNotLetting 3 = .ok (.istore 4, 2) := by decide +kernel
theorem dX5_firstNotLetting_5 : decode cX5_firstNotLetting 5 = .ok (.iload 4, 2) := by decide +kernel
theorem dX5_firstNotLetting_7 : decode cX5_firstNotLetting 7 = .ok (.bipush 62, 2) := by decide +kernel
theorem dX5_firstNotLetting_9 : decode cX5_firstNotLetting 9 = .ok (.if_icmp .gt 44, 3) := by decide +kernel
theorem dX5_firstNotLetting_12 : decode cX5_firstNotLetting 12 = .ok (.iload_n 3, 1) := by decide +kernel
theorem dX5_firstNotLetting_13 : decode cX5_firstNotLetting 13 = .ok (.iload_n 2, 1) := by decide +kernel
theorem dX5_firstNotLetting_14 : decode cX5_firstNotLetting 14 = .ok (.if_icmp .le 6, 3) := by decide +kernel
theorem dX5_firstNotLetting_17 : decode cX5_firstNotLetting 17 = .ok (.bipush (-9), 2) := by decide +kernel
theorem dX5_firstNotLetting_19 : decode cX5_firstNotLetting 19 = .ok (.ireturn, 1) := by decide +kernel
theorem dX5_firstNotLetting_20 : decode cX5_firstNotLetting 20 = .ok (.aload_n 0, 1) := by decide +kernel
theorem dX5_firstNotLetting_21 : decode cX5_firstNotLetting 21 = .ok (.aload_n 0, 1) := by decide +kernel
theorem dX5_firstNotLetting_22 : decode cX5_firstNotLetting 22 = .ok (.iload_n 3, 1) := by decide +kernel
theorem dX5_firstNotLetting_23 : decode cX5_firstNotLetting 23 = .ok (.aload_n 0, 1) := by decide +kernel
theorem dX5_firstNotLetting_24 : decode cX5_firstNotLetting 24 = .ok (.getfield 53, 3) := by decide +kernel
theorem dX5_firstNotLetting_27 : decode cX5_firstNotLetting 27 = .ok (.getfield 61, 3) := by decide +kernel
theorem dX5_firstNotLetting_30 : decode cX5_firstNotLetting 30 = .ok (.invokevirtual 98, 3) := by decide +kernel
theorem dX5_firstNotLetting_33 : decode cX5_firstNotLetting 33 = .ok (.invokevirtual 101, 3) := by decide +kernel
theorem dX5_firstNotLetting_36 : decode cX5_firstNotLetting 36 = .ok (.ifCond .ne 5, 3) := by decide +kernel
theorem dX5_firstNotLetting_39 : decode cX5_firstNotLetting 39 = .ok (.iload_n 3, 1) := by decide +kernel
theorem dX5_firstNotLetting_40 : decode cX5_firstNotLetting 40 = .ok (.ireturn, 1) := by decide +kernel
theorem dX5_firstNotLetting_41 : decode cX5_firstNotLetting 41 = .ok (.aload_n 0, 1) := by decide +kernel
theorem dX5_firstNotLetting_42 : decode cX5_firstNotLetting 42 = .ok (.iload_n 3, 1) := by decide +kernel
theorem dX5_firstNotLetting_43 : decode cX5_firstNotLetting 43 = .ok (.invokevirtual 104, 3) := by decide +kernel
theorem dX5_firstNotLetting_46 : decode cX5_firstNotLetting 46 = .ok (.istore_n 3, 1) := by decide +kernel
theorem dX5_firstNotLetting_47 : decode cX5_firstNotLetting 47 = .ok (.iinc 4 1, 3) := by decide +kernel
theorem dX5_firstNotLetting_50 : decode cX5_firstNotLetting 50 = .ok (.goto (-45), 3) := by decide +kernel
theorem dX5_firstNotLetting_53 : decode cX5_firstNotLetting 53 = .ok (.bipush (-9), 2) := by decide +kernel
theorem dX5_firstNotLetting_55 : decode cX5_firstNotLetting 55 = .ok (.ireturn, 1) := by decide +kernel
theorem dX5_nextTurn_0 : decode cX5_nextTurn 0 = .ok (.ldc 108, 2) := by decide +kernel
theorem dX5_nextTurn_2 : decode cX5_nextTurn 2 = .ok (.istore_n 2, 1) := by decide +kernel
theorem dX5_nextTurn_3 : decode cX5_nextTurn 3 = .ok (.iconst 0, 1) := by decide +kernel
theorem dX5_nextTurn_4 : decode cX5_nextTurn 4 = .ok (.istore_n 3, 1) := by decide +kernel
theorem dX5_nextTurn_5 : decode cX5_nextTurn 5 = .ok (.iload_n 3, 1) := by decide +kernel
theorem dX5_nextTurn_6 : decode cX5_nextTurn 6 = .ok (.aload_n 0, 1) := by decide +kernel
theorem dX5_nextTurn_7 : decode cX5_nextTurn 7 = .ok (.getfield 40, 3) := by decide +kernel
theorem dX5_nextTurn_10 : decode cX5_nextTurn 10 = .ok (.if_icmp .ge 30, 3) := by decide +kernel
theorem dX5_nextTurn_13 : decode cX5_nextTurn 13 = .ok (.aload_n 0, 1) := by decide +kernel
theorem dX5_nextTurn_14 : decode cX5_nextTurn 14 = .ok (.getfield 50, 3) := by decide +kernel
theorem dX5_nextTurn_17 : decode cX5_nextTurn 17 = .ok (.iload_n 3, 1) := by decide +kernel
theorem dX5_nextTurn_18 : decode cX5_nextTurn 18 = .ok (.iaload, 1) := by decide +kernel
theorem dX5_nextTurn_19 : decode cX5_nextTurn 19 = .ok (.iload_n 1, 1) := by decide +kernel
theorem dX5_nextTurn_20 : decode cX5_nextTurn 20 = .ok (.if_icmp .le 14, 3) := by decide +kernel
theorem dX5_nextTurn_23 : decode cX5_nextTurn 23 = .ok (.iload_n 2, 1) := by decide +kernel
theorem dX5_nextTurn_24 : decode cX5_nextTurn 24 = .ok (.aload_n 0, 1) := by decide +kernel
theorem dX5_nextTurn_25 : decode cX5_nextTurn 25 = .ok (.getfield 50, 3) := by decide +kernel
theorem dX5_nextTurn_28 : decode cX5_nextTurn 28 = .ok (.iload_n 3, 1) := by decide +kernel
theorem dX5_nextTurn_29 : decode cX5_nextTurn 29 = .ok (.iaload, 1) := by decide +kernel
theorem dX5_nextTurn_30 : decode cX5_nextTurn 30 = .ok (.invokestatic 109, 3) := by decide +kernel
theorem dX5_nextTurn_33 : decode cX5_nextTurn 33 = .ok (.istore_n 2, 1) := by decide +kernel
theorem dX5_nextTurn_34 : decode cX5_nextTurn 34 = .ok (.iinc 3 1, 3) := by decide +kernel
theorem dX5_nextTurn_37 : decode cX5_nextTurn 37 = .ok (.goto (-32), 3) := by decide +kernel
theorem dX5_nextTurn_40 : decode cX5_nextTurn 40 = .ok (.aload_n 0, 1) := by decide +kernel
theorem dX5_nextTurn_41 : decode cX5_nextTurn 41 = .ok (.getfield 53, 3) := by decide +kernel
theorem dX5_nextTurn_44 : decode cX5_nextTurn 44 = .ok (.aload_n 0, 1) := by decide +kernel
theorem dX5_nextTurn_45 : decode cX5_nextTurn 45 = .ok (.iload_n 1, 1) := by decide +kernel
theorem dX5_nextTurn_46 : decode cX5_nextTurn 46 = .ok (.aload_n 0, 1) := by decide +kernel
theorem dX5_nextTurn_47 : decode cX5_nextTurn 47 = .ok (.getfield 53, 3) := by decide +kernel
theorem dX5_nextTurn_50 : decode cX5_nextTurn 50 = .ok (.getfield 61, 3) := by decide +kernel
theorem dX5_nextTurn_53 : decode cX5_nextTurn 53 = .ok (.invokevirtual 92, 3) := by decide +kernel
theorem dX5_nextTurn_56 : decode cX5_nextTurn 56 = .ok (.aload_n 0, 1) := by decide +kernel
theorem dX5_nextTurn_57 : decode cX5_nextTurn 57 = .ok (.getfield 33, 3) := by decide +kernel
theorem dX5_nextTurn_60 : decode cX5_nextTurn 60 = .ok (.invokevirtual 112, 3) := by decide +kernel
theorem dX5_nextTurn_63 : decode cX5_nextTurn 63 = .ok (.istore_n 3, 1) := by decide +kernel
theorem dX5_nextTurn_64 : decode cX5_nextTurn 64 = .ok (.iload_n 3, 1) := by decide +kernel
theorem dX5_nextTurn_65 : decode cX5_nextTurn 65 = .ok (.iload_n 1, 1) := by decide +kernel
theorem dX5_nextTurn_66 : decode cX5_nextTurn 66 = .ok (.if_icmp .le 11, 3) := by decide +kernel
theorem dX5_nextTurn_69 : decode cX5_nextTurn 69 = .ok (.iload_n 2, 1) := by decide +kernel
theorem dX5_nextTurn_70 : decode cX5_nextTurn 70 = .ok (.iload_n 3, 1) := by decide +kernel
theorem dX5_nextTurn_71 : decode cX5_nextTurn 71 = .ok (.invokestatic 109, 3) := by decide +kernel
theorem dX5_nextTurn_74 : decode cX5_nextTurn 74 = .ok (.goto 4, 3) := by decide +kernel
theorem dX5_nextTurn_77 : decode cX5_nextTurn 77 = .ok (.iload_n 2, 1) := by decide +kernel
theorem dX5_nextTurn_78 : decode cX5_nextTurn 78 = .ok (.ireturn, 1) := by decide +kernel
theorem dX6_init_0 : decode cX6_init 0 = .ok (.aload_n 0, 1) := by decide +kernel
theorem dX6_init_1 : decode cX6_init 1 = .ok (.invokespecial 3, 3) := by decide +kernel
theorem dX6_init_4 : decode cX6_init 4 = .ok (.aload_n 0, 1) := by decide +kernel
theorem dX6_init_5 : decode cX6_init 5 = .ok (.iconst 0, 1) := by decide +kernel
theorem dX6_init_6 : decode cX6_init 6 = .ok (.putfield 9, 3) := by decide +kernel
theorem dX6_init_9 : decode cX6_init 9 = .ok (.aload_n 0, 1) := by decide +kernel
theorem dX6_init_10 : decode cX6_init 10 = .ok (.bipush 7, 2) := by decide +kernel
theorem dX6_init_12 : decode cX6_init 12 = .ok (.newarray .int, 2) := by decide +kernel
theorem dX6_init_14 : decode cX6_init 14 = .ok (.putfield 15, 3) := by decide +kernel
theorem dX6_init_17 : decode cX6_init 17 = .ok (.aload_n 0, 1) := by decide +kernel
theorem dX6_init_18 : decode cX6_init 18 = .ok (.bipush 7, 2) := by decide +kernel
theorem dX6_init_20 : decode cX6_init 20 = .ok (.newarray .int, 2) := by decide +kernel
theorem dX6_init_22 : decode cX6_init 22 = .ok (.putfield 19, 3) := by decide +kernel
theorem dX6_init_25 : decode cX6_init 25 = .ok (.aload_n 0, 1) := by decide +kernel
theorem dX6_init_26 : decode cX6_init 26 = .ok (.bipush 7, 2) := by decide +kernel
theorem dX6_init_28 : decode cX6_init 28 = .ok (.newarray .int, 2) := by decide +kernel
theorem dX6_init_30 : decode cX6_init 30 = .ok (.putfield 22, 3) := by decide +kernel
theorem dX6_init_33 : decode cX6_init 33 = .ok (.aload_n 0, 1) := by decide +kernel
theorem dX6_init_34 : decode cX6_init 34 = .ok (.bipush 7, 2) := by decide +kernel
theorem dX6_init_36 : decode cX6_init 36 = .ok (.newarray .int, 2) := by decide +kernel
theorem dX6_init_38 : decode cX6_init 38 = .ok (.putfield 25, 3) := by decide +kernel
theorem dX6_init_41 : decode cX6_init 41 = .ok (.aload_n 0, 1) := by decide +kernel
theorem dX6_init_42 : decode cX6_init 42 = .ok (.bipush 7, 2) := by decide +kernel
theorem dX6_init_44 : decode cX6_init 44 = .ok (.newarray .int, 2) := by decide +kernel
theorem dX6_init_46 : decode cX6_init 46 = .ok (.putfield 28, 3) := by decide +kernel
theorem dX6_init_49 : decode cX6_init 49 = .ok (.aload_n 0, 1) := by decide +kernel
theorem dX6_init_50 : decode cX6_init 50 = .ok (.bipush 7, 2) := by decide +kernel
theorem dX6_init_52 : decode cX6_init 52 = .ok (.newarray .int, 2) := by decide +kernel
theorem dX6_init_54 : decode cX6_init 54 = .ok (.putfield 31, 3) := by decide +kernel
theorem dX6_init_57 : decode cX6_init 57 = .ok (.aload_n 0, 1) := by decide +kernel
theorem dX6_init_58 : decode cX6_init 58 = .ok (.bipush (-9), 2) := by decide +kernel
theorem dX6_init_60 : decode cX6_init 60 = .ok (.putfield 34, 3) := by decide +kernel
theorem dX6_init_63 : decode cX6_init 63 = .ok (.aload_n 0, 1) := by decide +kernel
theorem dX6_init_64 : decode cX6_init 64 = .ok (.bipush (-9), 2) := by decide +kernel
theorem dX6_init_66 : decode cX6_init 66 = .ok (.putfield 37, 3) := by decide +kernel
theorem dX6_init_69 : decode cX6_init 69 = .ok (.return_, 1) := by decide +kernel
theorem dX7_init_0 : decode cX7_init 0 = .ok (.aload_n 0, 1) := by decide +kernel
theorem dX7_init_1 : decode cX7_init 1 = .ok (.invokespecial 3, 3) := by decide +kernel
theorem dX7_init_4 : decode cX7_init 4 = .ok (.aload_n 0, 1) := by decide +kernel
theorem dX7_init_5 : decode cX7_init 5 = .ok (.bipush 6, 2) := by decide +kernel
theorem dX7_init_7 : decode cX7_init 7 = .ok (.newarray .int, 2) := by decide +kernel
theorem dX7_init_9 : decode cX7_init 9 = .ok (.putfield 9, 3) := by decide +kernel
theorem dX7_init_12 : decode cX7_init 12 = .ok (.aload_n 0, 1) := by decide +kernel
theorem dX7_init_13 : decode cX7_init 13 = .ok (.bipush 60, 2) := by decide +kernel
theorem dX7_init_15 : decode cX7_init 15 = .ok (.newarray .byte, 2) := by decide +kernel
theorem dX7_init_17 : decode cX7_init 17 = .ok (.putfield 15, 3) := by decide +kernel
theorem dX7_init_20 : decode cX7_init 20 = .ok (.aload_n 0, 1) := by decide +kernel
theorem dX7_init_21 : decode cX7_init 21 = .ok (.iconst 0, 1) := by decide +kernel
theorem dX7_init_22 : decode cX7_init 22 = .ok (.putfield 19, 3) := by decide +kernel
theorem dX7_init_25 : decode cX7_init 25 = .ok (.aload_n 0, 1) := by decide +kernel
theorem dX7_init_26 : decode cX7_init 26 = .ok (.iconst 0, 1) := by decide +kernel
theorem dX7_init_27 : decode cX7_init 27 = .ok (.putfield 23, 3) := by decide +kernel
theorem dX7_init_30 : decode cX7_init 30 = .ok (.aload_n 0, 1) := by decide +kernel
theorem dX7_init_31 : decode cX7_init 31 = .ok (.bipush (-9), 2) := by decide +kernel
theorem dX7_init_33 : decode cX7_init 33 = .ok (.putfield 26, 3) := by decide +kernel
theorem dX7_init_36 : decode cX7_init 36 = .ok (.aload_n 0, 1) := by decide +kernel
theorem dX7_init_37 : decode cX7_init 37 = .ok (.iconst 0, 1) := by decide +kernel
theorem dX7_init_38 : decode cX7_init 38 = .ok (.putfield 29, 3) := by decide +kernel
theorem dX7_init_41 : decode cX7_init 41 = .ok (.aload_n 0, 1) := by decide +kernel
theorem dX7_init_42 : decode cX7_init 42 = .ok (.iconst 0, 1) := by decide +kernel
theorem dX7_init_43 : decode cX7_init 43 = .ok (.putfield 32, 3) := by decide +kernel
theorem dX7_init_46 : decode cX7_init 46 = .ok (.aload_n 0, 1) := by decide +kernel
theorem dX7_init_47 : decode cX7_init 47 = .ok (.bipush 6, 2) := by decide +kernel
theorem dX7_init_49 : decode cX7_init 49 = .ok (.newarray .boolean, 2) := by decide +kernel
theorem dX7_init_51 : decode cX7_init 51 = .ok (.putfield 35, 3) := by decide +kernel
theorem dX7_init_54 : decode cX7_init 54 = .ok (.aload_n 0, 1) := by decide +kernel
theorem dX7_init_55 : decode cX7_init 55 = .ok (.bipush 6, 2) := by decide +kernel
theorem dX7_init_57 : decode cX7_init 57 = .ok (.newarray .boolean, 2) := by decide +kernel
theorem dX7_init_59 : decode cX7_init 59 = .ok (.putfield 39, 3) := by decide +kernel
theorem dX7_init_62 : decode cX7_init 62 = .ok (.aload_n 0, 1) := by decide +kernel
theorem dX7_init_63 : decode cX7_init 63 = .ok (.bipush 6, 2) := by decide +kernel
theorem dX7_init_65 : decode cX7_init 65 = .ok (.newarray .int, 2) := by decide +kernel
theorem dX7_init_67 : decode cX7_init 67 = .ok (.putfield 42, 3) := by decide +kernel
theorem dX7_init_70 : decode cX7_init 70 = .ok (.return_, 1) := by decide +kernel
theorem dX7_faultOf_0 : decode cX7_faultOf 0 = .ok (.aload_n 0, 1) := by decide +kernel
theorem dX7_faultOf_1 : decode cX7_faultOf 1 = .ok (.aload_n 1, 1) := by decide +kernel
theorem dX7_faultOf_2 : decode cX7_faultOf 2 = .ok (.iload_n 2, 1) := by decide +kernel
theorem dX7_faultOf_3 : decode cX7_faultOf 3 = .ok (.iconst 0, 1) := by decide +kernel
theorem dX7_faultOf_4 : decode cX7_faultOf 4 = .ok (.invokevirtual 45, 3) := by decide +kernel
theorem dX7_faultOf_7 : decode cX7_faultOf 7 = .ok (.aload_n 0, 1) := by decide +kernel
theorem dX7_faultOf_8 : decode cX7_faultOf 8 = .ok (.bipush 65, 2) := by decide +kernel
theorem dX7_faultOf_10 : decode cX7_faultOf 10 = .ok (.bipush 72, 2) := by decide +kernel
theorem dX7_faultOf_12 : decode cX7_faultOf 12 = .ok (.invokevirtual 49, 3) := by decide +kernel
theorem dX7_faultOf_15 : decode cX7_faultOf 15 = .ok (.aload_n 0, 1) := by decide +kernel
theorem dX7_faultOf_16 : decode cX7_faultOf 16 = .ok (.bipush 48, 2) := by decide +kernel
theorem dX7_faultOf_18 : decode cX7_faultOf 18 = .ok (.bipush 52, 2) := by decide +kernel
theorem dX7_faultOf_20 : decode cX7_faultOf 20 = .ok (.invokevirtual 49, 3) := by decide +kernel
theorem dX7_faultOf_23 : decode cX7_faultOf 23 = .ok (.aload_n 0, 1) := by decide +kernel
theorem dX7_faultOf_24 : decode cX7_faultOf 24 = .ok (.bipush 58, 2) := by decide +kernel
theorem dX7_faultOf_26 : decode cX7_faultOf 26 = .ok (.bipush 58, 2) := by decide +kernel
theorem dX7_faultOf_28 : decode cX7_faultOf 28 = .ok (.invokevirtual 49, 3) := by decide +kernel
theorem dX7_faultOf_31 : decode cX7_faultOf 31 = .ok (.aload_n 0, 1) := by decide +kernel
theorem dX7_faultOf_32 : decode cX7_faultOf 32 = .ok (.invokevirtual 53, 3) := by decide +kernel
theorem dX7_faultOf_35 : decode cX7_faultOf 35 = .ok (.pop, 1) := by decide +kernel
theorem dX7_faultOf_36 : decode cX7_faultOf 36 = .ok (.aload_n 0, 1) := by decide +kernel
theorem dX7_faultOf_37 : decode cX7_faultOf 37 = .ok (.getfield 23, 3) := by decide +kernel
theorem dX7_faultOf_40 : decode cX7_faultOf 40 = .ok (.aload_n 0, 1) := by decide +kernel
theorem dX7_faultOf_41 : decode cX7_faultOf 41 = .ok (.getfield 19, 3) := by decide +kernel
theorem dX7_faultOf_44 : decode cX7_faultOf 44 = .ok (.if_icmp .ge 7, 3) := by decide +kernel
theorem dX7_faultOf_47 : decode cX7_faultOf 47 = .ok (.aload_n 0, 1) := by decide +kernel
theorem dX7_faultOf_48 : decode cX7_faultOf 48 = .ok (.invokevirtual 57, 3) := by decide +kernel
theorem dX7_faultOf_51 : decode cX7_faultOf 51 = .ok (.aload_n 0, 1) := by decide +kernel
theorem dX7_faultOf_52 : decode cX7_faultOf 52 = .ok (.getfield 26, 3) := by decide +kernel
theorem dX7_faultOf_55 : decode cX7_faultOf 55 = .ok (.ireturn, 1) := by decide +kernel
theorem dX7_holds_0 : decode cX7_holds 0 = .ok (.aload_n 0, 1) := by decide +kernel
theorem dX7_holds_1 : decode cX7_holds 1 = .ok (.aload_n 1, 1) := by decide +kernel
theorem dX7_holds_2 : decode cX7_holds 2 = .ok (.iload_n 2, 1) := by decide +kernel
theorem dX7_holds_3 : decode cX7_holds 3 = .ok (.iconst 3, 1) := by decide +kernel
theorem dX7_holds_4 : decode cX7_holds 4 = .ok (.invokevirtual 45, 3) := by decide +kernel
theorem dX7_holds_7 : decode cX7_holds 7 = .ok (.aload_n 0, 1) := by decide +kernel
theorem dX7_holds_8 : decode cX7_holds 8 = .ok (.invokevirtual 53, 3) := by decide +kernel
theorem dX7_holds_11 : decode cX7_holds 11 = .ok (.ireturn, 1) := by decide +kernel
theorem dX7_begin_0 : decode cX7_begin 0 = .ok (.aload_n 0, 1) := by decide +kernel
theorem dX7_begin_1 : decode cX7_begin 1 = .ok (.aload_n 1, 1) := by decide +kernel
theorem dX7_begin_2 : decode cX7_begin 2 = .ok (.putfield 15, 3) := by decide +kernel
theorem dX7_begin_5 : decode cX7_begin 5 = .ok (.aload_n 0, 1) := by decide +kernel
theorem dX7_begin_6 : decode cX7_begin 6 = .ok (.iload_n 2, 1) := by decide +kernel
theorem dX7_begin_7 : decode cX7_begin 7 = .ok (.aload_n 1, 1) := by decide +kernel
theorem dX7_begin_8 : decode cX7_begin 8 = .ok (.arraylength, 1) := by decide +kernel
theorem dX7_begin_9 : decode cX7_begin 9 = .ok (.invokestatic 60, 3) := by decide +kernel
theorem dX7_begin_12 : decode cX7_begin 12 = .ok (.putfield 19, 3) := by decide +kernel
theorem dX7_begin_15 : decode cX7_begin 15 = .ok (.aload_n 0, 1) := by decide +kernel
theorem dX7_begin_16 : decode cX7_begin 16 = .ok (.iload_n 3, 1) := by decide +kernel
theorem dX7_begin_17 : decode cX7_begin 17 = .ok (.putfield 23, 3) := by decide +kernel
theorem dX7_begin_20 : decode cX7_begin 20 = .ok (.aload_n 0, 1) := by decide +kernel
theorem dX7_begin_21 : decode cX7_begin 21 = .ok (.bipush (-9), 2) := by decide +kernel
theorem dX7_begin_23 : decode cX7_begin 23 = .ok (.putfield 26, 3) := by decide +kernel
theorem dX7_begin_26 : decode cX7_begin 26 = .ok (.aload_n 0, 1) := by decide +kernel
theorem dX7_begin_27 : decode cX7_begin 27 = .ok (.iconst 0, 1) := by decide +kernel
theorem dX7_begin_28 : decode cX7_begin 28 = .ok (.putfield 29, 3) := by decide +kernel
theorem dX7_begin_31 : decode cX7_begin 31 = .ok (.aload_n 0, 1) := by decide +kernel
theorem dX7_begin_32 : decode cX7_begin 32 = .ok (.iconst 0, 1) := by decide +kernel
theorem dX7_begin_33 : decode cX7_begin 33 = .ok (.invokevirtual 66, 3) := by decide +kernel
theorem dX7_begin_36 : decode cX7_begin 36 = .ok (.return_, 1) := by decide +kernel
theorem dX7_openLevel_0 : decode cX7_openLevel 0 = .ok (.aload_n 0, 1) := by decide +kernel
theorem dX7_openLevel_1 : decode cX7_openLevel 1 = .ok (.iload_n 1, 1) := by decide +kernel
theorem dX7_openLevel_2 : decode cX7_openLevel 2 = .ok (.putfield 32, 3) := by decide +kernel
theorem dX7_openLevel_5 : decode cX7_openLevel 5 = .ok (.aload_n 0, 1) := by decide +kernel
theorem dX7_openLevel_6 : decode cX7_openLevel 6 = .ok (.getfield 35, 3) := by decide +kernel
theorem dX7_openLevel_9 : decode cX7_openLevel 9 = .ok (.aload_n 0, 1) := by decide +kernel
theorem dX7_openLevel_10 : decode cX7_openLevel 10 = .ok (.getfield 32, 3) := by decide +kernel
theorem dX7_openLevel_13 : decode cX7_openLevel 13 = .ok (.iconst 0, 1) := by decide +kernel
theorem dX7_openLevel_14 : decode cX7_openLevel 14 = .ok (.bastore, 1) := by decide +kernel
theorem dX7_openLevel_15 : decode cX7_openLevel 15 = .ok (.aload_n 0, 1) := by decide +kernel
theorem dX7_openLevel_16 : decode cX7_openLevel 16 = .ok (.getfield 39, 3) := by decide +kernel
theorem dX7_openLevel_19 : decode cX7_openLevel 19 = .ok (.aload_n 0, 1) := by decide +kernel
theorem dX7_openLevel_20 : decode cX7_openLevel 20 = .ok (.getfield 32, 3) := by decide +kernel
theorem dX7_openLevel_23 : decode cX7_openLevel 23 = .ok (.iconst 1, 1) := by decide +kernel
theorem dX7_openLevel_24 : decode cX7_openLevel 24 = .ok (.bastore, 1) := by decide +kernel
theorem dX7_openLevel_25 : decode cX7_openLevel 25 = .ok (.aload_n 0, 1) := by decide +kernel
theorem dX7_openLevel_26 : decode cX7_openLevel 26 = .ok (.getfield 42, 3) := by decide +kernel
theorem dX7_openLevel_29 : decode cX7_openLevel 29 = .ok (.aload_n 0, 1) := by decide +kernel
theorem dX7_openLevel_30 : decode cX7_openLevel 30 = .ok (.getfield 32, 3) := by decide +kernel
theorem dX7_openLevel_33 : decode cX7_openLevel 33 = .ok (.iconst 0, 1) := by decide +kernel
theorem dX7_openLevel_34 : decode cX7_openLevel 34 = .ok (.iastore, 1) := by decide +kernel
theorem dX7_openLevel_35 : decode cX7_openLevel 35 = .ok (.return_, 1) := by decide +kernel
theorem dX7_sign_0 : decode cX7_sign 0 = .ok (.aload_n 0, 1) := by decide +kernel
theorem dX7_sign_1 : decode cX7_sign 1 = .ok (.getfield 26, 3) := by decide +kernel
theorem dX7_sign_4 : decode cX7_sign 4 = .ok (.bipush (-9), 2) := by decide +kernel
theorem dX7_sign_6 : decode cX7_sign 6 = .ok (.if_icmp .ne 14, 3) := by decide +kernel
theorem dX7_sign_9 : decode cX7_sign 9 = .ok (.aload_n 0, 1) := by decide +kernel
theorem dX7_sign_10 : decode cX7_sign 10 = .ok (.getfield 23, 3) := by decide +kernel
theorem dX7_sign_13 : decode cX7_sign 13 = .ok (.aload_n 0, 1) := by decide +kernel
theorem dX7_sign_14 : decode cX7_sign 14 = .ok (.getfield 19, 3) := by decide +kernel
theorem dX7_sign_17 : decode cX7_sign 17 = .ok (.if_icmp .lt 7, 3) := by decide +kernel
theorem dX7_sign_20 : decode cX7_sign 20 = .ok (.iconst (-1), 1) := by decide +kernel
theorem dX7_sign_21 : decode cX7_sign 21 = .ok (.goto 16, 3) := by decide +kernel
theorem dX7_sign_24 : decode cX7_sign 24 = .ok (.aload_n 0, 1) := by decide +kernel
theorem dX7_sign_25 : decode cX7_sign 25 = .ok (.getfield 15, 3) := by decide +kernel
theorem dX7_sign_28 : decode cX7_sign 28 = .ok (.aload_n 0, 1) := by decide +kernel
theorem dX7_sign_29 : decode cX7_sign 29 = .ok (.getfield 23, 3) := by decide +kernel
theorem dX7_sign_32 : decode cX7_sign 32 = .ok (.baload, 1) := by decide +kernel
theorem dX7_sign_33 : decode cX7_sign 33 = .ok (.sipush 255, 3) := by decide +kernel
theorem dX7_sign_36 : decode cX7_sign 36 = .ok (.iand, 1) := by decide +kernel
theorem dX7_sign_37 : decode cX7_sign 37 = .ok (.ireturn, 1) := by decide +kernel
theorem dX7_fail_0 : decode cX7_fail 0 = .ok (.aload_n 0, 1) := by decide +kernel
theorem dX7_fail_1 : decode cX7_fail 1 = .ok (.getfield 26, 3) := by decide +kernel
theorem dX7_fail_4 : decode cX7_fail 4 = .ok (.bipush (-9), 2) := by decide +kernel
theorem dX7_fail_6 : decode cX7_fail 6 = .ok (.if_icmp .ne 11, 3) := by decide +kernel
theorem dX7_fail_9 : decode cX7_fail 9 = .ok (.aload_n 0, 1) := by decide +kernel
theorem dX7_fail_10 : decode cX7_fail 10 = .ok (.aload_n 0, 1) := by decide +kernel
theorem dX7_fail_11 : decode cX7_fail 11 = .ok (.getfield 23, 3) := by decide +kernel
theorem dX7_fail_14 : decode cX7_fail 14 = .ok (.putfield 26, 3) := by decide +kernel
theorem dX7_fail_17 : decode cX7_fail 17 = .ok (.return_, 1) := by decide +kernel
theorem dX7_expect_0 : decode cX7_expect 0 = .ok (.aload_n 0, 1) := by decide +kernel
theorem dX7_expect_1 : decode cX7_expect 1 = .ok (.invokevirtual 70, 3) := by decide +kernel
theorem dX7_expect_4 : decode cX7_expect 4 = .ok (.istore_n 3, 1) := by decide +kernel
theorem dX7_expect_5 : decode cX7_expect 5 = .ok (.iload_n 3, 1) := by decide +kernel
theorem dX7_expect_6 : decode cX7_expect 6 = .ok (.iload_n 1, 1) := by decide +kernel
theorem dX7_expect_7 : decode cX7_expect 7 = .ok (.if_icmp .lt 8, 3) := by decide +kernel
theorem dX7_expect_10 : decode cX7_expect 10 = .ok (.iload_n 3, 1) := by decide +kernel
theorem dX7_expect_11 : decode cX7_expect 11 = .ok (.iload_n 2, 1) := by decide +kernel
theorem dX7_expect_12 : decode cX7_expect 12 = .ok (.if_icmp .le 10, 3) := by decide +kernel
theorem dX7_expect_15 : decode cX7_expect 15 = .ok (.aload_n 0, 1) := by decide +kernel
theorem dX7_expect_16 : decode cX7_expect 16 = .ok (.invokevirtual 57, 3) := by decide +kernel
theorem dX7_expect_19 : decode cX7_expect 19 = .ok (.goto 13, 3) := by decide +kernel
theorem dX7_expect_22 : decode cX7_expect 22 = .ok (.aload_n 0, 1) := by decide +kernel
theorem dX7_expect_23 : decode cX7_expect 23 = .ok (.dup, 1) := by decide +kernel
theorem dX7_expect_24 : decode cX7_expect 24 = .ok (.getfield 23, 3) := by decide +kernel
theorem dX7_expect_27 : decode cX7_expect 27 = .ok (.iconst 1, 1) := by decide +kernel
theorem dX7_expect_28 : decode cX7_expect 28 = .ok (.iadd, 1) := by decide +kernel
theorem dX7_expect_29 : decode cX7_expect 29 = .ok (.putfield 23, 3) := by decide +kernel
theorem dX7_expect_32 : decode cX7_expect 32 = .ok (.return_, 1) := by decide +kernel
theorem dX7_ruleHolds_0 : decode cX7_ruleHolds 0 = .ok (.iconst 1, 1) := by decide +kernel
theorem dX7_ruleHolds_1 : decode cX7_ruleHolds 1 = .ok (.istore_n 1, 1) := by decide +kernel
theorem dX7_ruleHolds_2 : decode cX7_ruleHolds 2 = .ok (.iconst 0, 1) := by decide +kernel
theorem dX7_ruleHolds_3 : decode cX7_ruleHolds 3 = .ok (.istore_n 2, 1) := by decide +kernel
theorem dX7_ruleHolds_4 : decode cX7_ruleHolds 4 = .ok (.iload_n 2, 1) := by decide +kernel
theorem dX7_ruleHolds_5 : decode cX7_ruleHolds 5 = .ok (.bipush 60, 2) := by decide +kernel
theorem dX7_ruleHolds_7 : decode cX7_ruleHolds 7 = .ok (.if_icmp .gt 34, 3) := by decide +kernel
theorem dX7_ruleHolds_10 : decode cX7_ruleHolds 10 = .ok (.iload_n 1, 1) := by decide +kernel
theorem dX7_ruleHolds_11 : decode cX7_ruleHolds 11 = .ok (.ifCond .eq 30, 3) := by decide +kernel
theorem dX7_ruleHolds_14 : decode cX7_ruleHolds 14 = .ok (.aload_n 0, 1) := by decide +kernel
theorem dX7_ruleHolds_15 : decode cX7_ruleHolds 15 = .ok (.invokevirtual 74, 3) := by decide +kernel
theorem dX7_ruleHolds_18 : decode cX7_ruleHolds 18 = .ok (.aload_n 0, 1) := by decide +kernel
theorem dX7_ruleHolds_19 : decode cX7_ruleHolds 19 = .ok (.aload_n 0, 1) := by decide +kernel
theorem dX7_ruleHolds_20 : decode cX7_ruleHolds 20 = .ok (.invokevirtual 77, 3) := by decide +kernel
theorem dX7_ruleHolds_23 : decode cX7_ruleHolds 23 = .ok (.invokevirtual 80, 3) := by decide +kernel
theorem dX7_ruleHolds_26 : decode cX7_ruleHolds 26 = .ok (.aload_n 0, 1) := by decide +kernel
theorem dX7_ruleHolds_27 : decode cX7_ruleHolds 27 = .ok (.invokevirtual 84, 3) := by decide +kernel
theorem dX7_ruleHolds_30 : decode cX7_ruleHolds 30 = .ok (.aload_n 0, 1) := by decide +kernel
theorem dX7_ruleHolds_31 : decode cX7_ruleHolds 31 = .ok (.invokevirtual 87, 3) := by decide +kernel
theorem dX7_ruleHolds_34 : decode cX7_ruleHolds 34 = .ok (.istore_n 1, 1) := by decide +kernel
theorem dX7_ruleHolds_35 : decode cX7_ruleHolds 35 = .ok (.iinc 2 1, 3) := by decide +kernel
theorem dX7_ruleHolds_38 : decode cX7_ruleHolds 38 = .ok (.goto (-34), 3) := by decide +kernel
theorem dX7_ruleHolds_41 : decode cX7_ruleHolds 41 = .ok (.aload_n 0, 1) := by decide +kernel
theorem dX7_ruleHolds_42 : decode cX7_ruleHolds 42 = .ok (.getfield 32, 3) := by decide +kernel
theorem dX7_ruleHolds_45 : decode cX7_ruleHolds 45 = .ok (.ifCond .le 7, 3) := by decide +kernel
theorem dX7_ruleHolds_48 : decode cX7_ruleHolds 48 = .ok (.aload_n 0, 1) := by decide +kernel
theorem dX7_ruleHolds_49 : decode cX7_ruleHolds 49 = .ok (.invokevirtual 57, 3) := by decide +kernel
theorem dX7_ruleHolds_52 : decode cX7_ruleHolds 52 = .ok (.aload_n 0, 1) := by decide +kernel
theorem dX7_ruleHolds_53 : decode cX7_ruleHolds 53 = .ok (.getfield 35, 3) := by decide +kernel
theorem dX7_ruleHolds_56 : decode cX7_ruleHolds 56 = .ok (.iconst 0, 1) := by decide +kernel
theorem dX7_ruleHolds_57 : decode cX7_ruleHolds 57 = .ok (.baload, 1) := by decide +kernel
theorem dX7_ruleHolds_58 : decode cX7_ruleHolds 58 = .ok (.ifCond .ne 12, 3) := by decide +kernel
theorem dX7_ruleHolds_61 : decode cX7_ruleHolds 61 = .ok (.aload_n 0, 1) := by decide +kernel
theorem dX7_ruleHolds_62 : decode cX7_ruleHolds 62 = .ok (.getfield 39, 3) := by decide +kernel
theorem dX7_ruleHolds_65 : decode cX7_ruleHolds 65 = .ok (.iconst 0, 1) := by decide +kernel
theorem dX7_ruleHolds_66 : decode cX7_ruleHolds 66 = .ok (.baload, 1) := by decide +kernel
theorem dX7_ruleHolds_67 : decode cX7_ruleHolds 67 = .ok (.ifCond .eq 7, 3) := by decide +kernel
theorem dX7_ruleHolds_70 : decode cX7_ruleHolds 70 = .ok (.iconst 1, 1) := by decide +kernel
theorem dX7_ruleHolds_71 : decode cX7_ruleHolds 71 = .ok (.goto 4, 3) := by decide +kernel
theorem dX7_ruleHolds_74 : decode cX7_ruleHolds 74 = .ok (.iconst 0, 1) := by decide +kernel
theorem dX7_ruleHolds_75 : decode cX7_ruleHolds 75 = .ok (.ireturn, 1) := by decide +kernel
theorem dX7_readOpenings_0 : decode cX7_readOpenings 0 = .ok (.iconst 0, 1) := by decide +kernel
theorem dX7_readOpenings_1 : decode cX7_readOpenings 1 = .ok (.istore_n 1, 1) := by decide +kernel
theorem dX7_readOpenings_2 : decode cX7_readOpenings 2 = .ok (.iload_n 1, 1) := by decide +kernel
theorem dX7_readOpenings_3 : decode cX7_readOpenings 3 = .ok (.iconst 5, 1) := by decide +kernel
theorem dX7_readOpenings_4 : decode cX7_readOpenings 4 = .ok (.if_icmp .gt 92, 3) := by decide +kernel
theorem dX7_readOpenings_7 : decode cX7_readOpenings 7 = .ok (.aload_n 0, 1) := by decide +kernel
theorem dX7_readOpenings_8 : decode cX7_readOpenings 8 = .ok (.invokevirtual 70, 3) := by decide +kernel
theorem dX7_readOpenings_11 : decode cX7_readOpenings 11 = .ok (.istore_n 2, 1) := by decide +kernel
theorem dX7_readOpenings_12 : decode cX7_readOpenings 12 = .ok (.iload_n 2, 1) := by decide +kernel
theorem dX7_readOpenings_13 : decode cX7_readOpenings 13 = .ok (.bipush 33, 2) := by decide +kernel
theorem dX7_readOpenings_15 : decode cX7_readOpenings 15 = .ok (.if_icmp .eq 10, 3) := by decide +kernel
theorem dX7_readOpenings_18 : decode cX7_readOpenings 18 = .ok (.iload_n 2, 1) := by decide +kernel
theorem dX7_readOpenings_19 : decode cX7_readOpenings 19 = .ok (.bipush 40, 2) := by decide +kernel
theorem dX7_readOpenings_21 : decode cX7_readOpenings 21 = .ok (.if_icmp .eq 4, 3) := by decide +kernel
theorem dX7_readOpenings_24 : decode cX7_readOpenings 24 = .ok (.return_, 1) := by decide +kernel
theorem dX7_readOpenings_25 : decode cX7_readOpenings 25 = .ok (.aload_n 0, 1) := by decide +kernel
theorem dX7_readOpenings_26 : decode cX7_readOpenings 26 = .ok (.getfield 29, 3) := by decide +kernel
theorem dX7_readOpenings_29 : decode cX7_readOpenings 29 = .ok (.iconst 5, 1) := by decide +kernel
theorem dX7_readOpenings_30 : decode cX7_readOpenings 30 = .ok (.if_icmp .lt 8, 3) := by decide +kernel
theorem dX7_readOpenings_33 : decode cX7_readOpenings 33 = .ok (.aload_n 0, 1) := by decide +kernel
theorem dX7_readOpenings_34 : decode cX7_readOpenings 34 = .ok (.invokevirtual 57, 3) := by decide +kernel
theorem dX7_readOpenings_37 : decode cX7_readOpenings 37 = .ok (.return_, 1) := by decide +kernel
theorem dX7_readOpenings_38 : decode cX7_readOpenings 38 = .ok (.aload_n 0, 1) := by decide +kernel
theorem dX7_readOpenings_39 : decode cX7_readOpenings 39 = .ok (.dup, 1) := by decide +kernel
theorem dX7_readOpenings_40 : decode cX7_readOpenings 40 = .ok (.getfield 23, 3) := by decide +kernel
theorem dX7_readOpenings_43 : decode cX7_readOpenings 43 = .ok (.iconst 1, 1) := by decide +kernel
theorem dX7_readOpenings_44 : decode cX7_readOpenings 44 = .ok (.iadd, 1) := by decide +kernel
theorem dX7_readOpenings_45 : decode cX7_readOpenings 45 = .ok (.putfield 23, 3) := by decide +kernel
theorem dX7_readOpenings_48 : decode cX7_readOpenings 48 = .ok (.aload_n 0, 1) := by decide +kernel
theorem dX7_readOpenings_49 : decode cX7_readOpenings 49 = .ok (.dup, 1) := by decide +kernel
theorem dX7_readOpenings_50 : decode cX7_readOpenings 50 = .ok (.getfield 29, 3) := by decide +kernel
theorem dX7_readOpenings_53 : decode cX7_readOpenings 53 = .ok (.iconst 1, 1) := by decide +kernel
theorem dX7_readOpenings_54 : decode cX7_readOpenings 54 = .ok (.iadd, 1) := by decide +kernel
theorem dX7_readOpenings_55 : decode cX7_readOpenings 55 = .ok (.putfield 29, 3) := by decide +kernel
theorem dX7_readOpenings_58 : decode cX7_readOpenings 58 = .ok (.iload_n 2, 1) := by decide +kernel
theorem dX7_readOpenings_59 : decode cX7_readOpenings 59 = .ok (.bipush 33, 2) := by decide +kernel
theorem dX7_readOpenings_61 : decode cX7_readOpenings 61 = .ok (.if_icmp .ne 19, 3) := by decide +kernel
theorem dX7_readOpenings_64 : decode cX7_readOpenings 64 = .ok (.aload_n 0, 1) := by decide +kernel
theorem dX7_readOpenings_65 : decode cX7_readOpenings 65 = .ok (.getfield 42, 3) := by decide +kernel
theorem dX7_readOpenings_68 : decode cX7_readOpenings 68 = .ok (.aload_n 0, 1) := by decide +kernel
theorem dX7_readOpenings_69 : decode cX7_readOpenings 69 = .ok (.getfield 32, 3) := by decide +kernel
theorem dX7_readOpenings_72 : decode cX7_readOpenings 72 = .ok (.dup2, 1) := by decide +kernel
theorem dX7_readOpenings_73 : decode cX7_readOpenings 73 = .ok (.iaload, 1) := by decide +kernel
theorem dX7_readOpenings_74 : decode cX7_readOpenings 74 = .ok (.iconst 1, 1) := by decide +kernel
theorem dX7_readOpenings_75 : decode cX7_readOpenings 75 = .ok (.iadd, 1) := by decide +kernel
theorem dX7_readOpenings_76 : decode cX7_readOpenings 76 = .ok (.iastore, 1) := by decide +kernel
theorem dX7_readOpenings_77 : decode cX7_readOpenings 77 = .ok (.goto 13, 3) := by decide +kernel
theorem dX7_readOpenings_80 : decode cX7_readOpenings 80 = .ok (.aload_n 0, 1) := by decide +kernel
theorem dX7_readOpenings_81 : decode cX7_readOpenings 81 = .ok (.aload_n 0, 1) := by decide +kernel
theorem dX7_readOpenings_82 : decode cX7_readOpenings 82 = .ok (.getfield 32, 3) := by decide +kernel
theorem dX7_readOpenings_85 : decode cX7_readOpenings 85 = .ok (.iconst 1, 1) := by decide +kernel
theorem dX7_readOpenings_86 : decode cX7_readOpenings 86 = .ok (.iadd, 1) := by decide +kernel
theorem dX7_readOpenings_87 : decode cX7_readOpenings 87 = .ok (.invokevirtual 66, 3) := by decide +kernel
theorem dX7_readOpenings_90 : decode cX7_readOpenings 90 = .ok (.iinc 1 1, 3) := by decide +kernel
theorem dX7_readOpenings_93 : decode cX7_readOpenings 93 = .ok (.goto (-91), 3) := by decide +kernel
theorem dX7_readOpenings_96 : decode cX7_readOpenings 96 = .ok (.return_, 1) := by decide +kernel
theorem dX7_endPart_0 : decode cX7_endPart 0 = .ok (.aload_n 0, 1) := by decide +kernel
theorem dX7_endPart_1 : decode cX7_endPart 1 = .ok (.getfield 42, 3) := by decide +kernel
theorem dX7_endPart_4 : decode cX7_endPart 4 = .ok (.aload_n 0, 1) := by decide +kernel
theorem dX7_endPart_5 : decode cX7_endPart 5 = .ok (.getfield 32, 3) := by decide +kernel
theorem dX7_endPart_8 : decode cX7_endPart 8 = .ok (.iaload, 1) := by decide +kernel
theorem dX7_endPart_9 : decode cX7_endPart 9 = .ok (.iconst 2, 1) := by decide +kernel
theorem dX7_endPart_10 : decode cX7_endPart 10 = .ok (.irem, 1) := by decide +kernel
theorem dX7_endPart_11 : decode cX7_endPart 11 = .ok (.iconst 1, 1) := by decide +kernel
theorem dX7_endPart_12 : decode cX7_endPart 12 = .ok (.if_icmp .ne 7, 3) := by decide +kernel
theorem dX7_endPart_15 : decode cX7_endPart 15 = .ok (.iconst 1, 1) := by decide +kernel
theorem dX7_endPart_16 : decode cX7_endPart 16 = .ok (.goto 4, 3) := by decide +kernel
theorem dX7_endPart_19 : decode cX7_endPart 19 = .ok (.iconst 0, 1) := by decide +kernel
theorem dX7_endPart_20 : decode cX7_endPart 20 = .ok (.istore_n 2, 1) := by decide +kernel
theorem dX7_endPart_21 : decode cX7_endPart 21 = .ok (.aload_n 0, 1) := by decide +kernel
theorem dX7_endPart_22 : decode cX7_endPart 22 = .ok (.getfield 39, 3) := by decide +kernel
theorem dX7_endPart_25 : decode cX7_endPart 25 = .ok (.aload_n 0, 1) := by decide +kernel
theorem dX7_endPart_26 : decode cX7_endPart 26 = .ok (.getfield 32, 3) := by decide +kernel
theorem dX7_endPart_29 : decode cX7_endPart 29 = .ok (.aload_n 0, 1) := by decide +kernel
theorem dX7_endPart_30 : decode cX7_endPart 30 = .ok (.getfield 39, 3) := by decide +kernel
theorem dX7_endPart_33 : decode cX7_endPart 33 = .ok (.aload_n 0, 1) := by decide +kernel
theorem dX7_endPart_34 : decode cX7_endPart 34 = .ok (.getfield 32, 3) := by decide +kernel
theorem dX7_endPart_37 : decode cX7_endPart 37 = .ok (.baload, 1) := by decide +kernel
theorem dX7_endPart_38 : decode cX7_endPart 38 = .ok (.ifCond .eq 12, 3) := by decide +kernel
theorem dX7_endPart_41 : decode cX7_endPart 41 = .ok (.iload_n 1, 1) := by decide +kernel
theorem dX7_endPart_42 : decode cX7_endPart 42 = .ok (.iload_n 2, 1) := by decide +kernel
theorem dX7_endPart_43 : decode cX7_endPart 43 = .ok (.if_icmp .eq 7, 3) := by decide +kernel
theorem dX7_endPart_46 : decode cX7_endPart 46 = .ok (.iconst 1, 1) := by decide +kernel
theorem dX7_endPart_47 : decode cX7_endPart 47 = .ok (.goto 4, 3) := by decide +kernel
theorem dX7_endPart_50 : decode cX7_endPart 50 = .ok (.iconst 0, 1) := by decide +kernel
theorem dX7_endPart_51 : decode cX7_endPart 51 = .ok (.bastore, 1) := by decide +kernel
theorem dX7_endPart_52 : decode cX7_endPart 52 = .ok (.aload_n 0, 1) := by decide +kernel
theorem dX7_endPart_53 : decode cX7_endPart 53 = .ok (.dup, 1) := by decide +kernel
theorem dX7_endPart_54 : decode cX7_endPart 54 = .ok (.getfield 29, 3) := by decide +kernel
theorem dX7_endPart_57 : decode cX7_endPart 57 = .ok (.aload_n 0, 1) := by decide +kernel
theorem dX7_endPart_58 : decode cX7_endPart 58 = .ok (.getfield 42, 3) := by decide +kernel
theorem dX7_endPart_61 : decode cX7_endPart 61 = .ok (.aload_n 0, 1) := by decide +kernel
theorem dX7_endPart_62 : decode cX7_endPart 62 = .ok (.getfield 32, 3) := by decide +kernel
theorem dX7_endPart_65 : decode cX7_endPart 65 = .ok (.iaload, 1) := by decide +kernel
theorem dX7_endPart_66 : decode cX7_endPart 66 = .ok (.isub, 1) := by decide +kernel
theorem dX7_endPart_67 : decode cX7_endPart 67 = .ok (.putfield 29, 3) := by decide +kernel
theorem dX7_endPart_70 : decode cX7_endPart 70 = .ok (.aload_n 0, 1) := by decide +kernel
theorem dX7_endPart_71 : decode cX7_endPart 71 = .ok (.getfield 42, 3) := by decide +kernel
theorem dX7_endPart_74 : decode cX7_endPart 74 = .ok (.aload_n 0, 1) := by decide +kernel
theorem dX7_endPart_75 : decode cX7_endPart 75 = .ok (.getfield 32, 3) := by decide +kernel
theorem dX7_endPart_78 : decode cX7_endPart 78 = .ok (.iconst 0, 1) := by decide +kernel
theorem dX7_endPart_79 : decode cX7_endPart 79 = .ok (.iastore, 1) := by decide +kernel
theorem dX7_endPart_80 : decode cX7_endPart 80 = .ok (.return_, 1) := by decide +kernel
theorem dX7_readClosings_0 : decode cX7_readClosings 0 = .ok (.iconst 0, 1) := by decide +kernel
theorem dX7_readClosings_1 : decode cX7_readClosings 1 = .ok (.istore_n 1, 1) := by decide +kernel
theorem dX7_readClosings_2 : decode cX7_readClosings 2 = .ok (.iload_n 1, 1) := by decide +kernel
theorem dX7_readClosings_3 : decode cX7_readClosings 3 = .ok (.iconst 5, 1) := by decide +kernel
theorem dX7_readClosings_4 : decode cX7_readClosings 4 = .ok (.if_icmp .ge 90, 3) := by decide +kernel
theorem dX7_readClosings_7 : decode cX7_readClosings 7 = .ok (.aload_n 0, 1) := by decide +kernel
theorem dX7_readClosings_8 : decode cX7_readClosings 8 = .ok (.getfield 32, 3) := by decide +kernel
theorem dX7_readClosings_11 : decode cX7_readClosings 11 = .ok (.ifCond .le 83, 3) := by decide +kernel
theorem dX7_readClosings_14 : decode cX7_readClosings 14 = .ok (.aload_n 0, 1) := by decide +kernel
theorem dX7_readClosings_15 : decode cX7_readClosings 15 = .ok (.invokevirtual 70, 3) := by decide +kernel
theorem dX7_readClosings_18 : decode cX7_readClosings 18 = .ok (.bipush 41, 2) := by decide +kernel
theorem dX7_readClosings_20 : decode cX7_readClosings 20 = .ok (.if_icmp .ne 74, 3) := by decide +kernel
theorem dX7_readClosings_23 : decode cX7_readClosings 23 = .ok (.aload_n 0, 1) := by decide +kernel
theorem dX7_readClosings_24 : decode cX7_readClosings 24 = .ok (.getfield 35, 3) := by decide +kernel
theorem dX7_readClosings_27 : decode cX7_readClosings 27 = .ok (.aload_n 0, 1) := by decide +kernel
theorem dX7_readClosings_28 : decode cX7_readClosings 28 = .ok (.getfield 32, 3) := by decide +kernel
theorem dX7_readClosings_31 : decode cX7_readClosings 31 = .ok (.baload, 1) := by decide +kernel
theorem dX7_readClosings_32 : decode cX7_readClosings 32 = .ok (.ifCond .ne 15, 3) := by decide +kernel
theorem dX7_readClosings_35 : decode cX7_readClosings 35 = .ok (.aload_n 0, 1) := by decide +kernel
theorem dX7_readClosings_36 : decode cX7_readClosings 36 = .ok (.getfield 39, 3) := by decide +kernel
theorem dX7_readClosings_39 : decode cX7_readClosings 39 = .ok (.aload_n 0, 1) := by decide +kernel
theorem dX7_readClosings_40 : decode cX7_readClosings 40 = .ok (.getfield 32, 3) := by decide +kernel
theorem dX7_readClosings_43 : decode cX7_readClosings 43 = .ok (.baload, 1) := by decide +kernel
theorem dX7_readClosings_44 : decode cX7_readClosings 44 = .ok (.ifCond .eq 7, 3) := by decide +kernel
theorem dX7_readClosings_47 : decode cX7_readClosings 47 = .ok (.iconst 1, 1) := by decide +kernel
theorem dX7_readClosings_48 : decode cX7_readClosings 48 = .ok (.goto 4, 3) := by decide +kernel
theorem dX7_readClosings_51 : decode cX7_readClosings 51 = .ok (.iconst 0, 1) := by decide +kernel
theorem dX7_readClosings_52 : decode cX7_readClosings 52 = .ok (.istore_n 2, 1) := by decide +kernel
theorem dX7_readClosings_53 : decode cX7_readClosings 53 = .ok (.aload_n 0, 1) := by decide +kernel
theorem dX7_readClosings_54 : decode cX7_readClosings 54 = .ok (.dup, 1) := by decide +kernel
theorem dX7_readClosings_55 : decode cX7_readClosings 55 = .ok (.getfield 23, 3) := by decide +kernel
theorem dX7_readClosings_58 : decode cX7_readClosings 58 = .ok (.iconst 1, 1) := by decide +kernel
theorem dX7_readClosings_59 : decode cX7_readClosings 59 = .ok (.iadd, 1) := by decide +kernel
theorem dX7_readClosings_60 : decode cX7_readClosings 60 = .ok (.putfield 23, 3) := by decide +kernel
theorem dX7_readClosings_63 : decode cX7_readClosings 63 = .ok (.aload_n 0, 1) := by decide +kernel
theorem dX7_readClosings_64 : decode cX7_readClosings 64 = .ok (.dup, 1) := by decide +kernel
