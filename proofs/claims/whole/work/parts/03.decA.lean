theorem dX0_init_0 : decode cX0_init 0 = .ok (.aload_n 0, 1) := by decide +kernel
theorem dX0_init_1 : decode cX0_init 1 = .ok (.invokespecial 3, 3) := by decide +kernel
theorem dX0_init_4 : decode cX0_init 4 = .ok (.aload_n 0, 1) := by decide +kernel
theorem dX0_init_5 : decode cX0_init 5 = .ok (.iconst 0, 1) := by decide +kernel
theorem dX0_init_6 : decode cX0_init 6 = .ok (.putfield 9, 3) := by decide +kernel
theorem dX0_init_9 : decode cX0_init 9 = .ok (.aload_n 0, 1) := by decide +kernel
theorem dX0_init_10 : decode cX0_init 10 = .ok (.bipush 25, 2) := by decide +kernel
theorem dX0_init_12 : decode cX0_init 12 = .ok (.bipush 60, 2) := by decide +kernel
theorem dX0_init_14 : decode cX0_init 14 = .ok (.multianewarray 15 2, 4) := by decide +kernel
theorem dX0_init_18 : decode cX0_init 18 = .ok (.putfield 17, 3) := by decide +kernel
theorem dX0_init_21 : decode cX0_init 21 = .ok (.aload_n 0, 1) := by decide +kernel
theorem dX0_init_22 : decode cX0_init 22 = .ok (.bipush 25, 2) := by decide +kernel
theorem dX0_init_24 : decode cX0_init 24 = .ok (.newarray .int, 2) := by decide +kernel
theorem dX0_init_26 : decode cX0_init 26 = .ok (.putfield 20, 3) := by decide +kernel
theorem dX0_init_29 : decode cX0_init 29 = .ok (.aload_n 0, 1) := by decide +kernel
theorem dX0_init_30 : decode cX0_init 30 = .ok (.bipush 24, 2) := by decide +kernel
theorem dX0_init_32 : decode cX0_init 32 = .ok (.newarray .int, 2) := by decide +kernel
theorem dX0_init_34 : decode cX0_init 34 = .ok (.putfield 24, 3) := by decide +kernel
theorem dX0_init_37 : decode cX0_init 37 = .ok (.aload_n 0, 1) := by decide +kernel
theorem dX0_init_38 : decode cX0_init 38 = .ok (.bipush 24, 2) := by decide +kernel
theorem dX0_init_40 : decode cX0_init 40 = .ok (.newarray .int, 2) := by decide +kernel
theorem dX0_init_42 : decode cX0_init 42 = .ok (.putfield 27, 3) := by decide +kernel
theorem dX0_init_45 : decode cX0_init 45 = .ok (.aload_n 0, 1) := by decide +kernel
theorem dX0_init_46 : decode cX0_init 46 = .ok (.new 30, 3) := by decide +kernel
theorem dX0_init_49 : decode cX0_init 49 = .ok (.dup, 1) := by decide +kernel
theorem dX0_init_50 : decode cX0_init 50 = .ok (.invokespecial 32, 3) := by decide +kernel
theorem dX0_init_53 : decode cX0_init 53 = .ok (.putfield 33, 3) := by decide +kernel
theorem dX0_init_56 : decode cX0_init 56 = .ok (.return_, 1) := by decide +kernel
theorem dX0_fed_0 : decode cX0_fed 0 = .ok (.aload_n 0, 1) := by decide +kernel
theorem dX0_fed_1 : decode cX0_fed 1 = .ok (.getfield 20, 3) := by decide +kernel
theorem dX0_fed_4 : decode cX0_fed 4 = .ok (.aload_n 0, 1) := by decide +kernel
theorem dX0_fed_5 : decode cX0_fed 5 = .ok (.getfield 9, 3) := by decide +kernel
theorem dX0_fed_8 : decode cX0_fed 8 = .ok (.iaload, 1) := by decide +kernel
theorem dX0_fed_9 : decode cX0_fed 9 = .ok (.ireturn, 1) := by decide +kernel
theorem dX0_feedText_0 : decode cX0_feedText 0 = .ok (.iconst 0, 1) := by decide +kernel
theorem dX0_feedText_1 : decode cX0_feedText 1 = .ok (.istore 4, 2) := by decide +kernel
theorem dX0_feedText_3 : decode cX0_feedText 3 = .ok (.iload 4, 2) := by decide +kernel
theorem dX0_feedText_5 : decode cX0_feedText 5 = .ok (.iload_n 1, 1) := by decide +kernel
theorem dX0_feedText_6 : decode cX0_feedText 6 = .ok (.if_icmp .ge 71, 3) := by decide +kernel
theorem dX0_feedText_9 : decode cX0_feedText 9 = .ok (.iload 4, 2) := by decide +kernel
theorem dX0_feedText_11 : decode cX0_feedText 11 = .ok (.bipush 8, 2) := by decide +kernel
theorem dX0_feedText_13 : decode cX0_feedText 13 = .ok (.if_icmp .ge 64, 3) := by decide +kernel
theorem dX0_feedText_16 : decode cX0_feedText 16 = .ok (.aload_n 0, 1) := by decide +kernel
theorem dX0_feedText_17 : decode cX0_feedText 17 = .ok (.getfield 20, 3) := by decide +kernel
theorem dX0_feedText_20 : decode cX0_feedText 20 = .ok (.aload_n 0, 1) := by decide +kernel
theorem dX0_feedText_21 : decode cX0_feedText 21 = .ok (.getfield 9, 3) := by decide +kernel
theorem dX0_feedText_24 : decode cX0_feedText 24 = .ok (.iaload, 1) := by decide +kernel
theorem dX0_feedText_25 : decode cX0_feedText 25 = .ok (.bipush 60, 2) := by decide +kernel
theorem dX0_feedText_27 : decode cX0_feedText 27 = .ok (.if_icmp .ge 50, 3) := by decide +kernel
theorem dX0_feedText_30 : decode cX0_feedText 30 = .ok (.aload_n 0, 1) := by decide +kernel
theorem dX0_feedText_31 : decode cX0_feedText 31 = .ok (.getfield 17, 3) := by decide +kernel
theorem dX0_feedText_34 : decode cX0_feedText 34 = .ok (.aload_n 0, 1) := by decide +kernel
theorem dX0_feedText_35 : decode cX0_feedText 35 = .ok (.getfield 9, 3) := by decide +kernel
theorem dX0_feedText_38 : decode cX0_feedText 38 = .ok (.aaload, 1) := by decide +kernel
theorem dX0_feedText_39 : decode cX0_feedText 39 = .ok (.aload_n 0, 1) := by decide +kernel
theorem dX0_feedText_40 : decode cX0_feedText 40 = .ok (.getfield 20, 3) := by decide +kernel
theorem dX0_feedText_43 : decode cX0_feedText 43 = .ok (.aload_n 0, 1) := by decide +kernel
theorem dX0_feedText_44 : decode cX0_feedText 44 = .ok (.getfield 9, 3) := by decide +kernel
theorem dX0_feedText_47 : decode cX0_feedText 47 = .ok (.iaload, 1) := by decide +kernel
theorem dX0_feedText_48 : decode cX0_feedText 48 = .ok (.lload_n 2, 1) := by decide +kernel
theorem dX0_feedText_49 : decode cX0_feedText 49 = .ok (.bipush 8, 2) := by decide +kernel
theorem dX0_feedText_51 : decode cX0_feedText 51 = .ok (.iload 4, 2) := by decide +kernel
theorem dX0_feedText_53 : decode cX0_feedText 53 = .ok (.imul, 1) := by decide +kernel
theorem dX0_feedText_54 : decode cX0_feedText 54 = .ok (.lshr, 1) := by decide +kernel
theorem dX0_feedText_55 : decode cX0_feedText 55 = .ok (.l2i, 1) := by decide +kernel
theorem dX0_feedText_56 : decode cX0_feedText 56 = .ok (.i2b, 1) := by decide +kernel
theorem dX0_feedText_57 : decode cX0_feedText 57 = .ok (.bastore, 1) := by decide +kernel
theorem dX0_feedText_58 : decode cX0_feedText 58 = .ok (.aload_n 0, 1) := by decide +kernel
theorem dX0_feedText_59 : decode cX0_feedText 59 = .ok (.getfield 20, 3) := by decide +kernel
theorem dX0_feedText_62 : decode cX0_feedText 62 = .ok (.aload_n 0, 1) := by decide +kernel
theorem dX0_feedText_63 : decode cX0_feedText 63 = .ok (.getfield 9, 3) := by decide +kernel
theorem dX0_feedText_66 : decode cX0_feedText 66 = .ok (.dup2, 1) := by decide +kernel
theorem dX0_feedText_67 : decode cX0_feedText 67 = .ok (.iaload, 1) := by decide +kernel
theorem dX0_feedText_68 : decode cX0_feedText 68 = .ok (.iconst 1, 1) := by decide +kernel
theorem dX0_feedText_69 : decode cX0_feedText 69 = .ok (.iadd, 1) := by decide +kernel
theorem dX0_feedText_70 : decode cX0_feedText 70 = .ok (.iastore, 1) := by decide +kernel
theorem dX0_feedText_71 : decode cX0_feedText 71 = .ok (.iinc 4 1, 3) := by decide +kernel
theorem dX0_feedText_74 : decode cX0_feedText 74 = .ok (.goto (-71), 3) := by decide +kernel
theorem dX0_feedText_77 : decode cX0_feedText 77 = .ok (.aload_n 0, 1) := by decide +kernel
theorem dX0_feedText_78 : decode cX0_feedText 78 = .ok (.getfield 20, 3) := by decide +kernel
theorem dX0_feedText_81 : decode cX0_feedText 81 = .ok (.aload_n 0, 1) := by decide +kernel
theorem dX0_feedText_82 : decode cX0_feedText 82 = .ok (.getfield 9, 3) := by decide +kernel
theorem dX0_feedText_85 : decode cX0_feedText 85 = .ok (.iaload, 1) := by decide +kernel
theorem dX0_feedText_86 : decode cX0_feedText 86 = .ok (.ireturn, 1) := by decide +kernel
theorem dX0_faultOfText_0 : decode cX0_faultOfText 0 = .ok (.aload_n 0, 1) := by decide +kernel
theorem dX0_faultOfText_1 : decode cX0_faultOfText 1 = .ok (.getfield 33, 3) := by decide +kernel
theorem dX0_faultOfText_4 : decode cX0_faultOfText 4 = .ok (.aload_n 0, 1) := by decide +kernel
theorem dX0_faultOfText_5 : decode cX0_faultOfText 5 = .ok (.getfield 17, 3) := by decide +kernel
theorem dX0_faultOfText_8 : decode cX0_faultOfText 8 = .ok (.aload_n 0, 1) := by decide +kernel
theorem dX0_faultOfText_9 : decode cX0_faultOfText 9 = .ok (.getfield 9, 3) := by decide +kernel
theorem dX0_faultOfText_12 : decode cX0_faultOfText 12 = .ok (.aaload, 1) := by decide +kernel
theorem dX0_faultOfText_13 : decode cX0_faultOfText 13 = .ok (.aload_n 0, 1) := by decide +kernel
theorem dX0_faultOfText_14 : decode cX0_faultOfText 14 = .ok (.getfield 20, 3) := by decide +kernel
theorem dX0_faultOfText_17 : decode cX0_faultOfText 17 = .ok (.aload_n 0, 1) := by decide +kernel
theorem dX0_faultOfText_18 : decode cX0_faultOfText 18 = .ok (.getfield 9, 3) := by decide +kernel
theorem dX0_faultOfText_21 : decode cX0_faultOfText 21 = .ok (.iaload, 1) := by decide +kernel
theorem dX0_faultOfText_22 : decode cX0_faultOfText 22 = .ok (.invokevirtual 37, 3) := by decide +kernel
theorem dX0_faultOfText_25 : decode cX0_faultOfText 25 = .ok (.ireturn, 1) := by decide +kernel
theorem dX0_dropText_0 : decode cX0_dropText 0 = .ok (.aload_n 0, 1) := by decide +kernel
theorem dX0_dropText_1 : decode cX0_dropText 1 = .ok (.getfield 20, 3) := by decide +kernel
theorem dX0_dropText_4 : decode cX0_dropText 4 = .ok (.aload_n 0, 1) := by decide +kernel
theorem dX0_dropText_5 : decode cX0_dropText 5 = .ok (.getfield 9, 3) := by decide +kernel
theorem dX0_dropText_8 : decode cX0_dropText 8 = .ok (.iconst 0, 1) := by decide +kernel
theorem dX0_dropText_9 : decode cX0_dropText 9 = .ok (.iastore, 1) := by decide +kernel
theorem dX0_dropText_10 : decode cX0_dropText 10 = .ok (.return_, 1) := by decide +kernel
theorem dX0_takeText_0 : decode cX0_takeText 0 = .ok (.aload_n 0, 1) := by decide +kernel
theorem dX0_takeText_1 : decode cX0_takeText 1 = .ok (.getfield 9, 3) := by decide +kernel
theorem dX0_takeText_4 : decode cX0_takeText 4 = .ok (.bipush 24, 2) := by decide +kernel
theorem dX0_takeText_6 : decode cX0_takeText 6 = .ok (.if_icmp .lt 6, 3) := by decide +kernel
theorem dX0_takeText_9 : decode cX0_takeText 9 = .ok (.bipush (-6), 2) := by decide +kernel
theorem dX0_takeText_11 : decode cX0_takeText 11 = .ok (.ireturn, 1) := by decide +kernel
theorem dX0_takeText_12 : decode cX0_takeText 12 = .ok (.aload_n 0, 1) := by decide +kernel
theorem dX0_takeText_13 : decode cX0_takeText 13 = .ok (.getfield 24, 3) := by decide +kernel
theorem dX0_takeText_16 : decode cX0_takeText 16 = .ok (.aload_n 0, 1) := by decide +kernel
theorem dX0_takeText_17 : decode cX0_takeText 17 = .ok (.getfield 9, 3) := by decide +kernel
theorem dX0_takeText_20 : decode cX0_takeText 20 = .ok (.iload_n 1, 1) := by decide +kernel
theorem dX0_takeText_21 : decode cX0_takeText 21 = .ok (.iastore, 1) := by decide +kernel
theorem dX0_takeText_22 : decode cX0_takeText 22 = .ok (.aload_n 0, 1) := by decide +kernel
theorem dX0_takeText_23 : decode cX0_takeText 23 = .ok (.getfield 27, 3) := by decide +kernel
theorem dX0_takeText_26 : decode cX0_takeText 26 = .ok (.aload_n 0, 1) := by decide +kernel
theorem dX0_takeText_27 : decode cX0_takeText 27 = .ok (.getfield 9, 3) := by decide +kernel
theorem dX0_takeText_30 : decode cX0_takeText 30 = .ok (.ldc 41, 2) := by decide +kernel
theorem dX0_takeText_32 : decode cX0_takeText 32 = .ok (.iastore, 1) := by decide +kernel
theorem dX0_takeText_33 : decode cX0_takeText 33 = .ok (.aload_n 0, 1) := by decide +kernel
theorem dX0_takeText_34 : decode cX0_takeText 34 = .ok (.dup, 1) := by decide +kernel
theorem dX0_takeText_35 : decode cX0_takeText 35 = .ok (.getfield 9, 3) := by decide +kernel
theorem dX0_takeText_38 : decode cX0_takeText 38 = .ok (.iconst 1, 1) := by decide +kernel
theorem dX0_takeText_39 : decode cX0_takeText 39 = .ok (.iadd, 1) := by decide +kernel
theorem dX0_takeText_40 : decode cX0_takeText 40 = .ok (.putfield 9, 3) := by decide +kernel
theorem dX0_takeText_43 : decode cX0_takeText 43 = .ok (.aload_n 0, 1) := by decide +kernel
theorem dX0_takeText_44 : decode cX0_takeText 44 = .ok (.getfield 20, 3) := by decide +kernel
theorem dX0_takeText_47 : decode cX0_takeText 47 = .ok (.aload_n 0, 1) := by decide +kernel
theorem dX0_takeText_48 : decode cX0_takeText 48 = .ok (.getfield 9, 3) := by decide +kernel
theorem dX0_takeText_51 : decode cX0_takeText 51 = .ok (.iconst 0, 1) := by decide +kernel
theorem dX0_takeText_52 : decode cX0_takeText 52 = .ok (.iastore, 1) := by decide +kernel
theorem dX0_takeText_53 : decode cX0_takeText 53 = .ok (.aload_n 0, 1) := by decide +kernel
theorem dX0_takeText_54 : decode cX0_takeText 54 = .ok (.getfield 9, 3) := by decide +kernel
theorem dX0_takeText_57 : decode cX0_takeText 57 = .ok (.iconst 1, 1) := by decide +kernel
theorem dX0_takeText_58 : decode cX0_takeText 58 = .ok (.isub, 1) := by decide +kernel
theorem dX0_takeText_59 : decode cX0_takeText 59 = .ok (.ireturn, 1) := by decide +kernel
theorem dX0_kindOf_0 : decode cX0_kindOf 0 = .ok (.iload_n 1, 1) := by decide +kernel
theorem dX0_kindOf_1 : decode cX0_kindOf 1 = .ok (.ifCond .lt 11, 3) := by decide +kernel
theorem dX0_kindOf_4 : decode cX0_kindOf 4 = .ok (.iload_n 1, 1) := by decide +kernel
theorem dX0_kindOf_5 : decode cX0_kindOf 5 = .ok (.aload_n 0, 1) := by decide +kernel
theorem dX0_kindOf_6 : decode cX0_kindOf 6 = .ok (.getfield 9, 3) := by decide +kernel
theorem dX0_kindOf_9 : decode cX0_kindOf 9 = .ok (.if_icmp .lt 7, 3) := by decide +kernel
theorem dX0_kindOf_12 : decode cX0_kindOf 12 = .ok (.iconst 0, 1) := by decide +kernel
theorem dX0_kindOf_13 : decode cX0_kindOf 13 = .ok (.goto 14, 3) := by decide +kernel
theorem dX0_kindOf_16 : decode cX0_kindOf 16 = .ok (.aload_n 0, 1) := by decide +kernel
theorem dX0_kindOf_17 : decode cX0_kindOf 17 = .ok (.getfield 17, 3) := by decide +kernel
theorem dX0_kindOf_20 : decode cX0_kindOf 20 = .ok (.iload_n 1, 1) := by decide +kernel
theorem dX0_kindOf_21 : decode cX0_kindOf 21 = .ok (.aaload, 1) := by decide +kernel
theorem dX0_kindOf_22 : decode cX0_kindOf 22 = .ok (.iconst 1, 1) := by decide +kernel
theorem dX0_kindOf_23 : decode cX0_kindOf 23 = .ok (.baload, 1) := by decide +kernel
theorem dX0_kindOf_24 : decode cX0_kindOf 24 = .ok (.bipush 48, 2) := by decide +kernel
theorem dX0_kindOf_26 : decode cX0_kindOf 26 = .ok (.isub, 1) := by decide +kernel
theorem dX0_kindOf_27 : decode cX0_kindOf 27 = .ok (.ireturn, 1) := by decide +kernel
theorem dX0_bearingOn_0 : decode cX0_bearingOn 0 = .ok (.iconst 0, 1) := by decide +kernel
theorem dX0_bearingOn_1 : decode cX0_bearingOn 1 = .ok (.istore_n 3, 1) := by decide +kernel
theorem dX0_bearingOn_2 : decode cX0_bearingOn 2 = .ok (.iconst 0, 1) := by decide +kernel
theorem dX0_bearingOn_3 : decode cX0_bearingOn 3 = .ok (.istore 4, 2) := by decide +kernel
theorem dX0_bearingOn_5 : decode cX0_bearingOn 5 = .ok (.iload 4, 2) := by decide +kernel
theorem dX0_bearingOn_7 : decode cX0_bearingOn 7 = .ok (.aload_n 0, 1) := by decide +kernel
theorem dX0_bearingOn_8 : decode cX0_bearingOn 8 = .ok (.getfield 9, 3) := by decide +kernel
theorem dX0_bearingOn_11 : decode cX0_bearingOn 11 = .ok (.if_icmp .ge 78, 3) := by decide +kernel
theorem dX0_bearingOn_14 : decode cX0_bearingOn 14 = .ok (.aload_n 0, 1) := by decide +kernel
theorem dX0_bearingOn_15 : decode cX0_bearingOn 15 = .ok (.getfield 17, 3) := by decide +kernel
theorem dX0_bearingOn_18 : decode cX0_bearingOn 18 = .ok (.iload 4, 2) := by decide +kernel
theorem dX0_bearingOn_20 : decode cX0_bearingOn 20 = .ok (.aaload, 1) := by decide +kernel
theorem dX0_bearingOn_21 : decode cX0_bearingOn 21 = .ok (.iconst 0, 1) := by decide +kernel
theorem dX0_bearingOn_22 : decode cX0_bearingOn 22 = .ok (.baload, 1) := by decide +kernel
theorem dX0_bearingOn_23 : decode cX0_bearingOn 23 = .ok (.bipush 65, 2) := by decide +kernel
theorem dX0_bearingOn_25 : decode cX0_bearingOn 25 = .ok (.isub, 1) := by decide +kernel
theorem dX0_bearingOn_26 : decode cX0_bearingOn 26 = .ok (.iload_n 1, 1) := by decide +kernel
theorem dX0_bearingOn_27 : decode cX0_bearingOn 27 = .ok (.if_icmp .ne 56, 3) := by decide +kernel
theorem dX0_bearingOn_30 : decode cX0_bearingOn 30 = .ok (.aload_n 0, 1) := by decide +kernel
theorem dX0_bearingOn_31 : decode cX0_bearingOn 31 = .ok (.getfield 24, 3) := by decide +kernel
theorem dX0_bearingOn_34 : decode cX0_bearingOn 34 = .ok (.iload 4, 2) := by decide +kernel
theorem dX0_bearingOn_36 : decode cX0_bearingOn 36 = .ok (.iaload, 1) := by decide +kernel
theorem dX0_bearingOn_37 : decode cX0_bearingOn 37 = .ok (.iload_n 2, 1) := by decide +kernel
theorem dX0_bearingOn_38 : decode cX0_bearingOn 38 = .ok (.if_icmp .gt 45, 3) := by decide +kernel
theorem dX0_bearingOn_41 : decode cX0_bearingOn 41 = .ok (.iload_n 2, 1) := by decide +kernel
theorem dX0_bearingOn_42 : decode cX0_bearingOn 42 = .ok (.aload_n 0, 1) := by decide +kernel
theorem dX0_bearingOn_43 : decode cX0_bearingOn 43 = .ok (.getfield 27, 3) := by decide +kernel
theorem dX0_bearingOn_46 : decode cX0_bearingOn 46 = .ok (.iload 4, 2) := by decide +kernel
theorem dX0_bearingOn_48 : decode cX0_bearingOn 48 = .ok (.iaload, 1) := by decide +kernel
theorem dX0_bearingOn_49 : decode cX0_bearingOn 49 = .ok (.if_icmp .ge 34, 3) := by decide +kernel
theorem dX0_bearingOn_52 : decode cX0_bearingOn 52 = .ok (.aload_n 0, 1) := by decide +kernel
theorem dX0_bearingOn_53 : decode cX0_bearingOn 53 = .ok (.getfield 33, 3) := by decide +kernel
theorem dX0_bearingOn_56 : decode cX0_bearingOn 56 = .ok (.aload_n 0, 1) := by decide +kernel
theorem dX0_bearingOn_57 : decode cX0_bearingOn 57 = .ok (.getfield 17, 3) := by decide +kernel
theorem dX0_bearingOn_60 : decode cX0_bearingOn 60 = .ok (.iload 4, 2) := by decide +kernel
theorem dX0_bearingOn_62 : decode cX0_bearingOn 62 = .ok (.aaload, 1) := by decide +kernel
theorem dX0_bearingOn_63 : decode cX0_bearingOn 63 = .ok (.aload_n 0, 1) := by decide +kernel
theorem dX0_bearingOn_64 : decode cX0_bearingOn 64 = .ok (.getfield 20, 3) := by decide +kernel
theorem dX0_bearingOn_67 : decode cX0_bearingOn 67 = .ok (.iload 4, 2) := by decide +kernel
theorem dX0_bearingOn_69 : decode cX0_bearingOn 69 = .ok (.iaload, 1) := by decide +kernel
theorem dX0_bearingOn_70 : decode cX0_bearingOn 70 = .ok (.invokevirtual 42, 3) := by decide +kernel
theorem dX0_bearingOn_73 : decode cX0_bearingOn 73 = .ok (.ifCond .eq 10, 3) := by decide +kernel
theorem dX0_bearingOn_76 : decode cX0_bearingOn 76 = .ok (.iload_n 3, 1) := by decide +kernel
theorem dX0_bearingOn_77 : decode cX0_bearingOn 77 = .ok (.iconst 1, 1) := by decide +kernel
theorem dX0_bearingOn_78 : decode cX0_bearingOn 78 = .ok (.iload 4, 2) := by decide +kernel
theorem dX0_bearingOn_80 : decode cX0_bearingOn 80 = .ok (.ishl, 1) := by decide +kernel
theorem dX0_bearingOn_81 : decode cX0_bearingOn 81 = .ok (.ior, 1) := by decide +kernel
theorem dX0_bearingOn_82 : decode cX0_bearingOn 82 = .ok (.istore_n 3, 1) := by decide +kernel
theorem dX0_bearingOn_83 : decode cX0_bearingOn 83 = .ok (.iinc 4 1, 3) := by decide +kernel
theorem dX0_bearingOn_86 : decode cX0_bearingOn 86 = .ok (.goto (-81), 3) := by decide +kernel
theorem dX0_bearingOn_89 : decode cX0_bearingOn 89 = .ok (.iload_n 3, 1) := by decide +kernel
theorem dX0_bearingOn_90 : decode cX0_bearingOn 90 = .ok (.ireturn, 1) := by decide +kernel
theorem dX0_giverAmong_0 : decode cX0_giverAmong 0 = .ok (.bipush (-9), 2) := by decide +kernel
theorem dX0_giverAmong_2 : decode cX0_giverAmong 2 = .ok (.istore_n 2, 1) := by decide +kernel
theorem dX0_giverAmong_3 : decode cX0_giverAmong 3 = .ok (.iconst 0, 1) := by decide +kernel
theorem dX0_giverAmong_4 : decode cX0_giverAmong 4 = .ok (.istore_n 3, 1) := by decide +kernel
theorem dX0_giverAmong_5 : decode cX0_giverAmong 5 = .ok (.iload_n 3, 1) := by decide +kernel
theorem dX0_giverAmong_6 : decode cX0_giverAmong 6 = .ok (.aload_n 0, 1) := by decide +kernel
theorem dX0_giverAmong_7 : decode cX0_giverAmong 7 = .ok (.getfield 9, 3) := by decide +kernel
theorem dX0_giverAmong_10 : decode cX0_giverAmong 10 = .ok (.if_icmp .ge 41, 3) := by decide +kernel
theorem dX0_giverAmong_13 : decode cX0_giverAmong 13 = .ok (.iload_n 1, 1) := by decide +kernel
theorem dX0_giverAmong_14 : decode cX0_giverAmong 14 = .ok (.iload_n 3, 1) := by decide +kernel
theorem dX0_giverAmong_15 : decode cX0_giverAmong 15 = .ok (.ishr, 1) := by decide +kernel
theorem dX0_giverAmong_16 : decode cX0_giverAmong 16 = .ok (.iconst 1, 1) := by decide +kernel
theorem dX0_giverAmong_17 : decode cX0_giverAmong 17 = .ok (.iand, 1) := by decide +kernel
theorem dX0_giverAmong_18 : decode cX0_giverAmong 18 = .ok (.iconst 1, 1) := by decide +kernel
theorem dX0_giverAmong_19 : decode cX0_giverAmong 19 = .ok (.if_icmp .ne 26, 3) := by decide +kernel
theorem dX0_giverAmong_22 : decode cX0_giverAmong 22 = .ok (.iload_n 2, 1) := by decide +kernel
theorem dX0_giverAmong_23 : decode cX0_giverAmong 23 = .ok (.bipush (-9), 2) := by decide +kernel
theorem dX0_giverAmong_25 : decode cX0_giverAmong 25 = .ok (.if_icmp .eq 18, 3) := by decide +kernel
theorem dX0_giverAmong_28 : decode cX0_giverAmong 28 = .ok (.aload_n 0, 1) := by decide +kernel
theorem dX0_giverAmong_29 : decode cX0_giverAmong 29 = .ok (.getfield 24, 3) := by decide +kernel
theorem dX0_giverAmong_32 : decode cX0_giverAmong 32 = .ok (.iload_n 3, 1) := by decide +kernel
theorem dX0_giverAmong_33 : decode cX0_giverAmong 33 = .ok (.iaload, 1) := by decide +kernel
theorem dX0_giverAmong_34 : decode cX0_giverAmong 34 = .ok (.aload_n 0, 1) := by decide +kernel
theorem dX0_giverAmong_35 : decode cX0_giverAmong 35 = .ok (.getfield 24, 3) := by decide +kernel
theorem dX0_giverAmong_38 : decode cX0_giverAmong 38 = .ok (.iload_n 2, 1) := by decide +kernel
theorem dX0_giverAmong_39 : decode cX0_giverAmong 39 = .ok (.iaload, 1) := by decide +kernel
theorem dX0_giverAmong_40 : decode cX0_giverAmong 40 = .ok (.if_icmp .lt 5, 3) := by decide +kernel
theorem dX0_giverAmong_43 : decode cX0_giverAmong 43 = .ok (.iload_n 3, 1) := by decide +kernel
theorem dX0_giverAmong_44 : decode cX0_giverAmong 44 = .ok (.istore_n 2, 1) := by decide +kernel
theorem dX0_giverAmong_45 : decode cX0_giverAmong 45 = .ok (.iinc 3 1, 3) := by decide +kernel
theorem dX0_giverAmong_48 : decode cX0_giverAmong 48 = .ok (.goto (-43), 3) := by decide +kernel
theorem dX0_giverAmong_51 : decode cX0_giverAmong 51 = .ok (.iload_n 2, 1) := by decide +kernel
theorem dX0_giverAmong_52 : decode cX0_giverAmong 52 = .ok (.ireturn, 1) := by decide +kernel
theorem dX0_quarrelAmong_0 : decode cX0_quarrelAmong 0 = .ok (.bipush (-9), 2) := by decide +kernel
theorem dX0_quarrelAmong_2 : decode cX0_quarrelAmong 2 = .ok (.istore_n 3, 1) := by decide +kernel
theorem dX0_quarrelAmong_3 : decode cX0_quarrelAmong 3 = .ok (.iconst 0, 1) := by decide +kernel
theorem dX0_quarrelAmong_4 : decode cX0_quarrelAmong 4 = .ok (.istore 4, 2) := by decide +kernel
theorem dX0_quarrelAmong_6 : decode cX0_quarrelAmong 6 = .ok (.iload 4, 2) := by decide +kernel
theorem dX0_quarrelAmong_8 : decode cX0_quarrelAmong 8 = .ok (.aload_n 0, 1) := by decide +kernel
theorem dX0_quarrelAmong_9 : decode cX0_quarrelAmong 9 = .ok (.getfield 9, 3) := by decide +kernel
theorem dX0_quarrelAmong_12 : decode cX0_quarrelAmong 12 = .ok (.if_icmp .ge 58, 3) := by decide +kernel
theorem dX0_quarrelAmong_15 : decode cX0_quarrelAmong 15 = .ok (.iload_n 1, 1) := by decide +kernel
theorem dX0_quarrelAmong_16 : decode cX0_quarrelAmong 16 = .ok (.iload 4, 2) := by decide +kernel
theorem dX0_quarrelAmong_18 : decode cX0_quarrelAmong 18 = .ok (.ishr, 1) := by decide +kernel
theorem dX0_quarrelAmong_19 : decode cX0_quarrelAmong 19 = .ok (.iconst 1, 1) := by decide +kernel
theorem dX0_quarrelAmong_20 : decode cX0_quarrelAmong 20 = .ok (.iand, 1) := by decide +kernel
theorem dX0_quarrelAmong_21 : decode cX0_quarrelAmong 21 = .ok (.ifCond .ne 6, 3) := by decide +kernel
theorem dX0_quarrelAmong_24 : decode cX0_quarrelAmong 24 = .ok (.goto 40, 3) := by decide +kernel
theorem dX0_quarrelAmong_27 : decode cX0_quarrelAmong 27 = .ok (.iload_n 3, 1) := by decide +kernel
theorem dX0_quarrelAmong_28 : decode cX0_quarrelAmong 28 = .ok (.bipush (-9), 2) := by decide +kernel
theorem dX0_quarrelAmong_30 : decode cX0_quarrelAmong 30 = .ok (.if_icmp .ne 9, 3) := by decide +kernel
theorem dX0_quarrelAmong_33 : decode cX0_quarrelAmong 33 = .ok (.iload 4, 2) := by decide +kernel
theorem dX0_quarrelAmong_35 : decode cX0_quarrelAmong 35 = .ok (.istore_n 3, 1) := by decide +kernel
theorem dX0_quarrelAmong_36 : decode cX0_quarrelAmong 36 = .ok (.goto 28, 3) := by decide +kernel
theorem dX0_quarrelAmong_39 : decode cX0_quarrelAmong 39 = .ok (.aload_n 0, 1) := by decide +kernel
theorem dX0_quarrelAmong_40 : decode cX0_quarrelAmong 40 = .ok (.iload 4, 2) := by decide +kernel
theorem dX0_quarrelAmong_42 : decode cX0_quarrelAmong 42 = .ok (.invokevirtual 46, 3) := by decide +kernel
theorem dX0_quarrelAmong_45 : decode cX0_quarrelAmong 45 = .ok (.aload_n 0, 1) := by decide +kernel
theorem dX0_quarrelAmong_46 : decode cX0_quarrelAmong 46 = .ok (.iload_n 3, 1) := by decide +kernel
theorem dX0_quarrelAmong_47 : decode cX0_quarrelAmong 47 = .ok (.invokevirtual 46, 3) := by decide +kernel
theorem dX0_quarrelAmong_50 : decode cX0_quarrelAmong 50 = .ok (.if_icmp .eq 14, 3) := by decide +kernel
theorem dX0_quarrelAmong_53 : decode cX0_quarrelAmong 53 = .ok (.iload_n 2, 1) := by decide +kernel
theorem dX0_quarrelAmong_54 : decode cX0_quarrelAmong 54 = .ok (.ifCond .eq 7, 3) := by decide +kernel
theorem dX0_quarrelAmong_57 : decode cX0_quarrelAmong 57 = .ok (.iload_n 3, 1) := by decide +kernel
theorem dX0_quarrelAmong_58 : decode cX0_quarrelAmong 58 = .ok (.goto 5, 3) := by decide +kernel
theorem dX0_quarrelAmong_61 : decode cX0_quarrelAmong 61 = .ok (.iload 4, 2) := by decide +kernel
theorem dX0_quarrelAmong_63 : decode cX0_quarrelAmong 63 = .ok (.ireturn, 1) := by decide +kernel
theorem dX0_quarrelAmong_64 : decode cX0_quarrelAmong 64 = .ok (.iinc 4 1, 3) := by decide +kernel
theorem dX0_quarrelAmong_67 : decode cX0_quarrelAmong 67 = .ok (.goto (-61), 3) := by decide +kernel
theorem dX0_quarrelAmong_70 : decode cX0_quarrelAmong 70 = .ok (.bipush (-9), 2) := by decide +kernel
theorem dX0_quarrelAmong_72 : decode cX0_quarrelAmong 72 = .ok (.ireturn, 1) := by decide +kernel
theorem dX1_init_0 : decode cX1_init 0 = .ok (.aload_n 0, 1) := by decide +kernel
theorem dX1_init_1 : decode cX1_init 1 = .ok (.invokespecial 3, 3) := by decide +kernel
theorem dX1_init_4 : decode cX1_init 4 = .ok (.aload_n 0, 1) := by decide +kernel
theorem dX1_init_5 : decode cX1_init 5 = .ok (.iconst 0, 1) := by decide +kernel
theorem dX1_init_6 : decode cX1_init 6 = .ok (.putfield 9, 3) := by decide +kernel
theorem dX1_init_9 : decode cX1_init 9 = .ok (.aload_n 0, 1) := by decide +kernel
theorem dX1_init_10 : decode cX1_init 10 = .ok (.bipush 30, 2) := by decide +kernel
theorem dX1_init_12 : decode cX1_init 12 = .ok (.newarray .int, 2) := by decide +kernel
theorem dX1_init_14 : decode cX1_init 14 = .ok (.putfield 15, 3) := by decide +kernel
theorem dX1_init_17 : decode cX1_init 17 = .ok (.aload_n 0, 1) := by decide +kernel
theorem dX1_init_18 : decode cX1_init 18 = .ok (.bipush 30, 2) := by decide +kernel
theorem dX1_init_20 : decode cX1_init 20 = .ok (.newarray .int, 2) := by decide +kernel
theorem dX1_init_22 : decode cX1_init 22 = .ok (.putfield 19, 3) := by decide +kernel
theorem dX1_init_25 : decode cX1_init 25 = .ok (.aload_n 0, 1) := by decide +kernel
theorem dX1_init_26 : decode cX1_init 26 = .ok (.bipush 30, 2) := by decide +kernel
theorem dX1_init_28 : decode cX1_init 28 = .ok (.newarray .int, 2) := by decide +kernel
theorem dX1_init_30 : decode cX1_init 30 = .ok (.putfield 22, 3) := by decide +kernel
theorem dX1_init_33 : decode cX1_init 33 = .ok (.aload_n 0, 1) := by decide +kernel
theorem dX1_init_34 : decode cX1_init 34 = .ok (.bipush 30, 2) := by decide +kernel
theorem dX1_init_36 : decode cX1_init 36 = .ok (.newarray .int, 2) := by decide +kernel
theorem dX1_init_38 : decode cX1_init 38 = .ok (.putfield 25, 3) := by decide +kernel
theorem dX1_init_41 : decode cX1_init 41 = .ok (.aload_n 0, 1) := by decide +kernel
theorem dX1_init_42 : decode cX1_init 42 = .ok (.bipush 30, 2) := by decide +kernel
theorem dX1_init_44 : decode cX1_init 44 = .ok (.newarray .int, 2) := by decide +kernel
theorem dX1_init_46 : decode cX1_init 46 = .ok (.putfield 28, 3) := by decide +kernel
theorem dX1_init_49 : decode cX1_init 49 = .ok (.aload_n 0, 1) := by decide +kernel
theorem dX1_init_50 : decode cX1_init 50 = .ok (.bipush 30, 2) := by decide +kernel
theorem dX1_init_52 : decode cX1_init 52 = .ok (.newarray .boolean, 2) := by decide +kernel
theorem dX1_init_54 : decode cX1_init 54 = .ok (.putfield 31, 3) := by decide +kernel
theorem dX1_init_57 : decode cX1_init 57 = .ok (.aload_n 0, 1) := by decide +kernel
theorem dX1_init_58 : decode cX1_init 58 = .ok (.bipush 8, 2) := by decide +kernel
theorem dX1_init_60 : decode cX1_init 60 = .ok (.newarray .int, 2) := by decide +kernel
theorem dX1_init_62 : decode cX1_init 62 = .ok (.dup, 1) := by decide +kernel
theorem dX1_init_63 : decode cX1_init 63 = .ok (.iconst 0, 1) := by decide +kernel
theorem dX1_init_64 : decode cX1_init 64 = .ok (.iconst (-1), 1) := by decide +kernel
theorem dX1_init_65 : decode cX1_init 65 = .ok (.iastore, 1) := by decide +kernel
theorem dX1_init_66 : decode cX1_init 66 = .ok (.dup, 1) := by decide +kernel
theorem dX1_init_67 : decode cX1_init 67 = .ok (.iconst 1, 1) := by decide +kernel
theorem dX1_init_68 : decode cX1_init 68 = .ok (.iconst (-1), 1) := by decide +kernel
theorem dX1_init_69 : decode cX1_init 69 = .ok (.iastore, 1) := by decide +kernel
theorem dX1_init_70 : decode cX1_init 70 = .ok (.dup, 1) := by decide +kernel
theorem dX1_init_71 : decode cX1_init 71 = .ok (.iconst 2, 1) := by decide +kernel
theorem dX1_init_72 : decode cX1_init 72 = .ok (.iconst (-1), 1) := by decide +kernel
theorem dX1_init_73 : decode cX1_init 73 = .ok (.iastore, 1) := by decide +kernel
theorem dX1_init_74 : decode cX1_init 74 = .ok (.dup, 1) := by decide +kernel
theorem dX1_init_75 : decode cX1_init 75 = .ok (.iconst 3, 1) := by decide +kernel
theorem dX1_init_76 : decode cX1_init 76 = .ok (.iconst (-1), 1) := by decide +kernel
theorem dX1_init_77 : decode cX1_init 77 = .ok (.iastore, 1) := by decide +kernel
theorem dX1_init_78 : decode cX1_init 78 = .ok (.dup, 1) := by decide +kernel
theorem dX1_init_79 : decode cX1_init 79 = .ok (.iconst 4, 1) := by decide +kernel
theorem dX1_init_80 : decode cX1_init 80 = .ok (.iconst (-1), 1) := by decide +kernel
theorem dX1_init_81 : decode cX1_init 81 = .ok (.iastore, 1) := by decide +kernel
theorem dX1_init_82 : decode cX1_init 82 = .ok (.dup, 1) := by decide +kernel
theorem dX1_init_83 : decode cX1_init 83 = .ok (.iconst 5, 1) := by decide +kernel
theorem dX1_init_84 : decode cX1_init 84 = .ok (.iconst (-1), 1) := by decide +kernel
theorem dX1_init_85 : decode cX1_init 85 = .ok (.iastore, 1) := by decide +kernel
theorem dX1_init_86 : decode cX1_init 86 = .ok (.dup, 1) := by decide +kernel
theorem dX1_init_87 : decode cX1_init 87 = .ok (.bipush 6, 2) := by decide +kernel
theorem dX1_init_89 : decode cX1_init 89 = .ok (.iconst (-1), 1) := by decide +kernel
theorem dX1_init_90 : decode cX1_init 90 = .ok (.iastore, 1) := by decide +kernel
theorem dX1_init_91 : decode cX1_init 91 = .ok (.dup, 1) := by decide +kernel
theorem dX1_init_92 : decode cX1_init 92 = .ok (.bipush 7, 2) := by decide +kernel
theorem dX1_init_94 : decode cX1_init 94 = .ok (.iconst (-1), 1) := by decide +kernel
theorem dX1_init_95 : decode cX1_init 95 = .ok (.iastore, 1) := by decide +kernel
theorem dX1_init_96 : decode cX1_init 96 = .ok (.putfield 35, 3) := by decide +kernel
theorem dX1_init_99 : decode cX1_init 99 = .ok (.aload_n 0, 1) := by decide +kernel
theorem dX1_init_100 : decode cX1_init 100 = .ok (.bipush 8, 2) := by decide +kernel
theorem dX1_init_102 : decode cX1_init 102 = .ok (.newarray .int, 2) := by decide +kernel
theorem dX1_init_104 : decode cX1_init 104 = .ok (.putfield 38, 3) := by decide +kernel
theorem dX1_init_107 : decode cX1_init 107 = .ok (.aload_n 0, 1) := by decide +kernel
theorem dX1_init_108 : decode cX1_init 108 = .ok (.bipush 8, 2) := by decide +kernel
theorem dX1_init_110 : decode cX1_init 110 = .ok (.newarray .boolean, 2) := by decide +kernel
theorem dX1_init_112 : decode cX1_init 112 = .ok (.putfield 41, 3) := by decide +kernel
theorem dX1_init_115 : decode cX1_init 115 = .ok (.return_, 1) := by decide +kernel
theorem dX1_has_0 : decode cX1_has 0 = .ok (.iload_n 1, 1) := by decide +kernel
theorem dX1_has_1 : decode cX1_has 1 = .ok (.ifCond .lt 21, 3) := by decide +kernel
theorem dX1_has_4 : decode cX1_has 4 = .ok (.iload_n 1, 1) := by decide +kernel
theorem dX1_has_5 : decode cX1_has 5 = .ok (.aload_n 0, 1) := by decide +kernel
theorem dX1_has_6 : decode cX1_has 6 = .ok (.getfield 9, 3) := by decide +kernel
theorem dX1_has_9 : decode cX1_has 9 = .ok (.if_icmp .ge 13, 3) := by decide +kernel
theorem dX1_has_12 : decode cX1_has 12 = .ok (.iload_n 1, 1) := by decide +kernel
theorem dX1_has_13 : decode cX1_has 13 = .ok (.bipush 30, 2) := by decide +kernel
theorem dX1_has_15 : decode cX1_has 15 = .ok (.if_icmp .ge 7, 3) := by decide +kernel
theorem dX1_has_18 : decode cX1_has 18 = .ok (.iconst 1, 1) := by decide +kernel
theorem dX1_has_19 : decode cX1_has 19 = .ok (.goto 4, 3) := by decide +kernel
theorem dX1_has_22 : decode cX1_has 22 = .ok (.iconst 0, 1) := by decide +kernel
theorem dX1_has_23 : decode cX1_has 23 = .ok (.ireturn, 1) := by decide +kernel
theorem dX1_isOf_0 : decode cX1_isOf 0 = .ok (.iconst 0, 1) := by decide +kernel
theorem dX1_isOf_1 : decode cX1_isOf 1 = .ok (.istore_n 2, 1) := by decide +kernel
theorem dX1_isOf_2 : decode cX1_isOf 2 = .ok (.iload_n 2, 1) := by decide +kernel
theorem dX1_isOf_3 : decode cX1_isOf 3 = .ok (.aload_n 0, 1) := by decide +kernel
theorem dX1_isOf_4 : decode cX1_isOf 4 = .ok (.getfield 9, 3) := by decide +kernel
theorem dX1_isOf_7 : decode cX1_isOf 7 = .ok (.if_icmp .ge 21, 3) := by decide +kernel
theorem dX1_isOf_10 : decode cX1_isOf 10 = .ok (.aload_n 0, 1) := by decide +kernel
theorem dX1_isOf_11 : decode cX1_isOf 11 = .ok (.getfield 15, 3) := by decide +kernel
theorem dX1_isOf_14 : decode cX1_isOf 14 = .ok (.iload_n 2, 1) := by decide +kernel
theorem dX1_isOf_15 : decode cX1_isOf 15 = .ok (.iaload, 1) := by decide +kernel
theorem dX1_isOf_16 : decode cX1_isOf 16 = .ok (.iload_n 1, 1) := by decide +kernel
theorem dX1_isOf_17 : decode cX1_isOf 17 = .ok (.if_icmp .ne 5, 3) := by decide +kernel
theorem dX1_isOf_20 : decode cX1_isOf 20 = .ok (.iconst 1, 1) := by decide +kernel
theorem dX1_isOf_21 : decode cX1_isOf 21 = .ok (.ireturn, 1) := by decide +kernel
theorem dX1_isOf_22 : decode cX1_isOf 22 = .ok (.iinc 2 1, 3) := by decide +kernel
theorem dX1_isOf_25 : decode cX1_isOf 25 = .ok (.goto (-23), 3) := by decide +kernel
theorem dX1_isOf_28 : decode cX1_isOf 28 = .ok (.iconst 0, 1) := by decide +kernel
theorem dX1_isOf_29 : decode cX1_isOf 29 = .ok (.ireturn, 1) := by decide +kernel
theorem dX1_add_0 : decode cX1_add 0 = .ok (.aload_n 0, 1) := by decide +kernel
theorem dX1_add_1 : decode cX1_add 1 = .ok (.getfield 9, 3) := by decide +kernel
theorem dX1_add_4 : decode cX1_add 4 = .ok (.bipush 30, 2) := by decide +kernel
theorem dX1_add_6 : decode cX1_add 6 = .ok (.if_icmp .lt 6, 3) := by decide +kernel
theorem dX1_add_9 : decode cX1_add 9 = .ok (.bipush (-6), 2) := by decide +kernel
theorem dX1_add_11 : decode cX1_add 11 = .ok (.ireturn, 1) := by decide +kernel
theorem dX1_add_12 : decode cX1_add 12 = .ok (.aload_n 0, 1) := by decide +kernel
theorem dX1_add_13 : decode cX1_add 13 = .ok (.getfield 15, 3) := by decide +kernel
theorem dX1_add_16 : decode cX1_add 16 = .ok (.aload_n 0, 1) := by decide +kernel
theorem dX1_add_17 : decode cX1_add 17 = .ok (.getfield 9, 3) := by decide +kernel
theorem dX1_add_20 : decode cX1_add 20 = .ok (.iload_n 1, 1) := by decide +kernel
theorem dX1_add_21 : decode cX1_add 21 = .ok (.iastore, 1) := by decide +kernel
theorem dX1_add_22 : decode cX1_add 22 = .ok (.aload_n 0, 1) := by decide +kernel
theorem dX1_add_23 : decode cX1_add 23 = .ok (.getfield 19, 3) := by decide +kernel
theorem dX1_add_26 : decode cX1_add 26 = .ok (.aload_n 0, 1) := by decide +kernel
theorem dX1_add_27 : decode cX1_add 27 = .ok (.getfield 9, 3) := by decide +kernel
theorem dX1_add_30 : decode cX1_add 30 = .ok (.iload_n 2, 1) := by decide +kernel
theorem dX1_add_31 : decode cX1_add 31 = .ok (.iastore, 1) := by decide +kernel
theorem dX1_add_32 : decode cX1_add 32 = .ok (.aload_n 0, 1) := by decide +kernel
theorem dX1_add_33 : decode cX1_add 33 = .ok (.getfield 22, 3) := by decide +kernel
theorem dX1_add_36 : decode cX1_add 36 = .ok (.aload_n 0, 1) := by decide +kernel
theorem dX1_add_37 : decode cX1_add 37 = .ok (.getfield 9, 3) := by decide +kernel
theorem dX1_add_40 : decode cX1_add 40 = .ok (.iload_n 3, 1) := by decide +kernel
theorem dX1_add_41 : decode cX1_add 41 = .ok (.iastore, 1) := by decide +kernel
theorem dX1_add_42 : decode cX1_add 42 = .ok (.aload_n 0, 1) := by decide +kernel
theorem dX1_add_43 : decode cX1_add 43 = .ok (.getfield 25, 3) := by decide +kernel
theorem dX1_add_46 : decode cX1_add 46 = .ok (.aload_n 0, 1) := by decide +kernel
theorem dX1_add_47 : decode cX1_add 47 = .ok (.getfield 9, 3) := by decide +kernel
theorem dX1_add_50 : decode cX1_add 50 = .ok (.iload 4, 2) := by decide +kernel
theorem dX1_add_52 : decode cX1_add 52 = .ok (.iastore, 1) := by decide +kernel
theorem dX1_add_53 : decode cX1_add 53 = .ok (.aload_n 0, 1) := by decide +kernel
theorem dX1_add_54 : decode cX1_add 54 = .ok (.getfield 28, 3) := by decide +kernel
theorem dX1_add_57 : decode cX1_add 57 = .ok (.aload_n 0, 1) := by decide +kernel
theorem dX1_add_58 : decode cX1_add 58 = .ok (.getfield 9, 3) := by decide +kernel
theorem dX1_add_61 : decode cX1_add 61 = .ok (.iload 5, 2) := by decide +kernel
theorem dX1_add_63 : decode cX1_add 63 = .ok (.iastore, 1) := by decide +kernel
theorem dX1_add_64 : decode cX1_add 64 = .ok (.aload_n 0, 1) := by decide +kernel
theorem dX1_add_65 : decode cX1_add 65 = .ok (.getfield 31, 3) := by decide +kernel
theorem dX1_add_68 : decode cX1_add 68 = .ok (.aload_n 0, 1) := by decide +kernel
theorem dX1_add_69 : decode cX1_add 69 = .ok (.getfield 9, 3) := by decide +kernel
theorem dX1_add_72 : decode cX1_add 72 = .ok (.iconst 0, 1) := by decide +kernel
theorem dX1_add_73 : decode cX1_add 73 = .ok (.bastore, 1) := by decide +kernel
theorem dX1_add_74 : decode cX1_add 74 = .ok (.aload_n 0, 1) := by decide +kernel
theorem dX1_add_75 : decode cX1_add 75 = .ok (.dup, 1) := by decide +kernel
theorem dX1_add_76 : decode cX1_add 76 = .ok (.getfield 9, 3) := by decide +kernel
theorem dX1_add_79 : decode cX1_add 79 = .ok (.iconst 1, 1) := by decide +kernel
theorem dX1_add_80 : decode cX1_add 80 = .ok (.iadd, 1) := by decide +kernel
theorem dX1_add_81 : decode cX1_add 81 = .ok (.putfield 9, 3) := by decide +kernel
theorem dX1_add_84 : decode cX1_add 84 = .ok (.aload_n 0, 1) := by decide +kernel
theorem dX1_add_85 : decode cX1_add 85 = .ok (.getfield 9, 3) := by decide +kernel
theorem dX1_add_88 : decode cX1_add 88 = .ok (.iconst 1, 1) := by decide +kernel
theorem dX1_add_89 : decode cX1_add 89 = .ok (.isub, 1) := by decide +kernel
theorem dX1_add_90 : decode cX1_add 90 = .ok (.ireturn, 1) := by decide +kernel
theorem dX1_endBy_0 : decode cX1_endBy 0 = .ok (.aload_n 0, 1) := by decide +kernel
theorem dX1_endBy_1 : decode cX1_endBy 1 = .ok (.getfield 31, 3) := by decide +kernel
theorem dX1_endBy_4 : decode cX1_endBy 4 = .ok (.iload_n 1, 1) := by decide +kernel
theorem dX1_endBy_5 : decode cX1_endBy 5 = .ok (.iconst 1, 1) := by decide +kernel
theorem dX1_endBy_6 : decode cX1_endBy 6 = .ok (.bastore, 1) := by decide +kernel
theorem dX1_endBy_7 : decode cX1_endBy 7 = .ok (.aload_n 0, 1) := by decide +kernel
theorem dX1_endBy_8 : decode cX1_endBy 8 = .ok (.getfield 25, 3) := by decide +kernel
theorem dX1_endBy_11 : decode cX1_endBy 11 = .ok (.iload_n 1, 1) := by decide +kernel
theorem dX1_endBy_12 : decode cX1_endBy 12 = .ok (.aload_n 0, 1) := by decide +kernel
theorem dX1_endBy_13 : decode cX1_endBy 13 = .ok (.getfield 25, 3) := by decide +kernel
theorem dX1_endBy_16 : decode cX1_endBy 16 = .ok (.iload_n 1, 1) := by decide +kernel
theorem dX1_endBy_17 : decode cX1_endBy 17 = .ok (.iaload, 1) := by decide +kernel
theorem dX1_endBy_18 : decode cX1_endBy 18 = .ok (.iload_n 2, 1) := by decide +kernel
theorem dX1_endBy_19 : decode cX1_endBy 19 = .ok (.invokestatic 44, 3) := by decide +kernel
theorem dX1_endBy_22 : decode cX1_endBy 22 = .ok (.iastore, 1) := by decide +kernel
theorem dX1_endBy_23 : decode cX1_endBy 23 = .ok (.aload_n 0, 1) := by decide +kernel
theorem dX1_endBy_24 : decode cX1_endBy 24 = .ok (.getfield 25, 3) := by decide +kernel
theorem dX1_endBy_27 : decode cX1_endBy 27 = .ok (.iload_n 1, 1) := by decide +kernel
theorem dX1_endBy_28 : decode cX1_endBy 28 = .ok (.iaload, 1) := by decide +kernel
theorem dX1_endBy_29 : decode cX1_endBy 29 = .ok (.ireturn, 1) := by decide +kernel
theorem dX1_worthBy_0 : decode cX1_worthBy 0 = .ok (.aload_n 0, 1) := by decide +kernel
theorem dX1_worthBy_1 : decode cX1_worthBy 1 = .ok (.getfield 35, 3) := by decide +kernel
theorem dX1_worthBy_4 : decode cX1_worthBy 4 = .ok (.iload_n 1, 1) := by decide +kernel
theorem dX1_worthBy_5 : decode cX1_worthBy 5 = .ok (.iaload, 1) := by decide +kernel
theorem dX1_worthBy_6 : decode cX1_worthBy 6 = .ok (.istore_n 3, 1) := by decide +kernel
theorem dX1_worthBy_7 : decode cX1_worthBy 7 = .ok (.aload_n 0, 1) := by decide +kernel
theorem dX1_worthBy_8 : decode cX1_worthBy 8 = .ok (.iload_n 2, 1) := by decide +kernel
theorem dX1_worthBy_9 : decode cX1_worthBy 9 = .ok (.invokevirtual 50, 3) := by decide +kernel
theorem dX1_worthBy_12 : decode cX1_worthBy 12 = .ok (.ifCond .ne 15, 3) := by decide +kernel
theorem dX1_worthBy_15 : decode cX1_worthBy 15 = .ok (.iload_n 3, 1) := by decide +kernel
theorem dX1_worthBy_16 : decode cX1_worthBy 16 = .ok (.iconst (-1), 1) := by decide +kernel
theorem dX1_worthBy_17 : decode cX1_worthBy 17 = .ok (.if_icmp .ne 8, 3) := by decide +kernel
theorem dX1_worthBy_20 : decode cX1_worthBy 20 = .ok (.bipush (-9), 2) := by decide +kernel
theorem dX1_worthBy_22 : decode cX1_worthBy 22 = .ok (.goto 4, 3) := by decide +kernel
theorem dX1_worthBy_25 : decode cX1_worthBy 25 = .ok (.iload_n 3, 1) := by decide +kernel
theorem dX1_worthBy_26 : decode cX1_worthBy 26 = .ok (.ireturn, 1) := by decide +kernel
theorem dX1_worthBy_27 : decode cX1_worthBy 27 = .ok (.iload_n 3, 1) := by decide +kernel
theorem dX1_worthBy_28 : decode cX1_worthBy 28 = .ok (.iconst (-1), 1) := by decide +kernel
theorem dX1_worthBy_29 : decode cX1_worthBy 29 = .ok (.if_icmp .eq 13, 3) := by decide +kernel
theorem dX1_worthBy_32 : decode cX1_worthBy 32 = .ok (.aload_n 0, 1) := by decide +kernel
theorem dX1_worthBy_33 : decode cX1_worthBy 33 = .ok (.getfield 38, 3) := by decide +kernel
theorem dX1_worthBy_36 : decode cX1_worthBy 36 = .ok (.iload_n 1, 1) := by decide +kernel
theorem dX1_worthBy_37 : decode cX1_worthBy 37 = .ok (.iaload, 1) := by decide +kernel
theorem dX1_worthBy_38 : decode cX1_worthBy 38 = .ok (.iconst 2, 1) := by decide +kernel
theorem dX1_worthBy_39 : decode cX1_worthBy 39 = .ok (.if_icmp .ne 10, 3) := by decide +kernel
theorem dX1_worthBy_42 : decode cX1_worthBy 42 = .ok (.aload_n 0, 1) := by decide +kernel
theorem dX1_worthBy_43 : decode cX1_worthBy 43 = .ok (.getfield 19, 3) := by decide +kernel
theorem dX1_worthBy_46 : decode cX1_worthBy 46 = .ok (.iload_n 2, 1) := by decide +kernel
theorem dX1_worthBy_47 : decode cX1_worthBy 47 = .ok (.iaload, 1) := by decide +kernel
theorem dX1_worthBy_48 : decode cX1_worthBy 48 = .ok (.ireturn, 1) := by decide +kernel
theorem dX1_worthBy_49 : decode cX1_worthBy 49 = .ok (.aload_n 0, 1) := by decide +kernel
theorem dX1_worthBy_50 : decode cX1_worthBy 50 = .ok (.getfield 38, 3) := by decide +kernel
theorem dX1_worthBy_53 : decode cX1_worthBy 53 = .ok (.iload_n 1, 1) := by decide +kernel
theorem dX1_worthBy_54 : decode cX1_worthBy 54 = .ok (.iaload, 1) := by decide +kernel
theorem dX1_worthBy_55 : decode cX1_worthBy 55 = .ok (.ifCond .ne 7, 3) := by decide +kernel
theorem dX1_worthBy_58 : decode cX1_worthBy 58 = .ok (.iload_n 3, 1) := by decide +kernel
theorem dX1_worthBy_59 : decode cX1_worthBy 59 = .ok (.goto 13, 3) := by decide +kernel
theorem dX1_worthBy_62 : decode cX1_worthBy 62 = .ok (.iload_n 3, 1) := by decide +kernel
theorem dX1_worthBy_63 : decode cX1_worthBy 63 = .ok (.aload_n 0, 1) := by decide +kernel
theorem dX1_worthBy_64 : decode cX1_worthBy 64 = .ok (.getfield 19, 3) := by decide +kernel
theorem dX1_worthBy_67 : decode cX1_worthBy 67 = .ok (.iload_n 2, 1) := by decide +kernel
theorem dX1_worthBy_68 : decode cX1_worthBy 68 = .ok (.iaload, 1) := by decide +kernel
theorem dX1_worthBy_69 : decode cX1_worthBy 69 = .ok (.invokestatic 54, 3) := by decide +kernel
theorem dX1_worthBy_72 : decode cX1_worthBy 72 = .ok (.ireturn, 1) := by decide +kernel
theorem dX2_init_0 : decode cX2_init 0 = .ok (.aload_n 0, 1) := by decide +kernel
theorem dX2_init_1 : decode cX2_init 1 = .ok (.invokespecial 3, 3) := by decide +kernel
theorem dX2_init_4 : decode cX2_init 4 = .ok (.aload_n 0, 1) := by decide +kernel
theorem dX2_init_5 : decode cX2_init 5 = .ok (.bipush 6, 2) := by decide +kernel
theorem dX2_init_7 : decode cX2_init 7 = .ok (.newarray .int, 2) := by decide +kernel
theorem dX2_init_9 : decode cX2_init 9 = .ok (.putfield 9, 3) := by decide +kernel
theorem dX2_init_12 : decode cX2_init 12 = .ok (.aload_n 0, 1) := by decide +kernel
theorem dX2_init_13 : decode cX2_init 13 = .ok (.iconst 0, 1) := by decide +kernel
theorem dX2_init_14 : decode cX2_init 14 = .ok (.putfield 15, 3) := by decide +kernel
theorem dX2_init_17 : decode cX2_init 17 = .ok (.aload_n 0, 1) := by decide +kernel
theorem dX2_init_18 : decode cX2_init 18 = .ok (.bipush 9, 2) := by decide +kernel
theorem dX2_init_20 : decode cX2_init 20 = .ok (.newarray .int, 2) := by decide +kernel
theorem dX2_init_22 : decode cX2_init 22 = .ok (.putfield 19, 3) := by decide +kernel
theorem dX2_init_25 : decode cX2_init 25 = .ok (.aload_n 0, 1) := by decide +kernel
theorem dX2_init_26 : decode cX2_init 26 = .ok (.bipush 9, 2) := by decide +kernel
theorem dX2_init_28 : decode cX2_init 28 = .ok (.newarray .int, 2) := by decide +kernel
theorem dX2_init_30 : decode cX2_init 30 = .ok (.putfield 22, 3) := by decide +kernel
theorem dX2_init_33 : decode cX2_init 33 = .ok (.aload_n 0, 1) := by decide +kernel
theorem dX2_init_34 : decode cX2_init 34 = .ok (.bipush 6, 2) := by decide +kernel
theorem dX2_init_36 : decode cX2_init 36 = .ok (.newarray .int, 2) := by decide +kernel
theorem dX2_init_38 : decode cX2_init 38 = .ok (.putfield 25, 3) := by decide +kernel
theorem dX2_init_41 : decode cX2_init 41 = .ok (.aload_n 0, 1) := by decide +kernel
theorem dX2_init_42 : decode cX2_init 42 = .ok (.iconst 0, 1) := by decide +kernel
theorem dX2_init_43 : decode cX2_init 43 = .ok (.putfield 28, 3) := by decide +kernel
theorem dX2_init_46 : decode cX2_init 46 = .ok (.aload_n 0, 1) := by decide +kernel
theorem dX2_init_47 : decode cX2_init 47 = .ok (.bipush 30, 2) := by decide +kernel
theorem dX2_init_49 : decode cX2_init 49 = .ok (.newarray .int, 2) := by decide +kernel
theorem dX2_init_51 : decode cX2_init 51 = .ok (.putfield 31, 3) := by decide +kernel
theorem dX2_init_54 : decode cX2_init 54 = .ok (.aload_n 0, 1) := by decide +kernel
theorem dX2_init_55 : decode cX2_init 55 = .ok (.bipush 30, 2) := by decide +kernel
theorem dX2_init_57 : decode cX2_init 57 = .ok (.newarray .int, 2) := by decide +kernel
theorem dX2_init_59 : decode cX2_init 59 = .ok (.putfield 34, 3) := by decide +kernel
theorem dX2_init_62 : decode cX2_init 62 = .ok (.aload_n 0, 1) := by decide +kernel
theorem dX2_init_63 : decode cX2_init 63 = .ok (.bipush 30, 2) := by decide +kernel
theorem dX2_init_65 : decode cX2_init 65 = .ok (.newarray .boolean, 2) := by decide +kernel
theorem dX2_init_67 : decode cX2_init 67 = .ok (.putfield 37, 3) := by decide +kernel
theorem dX2_init_70 : decode cX2_init 70 = .ok (.aload_n 0, 1) := by decide +kernel
theorem dX2_init_71 : decode cX2_init 71 = .ok (.bipush 30, 2) := by decide +kernel
theorem dX2_init_73 : decode cX2_init 73 = .ok (.newarray .int, 2) := by decide +kernel
theorem dX2_init_75 : decode cX2_init 75 = .ok (.putfield 41, 3) := by decide +kernel
theorem dX2_init_78 : decode cX2_init 78 = .ok (.aload_n 0, 1) := by decide +kernel
theorem dX2_init_79 : decode cX2_init 79 = .ok (.bipush 30, 2) := by decide +kernel
theorem dX2_init_81 : decode cX2_init 81 = .ok (.newarray .int, 2) := by decide +kernel
theorem dX2_init_83 : decode cX2_init 83 = .ok (.putfield 44, 3) := by decide +kernel
theorem dX2_init_86 : decode cX2_init 86 = .ok (.return_, 1) := by decide +kernel
theorem dX2_fillSeats_0 : decode cX2_fillSeats 0 = .ok (.aload_n 0, 1) := by decide +kernel
theorem dX2_fillSeats_1 : decode cX2_fillSeats 1 = .ok (.iconst 0, 1) := by decide +kernel
theorem dX2_fillSeats_2 : decode cX2_fillSeats 2 = .ok (.putfield 15, 3) := by decide +kernel
theorem dX2_fillSeats_5 : decode cX2_fillSeats 5 = .ok (.iconst 0, 1) := by decide +kernel
theorem dX2_fillSeats_6 : decode cX2_fillSeats 6 = .ok (.istore_n 2, 1) := by decide +kernel
theorem dX2_fillSeats_7 : decode cX2_fillSeats 7 = .ok (.iload_n 2, 1) := by decide +kernel
theorem dX2_fillSeats_8 : decode cX2_fillSeats 8 = .ok (.bipush 6, 2) := by decide +kernel
theorem dX2_fillSeats_10 : decode cX2_fillSeats 10 = .ok (.if_icmp .ge 16, 3) := by decide +kernel
theorem dX2_fillSeats_13 : decode cX2_fillSeats 13 = .ok (.aload_n 0, 1) := by decide +kernel
theorem dX2_fillSeats_14 : decode cX2_fillSeats 14 = .ok (.getfield 25, 3) := by decide +kernel
theorem dX2_fillSeats_17 : decode cX2_fillSeats 17 = .ok (.iload_n 2, 1) := by decide +kernel
theorem dX2_fillSeats_18 : decode cX2_fillSeats 18 = .ok (.iconst 0, 1) := by decide +kernel
theorem dX2_fillSeats_19 : decode cX2_fillSeats 19 = .ok (.iastore, 1) := by decide +kernel
theorem dX2_fillSeats_20 : decode cX2_fillSeats 20 = .ok (.iinc 2 1, 3) := by decide +kernel
theorem dX2_fillSeats_23 : decode cX2_fillSeats 23 = .ok (.goto (-16), 3) := by decide +kernel
theorem dX2_fillSeats_26 : decode cX2_fillSeats 26 = .ok (.iconst 0, 1) := by decide +kernel
theorem dX2_fillSeats_27 : decode cX2_fillSeats 27 = .ok (.istore_n 2, 1) := by decide +kernel
theorem dX2_fillSeats_28 : decode cX2_fillSeats 28 = .ok (.iload_n 2, 1) := by decide +kernel
theorem dX2_fillSeats_29 : decode cX2_fillSeats 29 = .ok (.iload_n 1, 1) := by decide +kernel
theorem dX2_fillSeats_30 : decode cX2_fillSeats 30 = .ok (.if_icmp .ge 61, 3) := by decide +kernel
theorem dX2_fillSeats_33 : decode cX2_fillSeats 33 = .ok (.iload_n 2, 1) := by decide +kernel
theorem dX2_fillSeats_34 : decode cX2_fillSeats 34 = .ok (.bipush 9, 2) := by decide +kernel
theorem dX2_fillSeats_36 : decode cX2_fillSeats 36 = .ok (.if_icmp .ge 55, 3) := by decide +kernel
theorem dX2_fillSeats_39 : decode cX2_fillSeats 39 = .ok (.aload_n 0, 1) := by decide +kernel
theorem dX2_fillSeats_40 : decode cX2_fillSeats 40 = .ok (.invokevirtual 47, 3) := by decide +kernel
theorem dX2_fillSeats_43 : decode cX2_fillSeats 43 = .ok (.istore_n 3, 1) := by decide +kernel
theorem dX2_fillSeats_44 : decode cX2_fillSeats 44 = .ok (.iload_n 3, 1) := by decide +kernel
theorem dX2_fillSeats_45 : decode cX2_fillSeats 45 = .ok (.ifCond .ge 8, 3) := by decide +kernel
theorem dX2_fillSeats_48 : decode cX2_fillSeats 48 = .ok (.aload_n 0, 1) := by decide +kernel
theorem dX2_fillSeats_49 : decode cX2_fillSeats 49 = .ok (.getfield 15, 3) := by decide +kernel
theorem dX2_fillSeats_52 : decode cX2_fillSeats 52 = .ok (.ireturn, 1) := by decide +kernel
theorem dX2_fillSeats_53 : decode cX2_fillSeats 53 = .ok (.aload_n 0, 1) := by decide +kernel
theorem dX2_fillSeats_54 : decode cX2_fillSeats 54 = .ok (.getfield 25, 3) := by decide +kernel
theorem dX2_fillSeats_57 : decode cX2_fillSeats 57 = .ok (.iload_n 3, 1) := by decide +kernel
theorem dX2_fillSeats_58 : decode cX2_fillSeats 58 = .ok (.dup2, 1) := by decide +kernel
theorem dX2_fillSeats_59 : decode cX2_fillSeats 59 = .ok (.iaload, 1) := by decide +kernel
theorem dX2_fillSeats_60 : decode cX2_fillSeats 60 = .ok (.iconst 1, 1) := by decide +kernel
theorem dX2_fillSeats_61 : decode cX2_fillSeats 61 = .ok (.iadd, 1) := by decide +kernel
theorem dX2_fillSeats_62 : decode cX2_fillSeats 62 = .ok (.iastore, 1) := by decide +kernel
theorem dX2_fillSeats_63 : decode cX2_fillSeats 63 = .ok (.aload_n 0, 1) := by decide +kernel
theorem dX2_fillSeats_64 : decode cX2_fillSeats 64 = .ok (.getfield 19, 3) := by decide +kernel
theorem dX2_fillSeats_67 : decode cX2_fillSeats 67 = .ok (.iload_n 2, 1) := by decide +kernel
theorem dX2_fillSeats_68 : decode cX2_fillSeats 68 = .ok (.iload_n 3, 1) := by decide +kernel
theorem dX2_fillSeats_69 : decode cX2_fillSeats 69 = .ok (.iastore, 1) := by decide +kernel
theorem dX2_fillSeats_70 : decode cX2_fillSeats 70 = .ok (.aload_n 0, 1) := by decide +kernel
theorem dX2_fillSeats_71 : decode cX2_fillSeats 71 = .ok (.getfield 22, 3) := by decide +kernel
theorem dX2_fillSeats_74 : decode cX2_fillSeats 74 = .ok (.iload_n 2, 1) := by decide +kernel
theorem dX2_fillSeats_75 : decode cX2_fillSeats 75 = .ok (.bipush (-9), 2) := by decide +kernel
theorem dX2_fillSeats_77 : decode cX2_fillSeats 77 = .ok (.iastore, 1) := by decide +kernel
theorem dX2_fillSeats_78 : decode cX2_fillSeats 78 = .ok (.aload_n 0, 1) := by decide +kernel
theorem dX2_fillSeats_79 : decode cX2_fillSeats 79 = .ok (.iload_n 2, 1) := by decide +kernel
theorem dX2_fillSeats_80 : decode cX2_fillSeats 80 = .ok (.iconst 1, 1) := by decide +kernel
theorem dX2_fillSeats_81 : decode cX2_fillSeats 81 = .ok (.iadd, 1) := by decide +kernel
theorem dX2_fillSeats_82 : decode cX2_fillSeats 82 = .ok (.putfield 15, 3) := by decide +kernel
theorem dX2_fillSeats_85 : decode cX2_fillSeats 85 = .ok (.iinc 2 1, 3) := by decide +kernel
theorem dX2_fillSeats_88 : decode cX2_fillSeats 88 = .ok (.goto (-60), 3) := by decide +kernel
theorem dX2_fillSeats_91 : decode cX2_fillSeats 91 = .ok (.aload_n 0, 1) := by decide +kernel
theorem dX2_fillSeats_92 : decode cX2_fillSeats 92 = .ok (.getfield 15, 3) := by decide +kernel
theorem dX2_fillSeats_95 : decode cX2_fillSeats 95 = .ok (.ireturn, 1) := by decide +kernel
theorem dX2_nextWinner_0 : decode cX2_nextWinner 0 = .ok (.bipush (-9), 2) := by decide +kernel
theorem dX2_nextWinner_2 : decode cX2_nextWinner 2 = .ok (.istore_n 1, 1) := by decide +kernel
theorem dX2_nextWinner_3 : decode cX2_nextWinner 3 = .ok (.iconst 0, 1) := by decide +kernel
theorem dX2_nextWinner_4 : decode cX2_nextWinner 4 = .ok (.istore_n 2, 1) := by decide +kernel
theorem dX2_nextWinner_5 : decode cX2_nextWinner 5 = .ok (.iload_n 2, 1) := by decide +kernel
theorem dX2_nextWinner_6 : decode cX2_nextWinner 6 = .ok (.bipush 6, 2) := by decide +kernel
theorem dX2_nextWinner_8 : decode cX2_nextWinner 8 = .ok (.if_icmp .ge 57, 3) := by decide +kernel
theorem dX2_nextWinner_11 : decode cX2_nextWinner 11 = .ok (.aload_n 0, 1) := by decide +kernel
theorem dX2_nextWinner_12 : decode cX2_nextWinner 12 = .ok (.getfield 9, 3) := by decide +kernel
theorem dX2_nextWinner_15 : decode cX2_nextWinner 15 = .ok (.iload_n 2, 1) := by decide +kernel
theorem dX2_nextWinner_16 : decode cX2_nextWinner 16 = .ok (.iaload, 1) := by decide +kernel
theorem dX2_nextWinner_17 : decode cX2_nextWinner 17 = .ok (.ifCond .le 42, 3) := by decide +kernel
theorem dX2_nextWinner_20 : decode cX2_nextWinner 20 = .ok (.iload_n 1, 1) := by decide +kernel
theorem dX2_nextWinner_21 : decode cX2_nextWinner 21 = .ok (.ifCond .lt 36, 3) := by decide +kernel
theorem dX2_nextWinner_24 : decode cX2_nextWinner 24 = .ok (.aload_n 0, 1) := by decide +kernel
theorem dX2_nextWinner_25 : decode cX2_nextWinner 25 = .ok (.getfield 9, 3) := by decide +kernel
theorem dX2_nextWinner_28 : decode cX2_nextWinner 28 = .ok (.iload_n 2, 1) := by decide +kernel
theorem dX2_nextWinner_29 : decode cX2_nextWinner 29 = .ok (.iaload, 1) := by decide +kernel
theorem dX2_nextWinner_30 : decode cX2_nextWinner 30 = .ok (.aload_n 0, 1) := by decide +kernel
theorem dX2_nextWinner_31 : decode cX2_nextWinner 31 = .ok (.getfield 25, 3) := by decide +kernel
theorem dX2_nextWinner_34 : decode cX2_nextWinner 34 = .ok (.iload_n 1, 1) := by decide +kernel
theorem dX2_nextWinner_35 : decode cX2_nextWinner 35 = .ok (.iaload, 1) := by decide +kernel
theorem dX2_nextWinner_36 : decode cX2_nextWinner 36 = .ok (.iconst 1, 1) := by decide +kernel
theorem dX2_nextWinner_37 : decode cX2_nextWinner 37 = .ok (.iadd, 1) := by decide +kernel
theorem dX2_nextWinner_38 : decode cX2_nextWinner 38 = .ok (.imul, 1) := by decide +kernel
theorem dX2_nextWinner_39 : decode cX2_nextWinner 39 = .ok (.aload_n 0, 1) := by decide +kernel
theorem dX2_nextWinner_40 : decode cX2_nextWinner 40 = .ok (.getfield 9, 3) := by decide +kernel
theorem dX2_nextWinner_43 : decode cX2_nextWinner 43 = .ok (.iload_n 1, 1) := by decide +kernel
theorem dX2_nextWinner_44 : decode cX2_nextWinner 44 = .ok (.iaload, 1) := by decide +kernel
theorem dX2_nextWinner_45 : decode cX2_nextWinner 45 = .ok (.aload_n 0, 1) := by decide +kernel
theorem dX2_nextWinner_46 : decode cX2_nextWinner 46 = .ok (.getfield 25, 3) := by decide +kernel
theorem dX2_nextWinner_49 : decode cX2_nextWinner 49 = .ok (.iload_n 2, 1) := by decide +kernel
theorem dX2_nextWinner_50 : decode cX2_nextWinner 50 = .ok (.iaload, 1) := by decide +kernel
theorem dX2_nextWinner_51 : decode cX2_nextWinner 51 = .ok (.iconst 1, 1) := by decide +kernel
theorem dX2_nextWinner_52 : decode cX2_nextWinner 52 = .ok (.iadd, 1) := by decide +kernel
theorem dX2_nextWinner_53 : decode cX2_nextWinner 53 = .ok (.imul, 1) := by decide +kernel
theorem dX2_nextWinner_54 : decode cX2_nextWinner 54 = .ok (.if_icmp .le 5, 3) := by decide +kernel
theorem dX2_nextWinner_57 : decode cX2_nextWinner 57 = .ok (.iload_n 2, 1) := by decide +kernel
theorem dX2_nextWinner_58 : decode cX2_nextWinner 58 = .ok (.istore_n 1, 1) := by decide +kernel
theorem dX2_nextWinner_59 : decode cX2_nextWinner 59 = .ok (.iinc 2 1, 3) := by decide +kernel
theorem dX2_nextWinner_62 : decode cX2_nextWinner 62 = .ok (.goto (-57), 3) := by decide +kernel
theorem dX2_nextWinner_65 : decode cX2_nextWinner 65 = .ok (.iload_n 1, 1) := by decide +kernel
theorem dX2_nextWinner_66 : decode cX2_nextWinner 66 = .ok (.ireturn, 1) := by decide +kernel
theorem dX2_hasSeat_0 : decode cX2_hasSeat 0 = .ok (.iload_n 1, 1) := by decide +kernel
theorem dX2_hasSeat_1 : decode cX2_hasSeat 1 = .ok (.ifCond .lt 21, 3) := by decide +kernel
theorem dX2_hasSeat_4 : decode cX2_hasSeat 4 = .ok (.iload_n 1, 1) := by decide +kernel
theorem dX2_hasSeat_5 : decode cX2_hasSeat 5 = .ok (.aload_n 0, 1) := by decide +kernel
theorem dX2_hasSeat_6 : decode cX2_hasSeat 6 = .ok (.getfield 15, 3) := by decide +kernel
theorem dX2_hasSeat_9 : decode cX2_hasSeat 9 = .ok (.if_icmp .ge 13, 3) := by decide +kernel
theorem dX2_hasSeat_12 : decode cX2_hasSeat 12 = .ok (.iload_n 1, 1) := by decide +kernel
theorem dX2_hasSeat_13 : decode cX2_hasSeat 13 = .ok (.bipush 9, 2) := by decide +kernel
theorem dX2_hasSeat_15 : decode cX2_hasSeat 15 = .ok (.if_icmp .ge 7, 3) := by decide +kernel
theorem dX2_hasSeat_18 : decode cX2_hasSeat 18 = .ok (.iconst 1, 1) := by decide +kernel
theorem dX2_hasSeat_19 : decode cX2_hasSeat 19 = .ok (.goto 4, 3) := by decide +kernel
theorem dX2_hasSeat_22 : decode cX2_hasSeat 22 = .ok (.iconst 0, 1) := by decide +kernel
theorem dX2_hasSeat_23 : decode cX2_hasSeat 23 = .ok (.ireturn, 1) := by decide +kernel
theorem dX2_hasSession_0 : decode cX2_hasSession 0 = .ok (.iload_n 1, 1) := by decide +kernel
theorem dX2_hasSession_1 : decode cX2_hasSession 1 = .ok (.ifCond .lt 21, 3) := by decide +kernel
theorem dX2_hasSession_4 : decode cX2_hasSession 4 = .ok (.iload_n 1, 1) := by decide +kernel
theorem dX2_hasSession_5 : decode cX2_hasSession 5 = .ok (.aload_n 0, 1) := by decide +kernel
theorem dX2_hasSession_6 : decode cX2_hasSession 6 = .ok (.getfield 28, 3) := by decide +kernel
theorem dX2_hasSession_9 : decode cX2_hasSession 9 = .ok (.if_icmp .ge 13, 3) := by decide +kernel
theorem dX2_hasSession_12 : decode cX2_hasSession 12 = .ok (.iload_n 1, 1) := by decide +kernel
theorem dX2_hasSession_13 : decode cX2_hasSession 13 = .ok (.bipush 30, 2) := by decide +kernel
theorem dX2_hasSession_15 : decode cX2_hasSession 15 = .ok (.if_icmp .ge 7, 3) := by decide +kernel
theorem dX2_hasSession_18 : decode cX2_hasSession 18 = .ok (.iconst 1, 1) := by decide +kernel
theorem dX2_hasSession_19 : decode cX2_hasSession 19 = .ok (.goto 4, 3) := by decide +kernel
theorem dX2_hasSession_22 : decode cX2_hasSession 22 = .ok (.iconst 0, 1) := by decide +kernel
theorem dX2_hasSession_23 : decode cX2_hasSession 23 = .ok (.ireturn, 1) := by decide +kernel
theorem dX2_sitsElsewhere_0 : decode cX2_sitsElsewhere 0 = .ok (.iconst 0, 1) := by decide +kernel
theorem dX2_sitsElsewhere_1 : decode cX2_sitsElsewhere 1 = .ok (.istore_n 3, 1) := by decide +kernel
theorem dX2_sitsElsewhere_2 : decode cX2_sitsElsewhere 2 = .ok (.iload_n 3, 1) := by decide +kernel
theorem dX2_sitsElsewhere_3 : decode cX2_sitsElsewhere 3 = .ok (.aload_n 0, 1) := by decide +kernel
theorem dX2_sitsElsewhere_4 : decode cX2_sitsElsewhere 4 = .ok (.getfield 15, 3) := by decide +kernel
theorem dX2_sitsElsewhere_7 : decode cX2_sitsElsewhere 7 = .ok (.if_icmp .ge 26, 3) := by decide +kernel
theorem dX2_sitsElsewhere_10 : decode cX2_sitsElsewhere 10 = .ok (.iload_n 3, 1) := by decide +kernel
theorem dX2_sitsElsewhere_11 : decode cX2_sitsElsewhere 11 = .ok (.iload_n 2, 1) := by decide +kernel
theorem dX2_sitsElsewhere_12 : decode cX2_sitsElsewhere 12 = .ok (.if_icmp .eq 15, 3) := by decide +kernel
theorem dX2_sitsElsewhere_15 : decode cX2_sitsElsewhere 15 = .ok (.aload_n 0, 1) := by decide +kernel
theorem dX2_sitsElsewhere_16 : decode cX2_sitsElsewhere 16 = .ok (.getfield 22, 3) := by decide +kernel
theorem dX2_sitsElsewhere_19 : decode cX2_sitsElsewhere 19 = .ok (.iload_n 3, 1) := by decide +kernel
theorem dX2_sitsElsewhere_20 : decode cX2_sitsElsewhere 20 = .ok (.iaload, 1) := by decide +kernel
theorem dX2_sitsElsewhere_21 : decode cX2_sitsElsewhere 21 = .ok (.iload_n 1, 1) := by decide +kernel
theorem dX2_sitsElsewhere_22 : decode cX2_sitsElsewhere 22 = .ok (.if_icmp .ne 5, 3) := by decide +kernel
theorem dX2_sitsElsewhere_25 : decode cX2_sitsElsewhere 25 = .ok (.iconst 1, 1) := by decide +kernel
theorem dX2_sitsElsewhere_26 : decode cX2_sitsElsewhere 26 = .ok (.ireturn, 1) := by decide +kernel
theorem dX2_sitsElsewhere_27 : decode cX2_sitsElsewhere 27 = .ok (.iinc 3 1, 3) := by decide +kernel
theorem dX2_sitsElsewhere_30 : decode cX2_sitsElsewhere 30 = .ok (.goto (-28), 3) := by decide +kernel
theorem dX2_sitsElsewhere_33 : decode cX2_sitsElsewhere 33 = .ok (.iconst 0, 1) := by decide +kernel
theorem dX2_sitsElsewhere_34 : decode cX2_sitsElsewhere 34 = .ok (.ireturn, 1) := by decide +kernel
theorem dX2_meet_0 : decode cX2_meet 0 = .ok (.aload_n 0, 1) := by decide +kernel
theorem dX2_meet_1 : decode cX2_meet 1 = .ok (.getfield 28, 3) := by decide +kernel
theorem dX2_meet_4 : decode cX2_meet 4 = .ok (.bipush 30, 2) := by decide +kernel
theorem dX2_meet_6 : decode cX2_meet 6 = .ok (.if_icmp .lt 6, 3) := by decide +kernel
theorem dX2_meet_9 : decode cX2_meet 9 = .ok (.bipush (-6), 2) := by decide +kernel
theorem dX2_meet_11 : decode cX2_meet 11 = .ok (.ireturn, 1) := by decide +kernel
theorem dX2_meet_12 : decode cX2_meet 12 = .ok (.aload_n 0, 1) := by decide +kernel
theorem dX2_meet_13 : decode cX2_meet 13 = .ok (.getfield 31, 3) := by decide +kernel
theorem dX2_meet_16 : decode cX2_meet 16 = .ok (.aload_n 0, 1) := by decide +kernel
theorem dX2_meet_17 : decode cX2_meet 17 = .ok (.getfield 28, 3) := by decide +kernel
theorem dX2_meet_20 : decode cX2_meet 20 = .ok (.iload_n 1, 1) := by decide +kernel
theorem dX2_meet_21 : decode cX2_meet 21 = .ok (.iastore, 1) := by decide +kernel
theorem dX2_meet_22 : decode cX2_meet 22 = .ok (.aload_n 0, 1) := by decide +kernel
theorem dX2_meet_23 : decode cX2_meet 23 = .ok (.getfield 34, 3) := by decide +kernel
theorem dX2_meet_26 : decode cX2_meet 26 = .ok (.aload_n 0, 1) := by decide +kernel
theorem dX2_meet_27 : decode cX2_meet 27 = .ok (.getfield 28, 3) := by decide +kernel
theorem dX2_meet_30 : decode cX2_meet 30 = .ok (.iload_n 2, 1) := by decide +kernel
theorem dX2_meet_31 : decode cX2_meet 31 = .ok (.iastore, 1) := by decide +kernel
theorem dX2_meet_32 : decode cX2_meet 32 = .ok (.aload_n 0, 1) := by decide +kernel
theorem dX2_meet_33 : decode cX2_meet 33 = .ok (.getfield 37, 3) := by decide +kernel
theorem dX2_meet_36 : decode cX2_meet 36 = .ok (.aload_n 0, 1) := by decide +kernel
theorem dX2_meet_37 : decode cX2_meet 37 = .ok (.getfield 28, 3) := by decide +kernel
theorem dX2_meet_40 : decode cX2_meet 40 = .ok (.iload_n 3, 1) := by decide +kernel
theorem dX2_meet_41 : decode cX2_meet 41 = .ok (.ifCond .eq 20, 3) := by decide +kernel
theorem dX2_meet_44 : decode cX2_meet 44 = .ok (.iconst 2, 1) := by decide +kernel
theorem dX2_meet_45 : decode cX2_meet 45 = .ok (.iload_n 2, 1) := by decide +kernel
theorem dX2_meet_46 : decode cX2_meet 46 = .ok (.invokestatic 51, 3) := by decide +kernel
theorem dX2_meet_49 : decode cX2_meet 49 = .ok (.imul, 1) := by decide +kernel
theorem dX2_meet_50 : decode cX2_meet 50 = .ok (.aload_n 0, 1) := by decide +kernel
theorem dX2_meet_51 : decode cX2_meet 51 = .ok (.getfield 15, 3) := by decide +kernel
theorem dX2_meet_54 : decode cX2_meet 54 = .ok (.if_icmp .le 7, 3) := by decide +kernel
theorem dX2_meet_57 : decode cX2_meet 57 = .ok (.iconst 1, 1) := by decide +kernel
theorem dX2_meet_58 : decode cX2_meet 58 = .ok (.goto 4, 3) := by decide +kernel
theorem dX2_meet_61 : decode cX2_meet 61 = .ok (.iconst 0, 1) := by decide +kernel
theorem dX2_meet_62 : decode cX2_meet 62 = .ok (.bastore, 1) := by decide +kernel
theorem dX2_meet_63 : decode cX2_meet 63 = .ok (.aload_n 0, 1) := by decide +kernel
theorem dX2_meet_64 : decode cX2_meet 64 = .ok (.getfield 41, 3) := by decide +kernel
theorem dX2_meet_67 : decode cX2_meet 67 = .ok (.aload_n 0, 1) := by decide +kernel
theorem dX2_meet_68 : decode cX2_meet 68 = .ok (.getfield 28, 3) := by decide +kernel
theorem dX2_meet_71 : decode cX2_meet 71 = .ok (.ldc 57, 2) := by decide +kernel
theorem dX2_meet_73 : decode cX2_meet 73 = .ok (.iastore, 1) := by decide +kernel
theorem dX2_meet_74 : decode cX2_meet 74 = .ok (.aload_n 0, 1) := by decide +kernel
theorem dX2_meet_75 : decode cX2_meet 75 = .ok (.getfield 44, 3) := by decide +kernel
theorem dX2_meet_78 : decode cX2_meet 78 = .ok (.aload_n 0, 1) := by decide +kernel
theorem dX2_meet_79 : decode cX2_meet 79 = .ok (.getfield 28, 3) := by decide +kernel
theorem dX2_meet_82 : decode cX2_meet 82 = .ok (.iconst 0, 1) := by decide +kernel
theorem dX2_meet_83 : decode cX2_meet 83 = .ok (.iastore, 1) := by decide +kernel
theorem dX2_meet_84 : decode cX2_meet 84 = .ok (.aload_n 0, 1) := by decide +kernel
theorem dX2_meet_85 : decode cX2_meet 85 = .ok (.dup, 1) := by decide +kernel
theorem dX2_meet_86 : decode cX2_meet 86 = .ok (.getfield 28, 3) := by decide +kernel
theorem dX2_meet_89 : decode cX2_meet 89 = .ok (.iconst 1, 1) := by decide +kernel
theorem dX2_meet_90 : decode cX2_meet 90 = .ok (.iadd, 1) := by decide +kernel
theorem dX2_meet_91 : decode cX2_meet 91 = .ok (.putfield 28, 3) := by decide +kernel
theorem dX2_meet_94 : decode cX2_meet 94 = .ok (.aload_n 0, 1) := by decide +kernel
theorem dX2_meet_95 : decode cX2_meet 95 = .ok (.getfield 28, 3) := by decide +kernel
theorem dX2_meet_98 : decode cX2_meet 98 = .ok (.iconst 1, 1) := by decide +kernel
theorem dX2_meet_99 : decode cX2_meet 99 = .ok (.isub, 1) := by decide +kernel
theorem dX2_meet_100 : decode cX2_meet 100 = .ok (.ireturn, 1) := by decide +kernel
theorem dX2_isVoidBy_0 : decode cX2_isVoidBy 0 = .ok (.iload_n 1, 1) := by decide +kernel
theorem dX2_isVoidBy_1 : decode cX2_isVoidBy 1 = .ok (.ifCond .lt 25, 3) := by decide +kernel
theorem dX2_isVoidBy_4 : decode cX2_isVoidBy 4 = .ok (.iload_n 1, 1) := by decide +kernel
theorem dX2_isVoidBy_5 : decode cX2_isVoidBy 5 = .ok (.aload_n 0, 1) := by decide +kernel
theorem dX2_isVoidBy_6 : decode cX2_isVoidBy 6 = .ok (.getfield 28, 3) := by decide +kernel
theorem dX2_isVoidBy_9 : decode cX2_isVoidBy 9 = .ok (.if_icmp .ge 17, 3) := by decide +kernel
theorem dX2_isVoidBy_12 : decode cX2_isVoidBy 12 = .ok (.aload_n 0, 1) := by decide +kernel
theorem dX2_isVoidBy_13 : decode cX2_isVoidBy 13 = .ok (.getfield 41, 3) := by decide +kernel
theorem dX2_isVoidBy_16 : decode cX2_isVoidBy 16 = .ok (.iload_n 1, 1) := by decide +kernel
theorem dX2_isVoidBy_17 : decode cX2_isVoidBy 17 = .ok (.iaload, 1) := by decide +kernel
theorem dX2_isVoidBy_18 : decode cX2_isVoidBy 18 = .ok (.iload_n 2, 1) := by decide +kernel
theorem dX2_isVoidBy_19 : decode cX2_isVoidBy 19 = .ok (.if_icmp .gt 7, 3) := by decide +kernel
theorem dX2_isVoidBy_22 : decode cX2_isVoidBy 22 = .ok (.iconst 1, 1) := by decide +kernel
theorem dX2_isVoidBy_23 : decode cX2_isVoidBy 23 = .ok (.goto 4, 3) := by decide +kernel
theorem dX2_isVoidBy_26 : decode cX2_isVoidBy 26 = .ok (.iconst 0, 1) := by decide +kernel
theorem dX2_isVoidBy_27 : decode cX2_isVoidBy 27 = .ok (.ireturn, 1) := by decide +kernel
theorem dX3_init_0 : decode cX3_init 0 = .ok (.aload_n 0, 1) := by decide +kernel
theorem dX3_init_1 : decode cX3_init 1 = .ok (.invokespecial 3, 3) := by decide +kernel
theorem dX3_init_4 : decode cX3_init 4 = .ok (.aload_n 0, 1) := by decide +kernel
theorem dX3_init_5 : decode cX3_init 5 = .ok (.iconst 0, 1) := by decide +kernel
theorem dX3_init_6 : decode cX3_init 6 = .ok (.putfield 9, 3) := by decide +kernel
theorem dX3_init_9 : decode cX3_init 9 = .ok (.aload_n 0, 1) := by decide +kernel
theorem dX3_init_10 : decode cX3_init 10 = .ok (.sipush 1001, 3) := by decide +kernel
theorem dX3_init_13 : decode cX3_init 13 = .ok (.newarray .boolean, 2) := by decide +kernel
theorem dX3_init_15 : decode cX3_init 15 = .ok (.putfield 15, 3) := by decide +kernel
theorem dX3_init_18 : decode cX3_init 18 = .ok (.aload_n 0, 1) := by decide +kernel
theorem dX3_init_19 : decode cX3_init 19 = .ok (.sipush 1001, 3) := by decide +kernel
theorem dX3_init_22 : decode cX3_init 22 = .ok (.newarray .int, 2) := by decide +kernel
theorem dX3_init_24 : decode cX3_init 24 = .ok (.putfield 19, 3) := by decide +kernel
theorem dX3_init_27 : decode cX3_init 27 = .ok (.iconst 0, 1) := by decide +kernel
theorem dX3_init_28 : decode cX3_init 28 = .ok (.istore_n 1, 1) := by decide +kernel
theorem dX3_init_29 : decode cX3_init 29 = .ok (.iconst 0, 1) := by decide +kernel
theorem dX3_init_30 : decode cX3_init 30 = .ok (.istore_n 2, 1) := by decide +kernel
theorem dX3_init_31 : decode cX3_init 31 = .ok (.iload_n 2, 1) := by decide +kernel
theorem dX3_init_32 : decode cX3_init 32 = .ok (.sipush 1000, 3) := by decide +kernel
theorem dX3_init_35 : decode cX3_init 35 = .ok (.if_icmp .gt 32, 3) := by decide +kernel
theorem dX3_init_38 : decode cX3_init 38 = .ok (.iload_n 1, 1) := by decide +kernel
theorem dX3_init_39 : decode cX3_init 39 = .ok (.iload_n 2, 1) := by decide +kernel
theorem dX3_init_40 : decode cX3_init 40 = .ok (.bipush 7, 2) := by decide +kernel
theorem dX3_init_42 : decode cX3_init 42 = .ok (.irem, 1) := by decide +kernel
theorem dX3_init_43 : decode cX3_init 43 = .ok (.iconst 5, 1) := by decide +kernel
theorem dX3_init_44 : decode cX3_init 44 = .ok (.if_icmp .ge 7, 3) := by decide +kernel
theorem dX3_init_47 : decode cX3_init 47 = .ok (.iconst 1, 1) := by decide +kernel
theorem dX3_init_48 : decode cX3_init 48 = .ok (.goto 4, 3) := by decide +kernel
theorem dX3_init_51 : decode cX3_init 51 = .ok (.iconst 0, 1) := by decide +kernel
theorem dX3_init_52 : decode cX3_init 52 = .ok (.iadd, 1) := by decide +kernel
theorem dX3_init_53 : decode cX3_init 53 = .ok (.istore_n 1, 1) := by decide +kernel
theorem dX3_init_54 : decode cX3_init 54 = .ok (.aload_n 0, 1) := by decide +kernel
theorem dX3_init_55 : decode cX3_init 55 = .ok (.getfield 19, 3) := by decide +kernel
theorem dX3_init_58 : decode cX3_init 58 = .ok (.iload_n 2, 1) := by decide +kernel
theorem dX3_init_59 : decode cX3_init 59 = .ok (.iload_n 1, 1) := by decide +kernel
theorem dX3_init_60 : decode cX3_init 60 = .ok (.iastore, 1) := by decide +kernel
theorem dX3_init_61 : decode cX3_init 61 = .ok (.iinc 2 1, 3) := by decide +kernel
theorem dX3_init_64 : decode cX3_init 64 = .ok (.goto (-33), 3) := by decide +kernel
theorem dX3_init_67 : decode cX3_init 67 = .ok (.return_, 1) := by decide +kernel
theorem dX3_tellFeast_0 : decode cX3_tellFeast 0 = .ok (.iload_n 1, 1) := by decide +kernel
theorem dX3_tellFeast_1 : decode cX3_tellFeast 1 = .ok (.ifCond .lt 19, 3) := by decide +kernel
theorem dX3_tellFeast_4 : decode cX3_tellFeast 4 = .ok (.iload_n 1, 1) := by decide +kernel
theorem dX3_tellFeast_5 : decode cX3_tellFeast 5 = .ok (.sipush 1000, 3) := by decide +kernel
theorem dX3_tellFeast_8 : decode cX3_tellFeast 8 = .ok (.if_icmp .gt 12, 3) := by decide +kernel
theorem dX3_tellFeast_11 : decode cX3_tellFeast 11 = .ok (.aload_n 0, 1) := by decide +kernel
theorem dX3_tellFeast_12 : decode cX3_tellFeast 12 = .ok (.getfield 15, 3) := by decide +kernel
theorem dX3_tellFeast_15 : decode cX3_tellFeast 15 = .ok (.iload_n 1, 1) := by decide +kernel
theorem dX3_tellFeast_16 : decode cX3_tellFeast 16 = .ok (.baload, 1) := by decide +kernel
theorem dX3_tellFeast_17 : decode cX3_tellFeast 17 = .ok (.ifCond .eq 5, 3) := by decide +kernel
theorem dX3_tellFeast_20 : decode cX3_tellFeast 20 = .ok (.iconst 0, 1) := by decide +kernel
theorem dX3_tellFeast_21 : decode cX3_tellFeast 21 = .ok (.ireturn, 1) := by decide +kernel
theorem dX3_tellFeast_22 : decode cX3_tellFeast 22 = .ok (.aload_n 0, 1) := by decide +kernel
theorem dX3_tellFeast_23 : decode cX3_tellFeast 23 = .ok (.getfield 15, 3) := by decide +kernel
theorem dX3_tellFeast_26 : decode cX3_tellFeast 26 = .ok (.iload_n 1, 1) := by decide +kernel
theorem dX3_tellFeast_27 : decode cX3_tellFeast 27 = .ok (.iconst 1, 1) := by decide +kernel
theorem dX3_tellFeast_28 : decode cX3_tellFeast 28 = .ok (.bastore, 1) := by decide +kernel
theorem dX3_tellFeast_29 : decode cX3_tellFeast 29 = .ok (.iload_n 1, 1) := by decide +kernel
theorem dX3_tellFeast_30 : decode cX3_tellFeast 30 = .ok (.bipush 7, 2) := by decide +kernel
theorem dX3_tellFeast_32 : decode cX3_tellFeast 32 = .ok (.irem, 1) := by decide +kernel
theorem dX3_tellFeast_33 : decode cX3_tellFeast 33 = .ok (.iconst 5, 1) := by decide +kernel
theorem dX3_tellFeast_34 : decode cX3_tellFeast 34 = .ok (.if_icmp .ge 28, 3) := by decide +kernel
theorem dX3_tellFeast_37 : decode cX3_tellFeast 37 = .ok (.iload_n 1, 1) := by decide +kernel
theorem dX3_tellFeast_38 : decode cX3_tellFeast 38 = .ok (.istore_n 2, 1) := by decide +kernel
theorem dX3_tellFeast_39 : decode cX3_tellFeast 39 = .ok (.iload_n 2, 1) := by decide +kernel
theorem dX3_tellFeast_40 : decode cX3_tellFeast 40 = .ok (.sipush 1000, 3) := by decide +kernel
theorem dX3_tellFeast_43 : decode cX3_tellFeast 43 = .ok (.if_icmp .gt 19, 3) := by decide +kernel
theorem dX3_tellFeast_46 : decode cX3_tellFeast 46 = .ok (.aload_n 0, 1) := by decide +kernel
theorem dX3_tellFeast_47 : decode cX3_tellFeast 47 = .ok (.getfield 19, 3) := by decide +kernel
theorem dX3_tellFeast_50 : decode cX3_tellFeast 50 = .ok (.iload_n 2, 1) := by decide +kernel
theorem dX3_tellFeast_51 : decode cX3_tellFeast 51 = .ok (.dup2, 1) := by decide +kernel
theorem dX3_tellFeast_52 : decode cX3_tellFeast 52 = .ok (.iaload, 1) := by decide +kernel
theorem dX3_tellFeast_53 : decode cX3_tellFeast 53 = .ok (.iconst 1, 1) := by decide +kernel
theorem dX3_tellFeast_54 : decode cX3_tellFeast 54 = .ok (.isub, 1) := by decide +kernel
theorem dX3_tellFeast_55 : decode cX3_tellFeast 55 = .ok (.iastore, 1) := by decide +kernel
theorem dX3_tellFeast_56 : decode cX3_tellFeast 56 = .ok (.iinc 2 1, 3) := by decide +kernel
theorem dX3_tellFeast_59 : decode cX3_tellFeast 59 = .ok (.goto (-20), 3) := by decide +kernel
theorem dX3_tellFeast_62 : decode cX3_tellFeast 62 = .ok (.iconst 1, 1) := by decide +kernel
theorem dX3_tellFeast_63 : decode cX3_tellFeast 63 = .ok (.ireturn, 1) := by decide +kernel
theorem dX3_workdaysBehind_0 : decode cX3_workdaysBehind 0 = .ok (.iload_n 1, 1) := by decide +kernel
theorem dX3_workdaysBehind_1 : decode cX3_workdaysBehind 1 = .ok (.ifCond .lt 15, 3) := by decide +kernel
theorem dX3_workdaysBehind_4 : decode cX3_workdaysBehind 4 = .ok (.iload_n 2, 1) := by decide +kernel
theorem dX3_workdaysBehind_5 : decode cX3_workdaysBehind 5 = .ok (.sipush 1000, 3) := by decide +kernel
theorem dX3_workdaysBehind_8 : decode cX3_workdaysBehind 8 = .ok (.if_icmp .gt 8, 3) := by decide +kernel
theorem dX3_workdaysBehind_11 : decode cX3_workdaysBehind 11 = .ok (.iload_n 2, 1) := by decide +kernel
theorem dX3_workdaysBehind_12 : decode cX3_workdaysBehind 12 = .ok (.iload_n 1, 1) := by decide +kernel
theorem dX3_workdaysBehind_13 : decode cX3_workdaysBehind 13 = .ok (.if_icmp .gt 5, 3) := by decide +kernel
theorem dX3_workdaysBehind_16 : decode cX3_workdaysBehind 16 = .ok (.iconst 0, 1) := by decide +kernel
theorem dX3_workdaysBehind_17 : decode cX3_workdaysBehind 17 = .ok (.ireturn, 1) := by decide +kernel
theorem dX3_workdaysBehind_18 : decode cX3_workdaysBehind 18 = .ok (.aload_n 0, 1) := by decide +kernel
theorem dX3_workdaysBehind_19 : decode cX3_workdaysBehind 19 = .ok (.getfield 19, 3) := by decide +kernel
theorem dX3_workdaysBehind_22 : decode cX3_workdaysBehind 22 = .ok (.iload_n 2, 1) := by decide +kernel
theorem dX3_workdaysBehind_23 : decode cX3_workdaysBehind 23 = .ok (.iaload, 1) := by decide +kernel
theorem dX3_workdaysBehind_24 : decode cX3_workdaysBehind 24 = .ok (.aload_n 0, 1) := by decide +kernel
theorem dX3_workdaysBehind_25 : decode cX3_workdaysBehind 25 = .ok (.getfield 19, 3) := by decide +kernel
theorem dX3_workdaysBehind_28 : decode cX3_workdaysBehind 28 = .ok (.iload_n 1, 1) := by decide +kernel
theorem dX3_workdaysBehind_29 : decode cX3_workdaysBehind 29 = .ok (.iaload, 1) := by decide +kernel
theorem dX3_workdaysBehind_30 : decode cX3_workdaysBehind 30 = .ok (.isub, 1) := by decide +kernel
theorem dX3_workdaysBehind_31 : decode cX3_workdaysBehind 31 = .ok (.ireturn, 1) := by decide +kernel
theorem dX3_firstDayBeyond_0 : decode cX3_firstDayBeyond 0 = .ok (.iload_n 1, 1) := by decide +kernel
theorem dX3_firstDayBeyond_1 : decode cX3_firstDayBeyond 1 = .ok (.ifCond .ge 6, 3) := by decide +kernel
theorem dX3_firstDayBeyond_4 : decode cX3_firstDayBeyond 4 = .ok (.ldc 23, 2) := by decide +kernel
theorem dX3_firstDayBeyond_6 : decode cX3_firstDayBeyond 6 = .ok (.ireturn, 1) := by decide +kernel
theorem dX3_firstDayBeyond_7 : decode cX3_firstDayBeyond 7 = .ok (.iload_n 1, 1) := by decide +kernel
theorem dX3_firstDayBeyond_8 : decode cX3_firstDayBeyond 8 = .ok (.iconst 1, 1) := by decide +kernel
theorem dX3_firstDayBeyond_9 : decode cX3_firstDayBeyond 9 = .ok (.iadd, 1) := by decide +kernel
theorem dX3_firstDayBeyond_10 : decode cX3_firstDayBeyond 10 = .ok (.istore_n 3, 1) := by decide +kernel
theorem dX3_firstDayBeyond_11 : decode cX3_firstDayBeyond 11 = .ok (.iload_n 3, 1) := by decide +kernel
theorem dX3_firstDayBeyond_12 : decode cX3_firstDayBeyond 12 = .ok (.sipush 1000, 3) := by decide +kernel
theorem dX3_firstDayBeyond_15 : decode cX3_firstDayBeyond 15 = .ok (.if_icmp .gt 28, 3) := by decide +kernel
theorem dX3_firstDayBeyond_18 : decode cX3_firstDayBeyond 18 = .ok (.aload_n 0, 1) := by decide +kernel
theorem dX3_firstDayBeyond_19 : decode cX3_firstDayBeyond 19 = .ok (.getfield 19, 3) := by decide +kernel
theorem dX3_firstDayBeyond_22 : decode cX3_firstDayBeyond 22 = .ok (.iload_n 3, 1) := by decide +kernel
theorem dX3_firstDayBeyond_23 : decode cX3_firstDayBeyond 23 = .ok (.iaload, 1) := by decide +kernel
theorem dX3_firstDayBeyond_24 : decode cX3_firstDayBeyond 24 = .ok (.aload_n 0, 1) := by decide +kernel
theorem dX3_firstDayBeyond_25 : decode cX3_firstDayBeyond 25 = .ok (.getfield 19, 3) := by decide +kernel
theorem dX3_firstDayBeyond_28 : decode cX3_firstDayBeyond 28 = .ok (.iload_n 1, 1) := by decide +kernel
theorem dX3_firstDayBeyond_29 : decode cX3_firstDayBeyond 29 = .ok (.iaload, 1) := by decide +kernel
theorem dX3_firstDayBeyond_30 : decode cX3_firstDayBeyond 30 = .ok (.isub, 1) := by decide +kernel
theorem dX3_firstDayBeyond_31 : decode cX3_firstDayBeyond 31 = .ok (.iload_n 2, 1) := by decide +kernel
theorem dX3_firstDayBeyond_32 : decode cX3_firstDayBeyond 32 = .ok (.if_icmp .le 5, 3) := by decide +kernel
theorem dX3_firstDayBeyond_35 : decode cX3_firstDayBeyond 35 = .ok (.iload_n 3, 1) := by decide +kernel
theorem dX3_firstDayBeyond_36 : decode cX3_firstDayBeyond 36 = .ok (.ireturn, 1) := by decide +kernel
theorem dX3_firstDayBeyond_37 : decode cX3_firstDayBeyond 37 = .ok (.iinc 3 1, 3) := by decide +kernel
theorem dX3_firstDayBeyond_40 : decode cX3_firstDayBeyond 40 = .ok (.goto (-29), 3) := by decide +kernel
theorem dX3_firstDayBeyond_43 : decode cX3_firstDayBeyond 43 = .ok (.ldc 23, 2) := by decide +kernel
theorem dX3_firstDayBeyond_45 : decode cX3_firstDayBeyond 45 = .ok (.ireturn, 1) := by decide +kernel
theorem dX4_init_0 : decode cX4_init 0 = .ok (.aload_n 0, 1) := by decide +kernel
theorem dX4_init_1 : decode cX4_init 1 = .ok (.invokespecial 3, 3) := by decide +kernel
theorem dX4_init_4 : decode cX4_init 4 = .ok (.aload_n 0, 1) := by decide +kernel
theorem dX4_init_5 : decode cX4_init 5 = .ok (.iconst 0, 1) := by decide +kernel
theorem dX4_init_6 : decode cX4_init 6 = .ok (.putfield 9, 3) := by decide +kernel
theorem dX4_init_9 : decode cX4_init 9 = .ok (.aload_n 0, 1) := by decide +kernel
theorem dX4_init_10 : decode cX4_init 10 = .ok (.bipush 60, 2) := by decide +kernel
theorem dX4_init_12 : decode cX4_init 12 = .ok (.newarray .int, 2) := by decide +kernel
theorem dX4_init_14 : decode cX4_init 14 = .ok (.putfield 15, 3) := by decide +kernel
theorem dX4_init_17 : decode cX4_init 17 = .ok (.aload_n 0, 1) := by decide +kernel
theorem dX4_init_18 : decode cX4_init 18 = .ok (.bipush 60, 2) := by decide +kernel
theorem dX4_init_20 : decode cX4_init 20 = .ok (.newarray .int, 2) := by decide +kernel
theorem dX4_init_22 : decode cX4_init 22 = .ok (.putfield 19, 3) := by decide +kernel
theorem dX4_init_25 : decode cX4_init 25 = .ok (.aload_n 0, 1) := by decide +kernel
theorem dX4_init_26 : decode cX4_init 26 = .ok (.bipush 60, 2) := by decide +kernel
theorem dX4_init_28 : decode cX4_init 28 = .ok (.newarray .int, 2) := by decide +kernel
theorem dX4_init_30 : decode cX4_init 30 = .ok (.putfield 22, 3) := by decide +kernel
theorem dX4_init_33 : decode cX4_init 33 = .ok (.aload_n 0, 1) := by decide +kernel
theorem dX4_init_34 : decode cX4_init 34 = .ok (.bipush 60, 2) := by decide +kernel
theorem dX4_init_36 : decode cX4_init 36 = .ok (.newarray .int, 2) := by decide +kernel
theorem dX4_init_38 : decode cX4_init 38 = .ok (.putfield 25, 3) := by decide +kernel
theorem dX4_init_41 : decode cX4_init 41 = .ok (.aload_n 0, 1) := by decide +kernel
theorem dX4_init_42 : decode cX4_init 42 = .ok (.bipush 60, 2) := by decide +kernel
theorem dX4_init_44 : decode cX4_init 44 = .ok (.newarray .boolean, 2) := by decide +kernel
theorem dX4_init_46 : decode cX4_init 46 = .ok (.putfield 28, 3) := by decide +kernel
theorem dX4_init_49 : decode cX4_init 49 = .ok (.aload_n 0, 1) := by decide +kernel
theorem dX4_init_50 : decode cX4_init 50 = .ok (.iconst 0, 1) := by decide +kernel
theorem dX4_init_51 : decode cX4_init 51 = .ok (.putfield 32, 3) := by decide +kernel
theorem dX4_init_54 : decode cX4_init 54 = .ok (.aload_n 0, 1) := by decide +kernel
theorem dX4_init_55 : decode cX4_init 55 = .ok (.bipush 100, 2) := by decide +kernel
theorem dX4_init_57 : decode cX4_init 57 = .ok (.newarray .int, 2) := by decide +kernel
theorem dX4_init_59 : decode cX4_init 59 = .ok (.putfield 35, 3) := by decide +kernel
theorem dX4_init_62 : decode cX4_init 62 = .ok (.aload_n 0, 1) := by decide +kernel
theorem dX4_init_63 : decode cX4_init 63 = .ok (.bipush 100, 2) := by decide +kernel
theorem dX4_init_65 : decode cX4_init 65 = .ok (.newarray .int, 2) := by decide +kernel
theorem dX4_init_67 : decode cX4_init 67 = .ok (.putfield 38, 3) := by decide +kernel
theorem dX4_init_70 : decode cX4_init 70 = .ok (.aload_n 0, 1) := by decide +kernel
theorem dX4_init_71 : decode cX4_init 71 = .ok (.bipush 100, 2) := by decide +kernel
theorem dX4_init_73 : decode cX4_init 73 = .ok (.newarray .int, 2) := by decide +kernel
theorem dX4_init_75 : decode cX4_init 75 = .ok (.putfield 41, 3) := by decide +kernel
theorem dX4_init_78 : decode cX4_init 78 = .ok (.return_, 1) := by decide +kernel
theorem dX4_has_0 : decode cX4_has 0 = .ok (.iload_n 1, 1) := by decide +kernel
theorem dX4_has_1 : decode cX4_has 1 = .ok (.ifCond .lt 21, 3) := by decide +kernel
theorem dX4_has_4 : decode cX4_has 4 = .ok (.iload_n 1, 1) := by decide +kernel
theorem dX4_has_5 : decode cX4_has 5 = .ok (.aload_n 0, 1) := by decide +kernel
theorem dX4_has_6 : decode cX4_has 6 = .ok (.getfield 9, 3) := by decide +kernel
theorem dX4_has_9 : decode cX4_has 9 = .ok (.if_icmp .ge 13, 3) := by decide +kernel
theorem dX4_has_12 : decode cX4_has 12 = .ok (.iload_n 1, 1) := by decide +kernel
theorem dX4_has_13 : decode cX4_has 13 = .ok (.bipush 60, 2) := by decide +kernel
theorem dX4_has_15 : decode cX4_has 15 = .ok (.if_icmp .ge 7, 3) := by decide +kernel
theorem dX4_has_18 : decode cX4_has 18 = .ok (.iconst 1, 1) := by decide +kernel
theorem dX4_has_19 : decode cX4_has 19 = .ok (.goto 4, 3) := by decide +kernel
theorem dX4_has_22 : decode cX4_has 22 = .ok (.iconst 0, 1) := by decide +kernel
theorem dX4_has_23 : decode cX4_has 23 = .ok (.ireturn, 1) := by decide +kernel
theorem dX4_add_0 : decode cX4_add 0 = .ok (.aload_n 0, 1) := by decide +kernel
theorem dX4_add_1 : decode cX4_add 1 = .ok (.getfield 9, 3) := by decide +kernel
theorem dX4_add_4 : decode cX4_add 4 = .ok (.bipush 60, 2) := by decide +kernel
theorem dX4_add_6 : decode cX4_add 6 = .ok (.if_icmp .lt 6, 3) := by decide +kernel
theorem dX4_add_9 : decode cX4_add 9 = .ok (.bipush (-6), 2) := by decide +kernel
theorem dX4_add_11 : decode cX4_add 11 = .ok (.ireturn, 1) := by decide +kernel
theorem dX4_add_12 : decode cX4_add 12 = .ok (.aload_n 0, 1) := by decide +kernel
theorem dX4_add_13 : decode cX4_add 13 = .ok (.getfield 15, 3) := by decide +kernel
theorem dX4_add_16 : decode cX4_add 16 = .ok (.aload_n 0, 1) := by decide +kernel
theorem dX4_add_17 : decode cX4_add 17 = .ok (.getfield 9, 3) := by decide +kernel
theorem dX4_add_20 : decode cX4_add 20 = .ok (.iload_n 1, 1) := by decide +kernel
theorem dX4_add_21 : decode cX4_add 21 = .ok (.iastore, 1) := by decide +kernel
theorem dX4_add_22 : decode cX4_add 22 = .ok (.aload_n 0, 1) := by decide +kernel
theorem dX4_add_23 : decode cX4_add 23 = .ok (.getfield 19, 3) := by decide +kernel
theorem dX4_add_26 : decode cX4_add 26 = .ok (.aload_n 0, 1) := by decide +kernel
theorem dX4_add_27 : decode cX4_add 27 = .ok (.getfield 9, 3) := by decide +kernel
theorem dX4_add_30 : decode cX4_add 30 = .ok (.iload_n 2, 1) := by decide +kernel
theorem dX4_add_31 : decode cX4_add 31 = .ok (.iastore, 1) := by decide +kernel
theorem dX4_add_32 : decode cX4_add 32 = .ok (.aload_n 0, 1) := by decide +kernel
theorem dX4_add_33 : decode cX4_add 33 = .ok (.getfield 22, 3) := by decide +kernel
theorem dX4_add_36 : decode cX4_add 36 = .ok (.aload_n 0, 1) := by decide +kernel
theorem dX4_add_37 : decode cX4_add 37 = .ok (.getfield 9, 3) := by decide +kernel
theorem dX4_add_40 : decode cX4_add 40 = .ok (.iload_n 3, 1) := by decide +kernel
theorem dX4_add_41 : decode cX4_add 41 = .ok (.iastore, 1) := by decide +kernel
theorem dX4_add_42 : decode cX4_add 42 = .ok (.aload_n 0, 1) := by decide +kernel
theorem dX4_add_43 : decode cX4_add 43 = .ok (.getfield 25, 3) := by decide +kernel
theorem dX4_add_46 : decode cX4_add 46 = .ok (.aload_n 0, 1) := by decide +kernel
theorem dX4_add_47 : decode cX4_add 47 = .ok (.getfield 9, 3) := by decide +kernel
theorem dX4_add_50 : decode cX4_add 50 = .ok (.iload 4, 2) := by decide +kernel
theorem dX4_add_52 : decode cX4_add 52 = .ok (.iastore, 1) := by decide +kernel
theorem dX4_add_53 : decode cX4_add 53 = .ok (.aload_n 0, 1) := by decide +kernel
theorem dX4_add_54 : decode cX4_add 54 = .ok (.getfield 28, 3) := by decide +kernel
theorem dX4_add_57 : decode cX4_add 57 = .ok (.aload_n 0, 1) := by decide +kernel
theorem dX4_add_58 : decode cX4_add 58 = .ok (.getfield 9, 3) := by decide +kernel
theorem dX4_add_61 : decode cX4_add 61 = .ok (.iload 5, 2) := by decide +kernel
theorem dX4_add_63 : decode cX4_add 63 = .ok (.bastore, 1) := by decide +kernel
theorem dX4_add_64 : decode cX4_add 64 = .ok (.aload_n 0, 1) := by decide +kernel
theorem dX4_add_65 : decode cX4_add 65 = .ok (.dup, 1) := by decide +kernel
theorem dX4_add_66 : decode cX4_add 66 = .ok (.getfield 9, 3) := by decide +kernel
theorem dX4_add_69 : decode cX4_add 69 = .ok (.iconst 1, 1) := by decide +kernel
theorem dX4_add_70 : decode cX4_add 70 = .ok (.iadd, 1) := by decide +kernel
theorem dX4_add_71 : decode cX4_add 71 = .ok (.putfield 9, 3) := by decide +kernel
theorem dX4_add_74 : decode cX4_add 74 = .ok (.aload_n 0, 1) := by decide +kernel
theorem dX4_add_75 : decode cX4_add 75 = .ok (.getfield 9, 3) := by decide +kernel
theorem dX4_add_78 : decode cX4_add 78 = .ok (.iconst 1, 1) := by decide +kernel
theorem dX4_add_79 : decode cX4_add 79 = .ok (.isub, 1) := by decide +kernel
theorem dX4_add_80 : decode cX4_add 80 = .ok (.ireturn, 1) := by decide +kernel
theorem dX4_hangOn_0 : decode cX4_hangOn 0 = .ok (.aload_n 0, 1) := by decide +kernel
theorem dX4_hangOn_1 : decode cX4_hangOn 1 = .ok (.getfield 32, 3) := by decide +kernel
theorem dX4_hangOn_4 : decode cX4_hangOn 4 = .ok (.bipush 100, 2) := by decide +kernel
theorem dX4_hangOn_6 : decode cX4_hangOn 6 = .ok (.if_icmp .lt 6, 3) := by decide +kernel
theorem dX4_hangOn_9 : decode cX4_hangOn 9 = .ok (.bipush (-6), 2) := by decide +kernel
theorem dX4_hangOn_11 : decode cX4_hangOn 11 = .ok (.ireturn, 1) := by decide +kernel
theorem dX4_hangOn_12 : decode cX4_hangOn 12 = .ok (.aload_n 0, 1) := by decide +kernel
theorem dX4_hangOn_13 : decode cX4_hangOn 13 = .ok (.getfield 35, 3) := by decide +kernel
theorem dX4_hangOn_16 : decode cX4_hangOn 16 = .ok (.aload_n 0, 1) := by decide +kernel
theorem dX4_hangOn_17 : decode cX4_hangOn 17 = .ok (.getfield 32, 3) := by decide +kernel
theorem dX4_hangOn_20 : decode cX4_hangOn 20 = .ok (.iload_n 1, 1) := by decide +kernel
theorem dX4_hangOn_21 : decode cX4_hangOn 21 = .ok (.iastore, 1) := by decide +kernel
theorem dX4_hangOn_22 : decode cX4_hangOn 22 = .ok (.aload_n 0, 1) := by decide +kernel
theorem dX4_hangOn_23 : decode cX4_hangOn 23 = .ok (.getfield 38, 3) := by decide +kernel
theorem dX4_hangOn_26 : decode cX4_hangOn 26 = .ok (.aload_n 0, 1) := by decide +kernel
theorem dX4_hangOn_27 : decode cX4_hangOn 27 = .ok (.getfield 32, 3) := by decide +kernel
theorem dX4_hangOn_30 : decode cX4_hangOn 30 = .ok (.iload_n 2, 1) := by decide +kernel
theorem dX4_hangOn_31 : decode cX4_hangOn 31 = .ok (.iastore, 1) := by decide +kernel
theorem dX4_hangOn_32 : decode cX4_hangOn 32 = .ok (.aload_n 0, 1) := by decide +kernel
theorem dX4_hangOn_33 : decode cX4_hangOn 33 = .ok (.getfield 41, 3) := by decide +kernel
theorem dX4_hangOn_36 : decode cX4_hangOn 36 = .ok (.aload_n 0, 1) := by decide +kernel
theorem dX4_hangOn_37 : decode cX4_hangOn 37 = .ok (.getfield 32, 3) := by decide +kernel
theorem dX4_hangOn_40 : decode cX4_hangOn 40 = .ok (.iload_n 3, 1) := by decide +kernel
theorem dX4_hangOn_41 : decode cX4_hangOn 41 = .ok (.iastore, 1) := by decide +kernel
theorem dX4_hangOn_42 : decode cX4_hangOn 42 = .ok (.aload_n 0, 1) := by decide +kernel
theorem dX4_hangOn_43 : decode cX4_hangOn 43 = .ok (.dup, 1) := by decide +kernel
theorem dX4_hangOn_44 : decode cX4_hangOn 44 = .ok (.getfield 32, 3) := by decide +kernel
theorem dX4_hangOn_47 : decode cX4_hangOn 47 = .ok (.iconst 1, 1) := by decide +kernel
theorem dX4_hangOn_48 : decode cX4_hangOn 48 = .ok (.iadd, 1) := by decide +kernel
theorem dX4_hangOn_49 : decode cX4_hangOn 49 = .ok (.putfield 32, 3) := by decide +kernel
theorem dX4_hangOn_52 : decode cX4_hangOn 52 = .ok (.iconst 0, 1) := by decide +kernel
theorem dX4_hangOn_53 : decode cX4_hangOn 53 = .ok (.istore 4, 2) := by decide +kernel
theorem dX4_hangOn_55 : decode cX4_hangOn 55 = .ok (.iconst 0, 1) := by decide +kernel
theorem dX4_hangOn_56 : decode cX4_hangOn 56 = .ok (.istore 5, 2) := by decide +kernel
theorem dX4_hangOn_58 : decode cX4_hangOn 58 = .ok (.iload 5, 2) := by decide +kernel
theorem dX4_hangOn_60 : decode cX4_hangOn 60 = .ok (.aload_n 0, 1) := by decide +kernel
theorem dX4_hangOn_61 : decode cX4_hangOn 61 = .ok (.getfield 32, 3) := by decide +kernel
theorem dX4_hangOn_64 : decode cX4_hangOn 64 = .ok (.if_icmp .ge 30, 3) := by decide +kernel
theorem dX4_hangOn_67 : decode cX4_hangOn 67 = .ok (.iload 4, 2) := by decide +kernel
theorem dX4_hangOn_69 : decode cX4_hangOn 69 = .ok (.aload_n 0, 1) := by decide +kernel
theorem dX4_hangOn_70 : decode cX4_hangOn 70 = .ok (.getfield 35, 3) := by decide +kernel
theorem dX4_hangOn_73 : decode cX4_hangOn 73 = .ok (.iload 5, 2) := by decide +kernel
theorem dX4_hangOn_75 : decode cX4_hangOn 75 = .ok (.iaload, 1) := by decide +kernel
theorem dX4_hangOn_76 : decode cX4_hangOn 76 = .ok (.iload_n 1, 1) := by decide +kernel
theorem dX4_hangOn_77 : decode cX4_hangOn 77 = .ok (.if_icmp .ne 7, 3) := by decide +kernel
theorem dX4_hangOn_80 : decode cX4_hangOn 80 = .ok (.iconst 1, 1) := by decide +kernel
theorem dX4_hangOn_81 : decode cX4_hangOn 81 = .ok (.goto 4, 3) := by decide +kernel
theorem dX4_hangOn_84 : decode cX4_hangOn 84 = .ok (.iconst 0, 1) := by decide +kernel
theorem dX4_hangOn_85 : decode cX4_hangOn 85 = .ok (.iadd, 1) := by decide +kernel
theorem dX4_hangOn_86 : decode cX4_hangOn 86 = .ok (.istore 4, 2) := by decide +kernel
theorem dX4_hangOn_88 : decode cX4_hangOn 88 = .ok (.iinc 5 1, 3) := by decide +kernel
theorem dX4_hangOn_91 : decode cX4_hangOn 91 = .ok (.goto (-33), 3) := by decide +kernel
theorem dX4_hangOn_94 : decode cX4_hangOn 94 = .ok (.iload 4, 2) := by decide +kernel
theorem dX4_hangOn_96 : decode cX4_hangOn 96 = .ok (.ireturn, 1) := by decide +kernel
theorem dX4_hungSince_0 : decode cX4_hungSince 0 = .ok (.iconst 0, 1) := by decide +kernel
theorem dX4_hungSince_1 : decode cX4_hungSince 1 = .ok (.istore_n 3, 1) := by decide +kernel
theorem dX4_hungSince_2 : decode cX4_hungSince 2 = .ok (.iconst 0, 1) := by decide +kernel
theorem dX4_hungSince_3 : decode cX4_hungSince 3 = .ok (.istore 4, 2) := by decide +kernel
theorem dX4_hungSince_5 : decode cX4_hungSince 5 = .ok (.iload 4, 2) := by decide +kernel
theorem dX4_hungSince_7 : decode cX4_hungSince 7 = .ok (.aload_n 0, 1) := by decide +kernel
theorem dX4_hungSince_8 : decode cX4_hungSince 8 = .ok (.getfield 32, 3) := by decide +kernel
theorem dX4_hungSince_11 : decode cX4_hungSince 11 = .ok (.if_icmp .ge 41, 3) := by decide +kernel
theorem dX4_hungSince_14 : decode cX4_hungSince 14 = .ok (.aload_n 0, 1) := by decide +kernel
theorem dX4_hungSince_15 : decode cX4_hungSince 15 = .ok (.getfield 35, 3) := by decide +kernel
theorem dX4_hungSince_18 : decode cX4_hungSince 18 = .ok (.iload 4, 2) := by decide +kernel
theorem dX4_hungSince_20 : decode cX4_hungSince 20 = .ok (.iaload, 1) := by decide +kernel
theorem dX4_hungSince_21 : decode cX4_hungSince 21 = .ok (.iload_n 1, 1) := by decide +kernel
theorem dX4_hungSince_22 : decode cX4_hungSince 22 = .ok (.if_icmp .ne 24, 3) := by decide +kernel
theorem dX4_hungSince_25 : decode cX4_hungSince 25 = .ok (.aload_n 0, 1) := by decide +kernel
theorem dX4_hungSince_26 : decode cX4_hungSince 26 = .ok (.getfield 41, 3) := by decide +kernel
theorem dX4_hungSince_29 : decode cX4_hungSince 29 = .ok (.iload 4, 2) := by decide +kernel
theorem dX4_hungSince_31 : decode cX4_hungSince 31 = .ok (.iaload, 1) := by decide +kernel
theorem dX4_hungSince_32 : decode cX4_hungSince 32 = .ok (.iload_n 2, 1) := by decide +kernel
theorem dX4_hungSince_33 : decode cX4_hungSince 33 = .ok (.if_icmp .lt 13, 3) := by decide +kernel
theorem dX4_hungSince_36 : decode cX4_hungSince 36 = .ok (.iload_n 3, 1) := by decide +kernel
theorem dX4_hungSince_37 : decode cX4_hungSince 37 = .ok (.aload_n 0, 1) := by decide +kernel
theorem dX4_hungSince_38 : decode cX4_hungSince 38 = .ok (.getfield 38, 3) := by decide +kernel
theorem dX4_hungSince_41 : decode cX4_hungSince 41 = .ok (.iload 4, 2) := by decide +kernel
theorem dX4_hungSince_43 : decode cX4_hungSince 43 = .ok (.iaload, 1) := by decide +kernel
theorem dX4_hungSince_44 : decode cX4_hungSince 44 = .ok (.iadd, 1) := by decide +kernel
theorem dX4_hungSince_45 : decode cX4_hungSince 45 = .ok (.istore_n 3, 1) := by decide +kernel
theorem dX4_hungSince_46 : decode cX4_hungSince 46 = .ok (.iinc 4 1, 3) := by decide +kernel
theorem dX4_hungSince_49 : decode cX4_hungSince 49 = .ok (.goto (-44), 3) := by decide +kernel
theorem dX4_hungSince_52 : decode cX4_hungSince 52 = .ok (.iload_n 3, 1) := by decide +kernel
theorem dX4_hungSince_53 : decode cX4_hungSince 53 = .ok (.ireturn, 1) := by decide +kernel
theorem dX5_init_0 : decode cX5_init 0 = .ok (.aload_n 0, 1) := by decide +kernel
theorem dX5_init_1 : decode cX5_init 1 = .ok (.invokespecial 3, 3) := by decide +kernel
theorem dX5_init_4 : decode cX5_init 4 = .ok (.aload_n 0, 1) := by decide +kernel
theorem dX5_init_5 : decode cX5_init 5 = .ok (.iconst 0, 1) := by decide +kernel
theorem dX5_init_6 : decode cX5_init 6 = .ok (.putfield 9, 3) := by decide +kernel
theorem dX5_init_9 : decode cX5_init 9 = .ok (.aload_n 0, 1) := by decide +kernel
theorem dX5_init_10 : decode cX5_init 10 = .ok (.iconst 0, 1) := by decide +kernel
theorem dX5_init_11 : decode cX5_init 11 = .ok (.putfield 15, 3) := by decide +kernel
theorem dX5_init_14 : decode cX5_init 14 = .ok (.aload_n 0, 1) := by decide +kernel
theorem dX5_init_15 : decode cX5_init 15 = .ok (.iconst 0, 1) := by decide +kernel
theorem dX5_init_16 : decode cX5_init 16 = .ok (.putfield 18, 3) := by decide +kernel
theorem dX5_init_19 : decode cX5_init 19 = .ok (.aload_n 0, 1) := by decide +kernel
theorem dX5_init_20 : decode cX5_init 20 = .ok (.bipush (-9), 2) := by decide +kernel
theorem dX5_init_22 : decode cX5_init 22 = .ok (.putfield 21, 3) := by decide +kernel
theorem dX5_init_25 : decode cX5_init 25 = .ok (.aload_n 0, 1) := by decide +kernel
theorem dX5_init_26 : decode cX5_init 26 = .ok (.iconst 0, 1) := by decide +kernel
theorem dX5_init_27 : decode cX5_init 27 = .ok (.putfield 24, 3) := by decide +kernel
theorem dX5_init_30 : decode cX5_init 30 = .ok (.aload_n 0, 1) := by decide +kernel
theorem dX5_init_31 : decode cX5_init 31 = .ok (.iconst 0, 1) := by decide +kernel
theorem dX5_init_32 : decode cX5_init 32 = .ok (.putfield 27, 3) := by decide +kernel
theorem dX5_init_35 : decode cX5_init 35 = .ok (.aload_n 0, 1) := by decide +kernel
theorem dX5_init_36 : decode cX5_init 36 = .ok (.iconst 0, 1) := by decide +kernel
theorem dX5_init_37 : decode cX5_init 37 = .ok (.putfield 30, 3) := by decide +kernel
theorem dX5_init_40 : decode cX5_init 40 = .ok (.aload_n 0, 1) := by decide +kernel
theorem dX5_init_41 : decode cX5_init 41 = .ok (.iconst 0, 1) := by decide +kernel
theorem dX5_init_42 : decode cX5_init 42 = .ok (.putfield 33, 3) := by decide +kernel
theorem dX5_init_45 : decode cX5_init 45 = .ok (.aload_n 0, 1) := by decide +kernel
theorem dX5_init_46 : decode cX5_init 46 = .ok (.iconst 0, 1) := by decide +kernel
theorem dX5_init_47 : decode cX5_init 47 = .ok (.putfield 36, 3) := by decide +kernel
theorem dX5_init_50 : decode cX5_init 50 = .ok (.aload_n 0, 1) := by decide +kernel
theorem dX5_init_51 : decode cX5_init 51 = .ok (.iconst 0, 1) := by decide +kernel
theorem dX5_init_52 : decode cX5_init 52 = .ok (.putfield 40, 3) := by decide +kernel
theorem dX5_init_55 : decode cX5_init 55 = .ok (.aload_n 0, 1) := by decide +kernel
theorem dX5_init_56 : decode cX5_init 56 = .ok (.bipush 30, 2) := by decide +kernel
theorem dX5_init_58 : decode cX5_init 58 = .ok (.newarray .int, 2) := by decide +kernel
theorem dX5_init_60 : decode cX5_init 60 = .ok (.putfield 43, 3) := by decide +kernel
theorem dX5_init_63 : decode cX5_init 63 = .ok (.aload_n 0, 1) := by decide +kernel
theorem dX5_init_64 : decode cX5_init 64 = .ok (.bipush 30, 2) := by decide +kernel
theorem dX5_init_66 : decode cX5_init 66 = .ok (.newarray .int, 2) := by decide +kernel
theorem dX5_init_68 : decode cX5_init 68 = .ok (.putfield 47, 3) := by decide +kernel
theorem dX5_init_71 : decode cX5_init 71 = .ok (.aload_n 0, 1) := by decide +kernel
theorem dX5_init_72 : decode cX5_init 72 = .ok (.bipush 30, 2) := by decide +kernel
theorem dX5_init_74 : decode cX5_init 74 = .ok (.newarray .int, 2) := by decide +kernel
theorem dX5_init_76 : decode cX5_init 76 = .ok (.putfield 50, 3) := by decide +kernel
theorem dX5_init_79 : decode cX5_init 79 = .ok (.aload_n 0, 1) := by decide +kernel
theorem dX5_init_80 : decode cX5_init 80 = .ok (.aload_n 1, 1) := by decide +kernel
theorem dX5_init_81 : decode cX5_init 81 = .ok (.putfield 53, 3) := by decide +kernel
theorem dX5_init_84 : decode cX5_init 84 = .ok (.aload_n 0, 1) := by decide +kernel
theorem dX5_init_85 : decode cX5_init 85 = .ok (.aload_n 2, 1) := by decide +kernel
theorem dX5_init_86 : decode cX5_init 86 = .ok (.putfield 57, 3) := by decide +kernel
theorem dX5_init_89 : decode cX5_init 89 = .ok (.return_, 1) := by decide +kernel
theorem dX5_begin_0 : decode cX5_begin 0 = .ok (.aload_n 0, 1) := by decide +kernel
theorem dX5_begin_1 : decode cX5_begin 1 = .ok (.iload_n 1, 1) := by decide +kernel
theorem dX5_begin_2 : decode cX5_begin 2 = .ok (.putfield 9, 3) := by decide +kernel
theorem dX5_begin_5 : decode cX5_begin 5 = .ok (.aload_n 0, 1) := by decide +kernel
theorem dX5_begin_6 : decode cX5_begin 6 = .ok (.iload_n 2, 1) := by decide +kernel
theorem dX5_begin_7 : decode cX5_begin 7 = .ok (.putfield 15, 3) := by decide +kernel
theorem dX5_begin_10 : decode cX5_begin 10 = .ok (.aload_n 0, 1) := by decide +kernel
theorem dX5_begin_11 : decode cX5_begin 11 = .ok (.iload_n 3, 1) := by decide +kernel
theorem dX5_begin_12 : decode cX5_begin 12 = .ok (.putfield 18, 3) := by decide +kernel
theorem dX5_begin_15 : decode cX5_begin 15 = .ok (.aload_n 0, 1) := by decide +kernel
theorem dX5_begin_16 : decode cX5_begin 16 = .ok (.iload 4, 2) := by decide +kernel
theorem dX5_begin_18 : decode cX5_begin 18 = .ok (.putfield 21, 3) := by decide +kernel
theorem dX5_begin_21 : decode cX5_begin 21 = .ok (.aload_n 0, 1) := by decide +kernel
theorem dX5_begin_22 : decode cX5_begin 22 = .ok (.aload_n 0, 1) := by decide +kernel
theorem dX5_begin_23 : decode cX5_begin 23 = .ok (.getfield 53, 3) := by decide +kernel
theorem dX5_begin_26 : decode cX5_begin 26 = .ok (.getfield 61, 3) := by decide +kernel
theorem dX5_begin_29 : decode cX5_begin 29 = .ok (.putfield 24, 3) := by decide +kernel
theorem dX5_begin_32 : decode cX5_begin 32 = .ok (.return_, 1) := by decide +kernel
theorem dX5_takeTerms_0 : decode cX5_takeTerms 0 = .ok (.aload_n 0, 1) := by decide +kernel
theorem dX5_takeTerms_1 : decode cX5_takeTerms 1 = .ok (.iload_n 1, 1) := by decide +kernel
theorem dX5_takeTerms_2 : decode cX5_takeTerms 2 = .ok (.putfield 27, 3) := by decide +kernel
theorem dX5_takeTerms_5 : decode cX5_takeTerms 5 = .ok (.aload_n 0, 1) := by decide +kernel
theorem dX5_takeTerms_6 : decode cX5_takeTerms 6 = .ok (.iload_n 2, 1) := by decide +kernel
theorem dX5_takeTerms_7 : decode cX5_takeTerms 7 = .ok (.putfield 30, 3) := by decide +kernel
theorem dX5_takeTerms_10 : decode cX5_takeTerms 10 = .ok (.aload_n 0, 1) := by decide +kernel
theorem dX5_takeTerms_11 : decode cX5_takeTerms 11 = .ok (.iload_n 3, 1) := by decide +kernel
theorem dX5_takeTerms_12 : decode cX5_takeTerms 12 = .ok (.putfield 33, 3) := by decide +kernel
theorem dX5_takeTerms_15 : decode cX5_takeTerms 15 = .ok (.aload_n 0, 1) := by decide +kernel
theorem dX5_takeTerms_16 : decode cX5_takeTerms 16 = .ok (.iload 4, 2) := by decide +kernel
theorem dX5_takeTerms_18 : decode cX5_takeTerms 18 = .ok (.putfield 36, 3) := by decide +kernel
theorem dX5_takeTerms_21 : decode cX5_takeTerms 21 = .ok (.return_, 1) := by decide +kernel
theorem dX5_isFull_0 : decode cX5_isFull 0 = .ok (.aload_n 0, 1) := by decide +kernel
theorem dX5_isFull_1 : decode cX5_isFull 1 = .ok (.getfield 40, 3) := by decide +kernel
theorem dX5_isFull_4 : decode cX5_isFull 4 = .ok (.bipush 30, 2) := by decide +kernel
theorem dX5_isFull_6 : decode cX5_isFull 6 = .ok (.if_icmp .lt 7, 3) := by decide +kernel
theorem dX5_isFull_9 : decode cX5_isFull 9 = .ok (.iconst 1, 1) := by decide +kernel
theorem dX5_isFull_10 : decode cX5_isFull 10 = .ok (.goto 4, 3) := by decide +kernel
theorem dX5_isFull_13 : decode cX5_isFull 13 = .ok (.iconst 0, 1) := by decide +kernel
theorem dX5_isFull_14 : decode cX5_isFull 14 = .ok (.ireturn, 1) := by decide +kernel
theorem dX5_tell_0 : decode cX5_tell 0 = .ok (.aload_n 0, 1) := by decide +kernel
theorem dX5_tell_1 : decode cX5_tell 1 = .ok (.getfield 40, 3) := by decide +kernel
theorem dX5_tell_4 : decode cX5_tell 4 = .ok (.bipush 30, 2) := by decide +kernel
theorem dX5_tell_6 : decode cX5_tell 6 = .ok (.if_icmp .ge 49, 3) := by decide +kernel
theorem dX5_tell_9 : decode cX5_tell 9 = .ok (.aload_n 0, 1) := by decide +kernel
theorem dX5_tell_10 : decode cX5_tell 10 = .ok (.getfield 43, 3) := by decide +kernel
theorem dX5_tell_13 : decode cX5_tell 13 = .ok (.aload_n 0, 1) := by decide +kernel
theorem dX5_tell_14 : decode cX5_tell 14 = .ok (.getfield 40, 3) := by decide +kernel
theorem dX5_tell_17 : decode cX5_tell 17 = .ok (.iload_n 1, 1) := by decide +kernel
theorem dX5_tell_18 : decode cX5_tell 18 = .ok (.iastore, 1) := by decide +kernel
theorem dX5_tell_19 : decode cX5_tell 19 = .ok (.aload_n 0, 1) := by decide +kernel
theorem dX5_tell_20 : decode cX5_tell 20 = .ok (.getfield 47, 3) := by decide +kernel
theorem dX5_tell_23 : decode cX5_tell 23 = .ok (.aload_n 0, 1) := by decide +kernel
theorem dX5_tell_24 : decode cX5_tell 24 = .ok (.getfield 40, 3) := by decide +kernel
theorem dX5_tell_27 : decode cX5_tell 27 = .ok (.iload_n 2, 1) := by decide +kernel
theorem dX5_tell_28 : decode cX5_tell 28 = .ok (.iastore, 1) := by decide +kernel
theorem dX5_tell_29 : decode cX5_tell 29 = .ok (.aload_n 0, 1) := by decide +kernel
theorem dX5_tell_30 : decode cX5_tell 30 = .ok (.getfield 50, 3) := by decide +kernel
theorem dX5_tell_33 : decode cX5_tell 33 = .ok (.aload_n 0, 1) := by decide +kernel
theorem dX5_tell_34 : decode cX5_tell 34 = .ok (.getfield 40, 3) := by decide +kernel
theorem dX5_tell_37 : decode cX5_tell 37 = .ok (.aload_n 0, 1) := by decide +kernel
theorem dX5_tell_38 : decode cX5_tell 38 = .ok (.getfield 53, 3) := by decide +kernel
theorem dX5_tell_41 : decode cX5_tell 41 = .ok (.getfield 61, 3) := by decide +kernel
theorem dX5_tell_44 : decode cX5_tell 44 = .ok (.iastore, 1) := by decide +kernel
theorem dX5_tell_45 : decode cX5_tell 45 = .ok (.aload_n 0, 1) := by decide +kernel
theorem dX5_tell_46 : decode cX5_tell 46 = .ok (.dup, 1) := by decide +kernel
theorem dX5_tell_47 : decode cX5_tell 47 = .ok (.getfield 40, 3) := by decide +kernel
theorem dX5_tell_50 : decode cX5_tell 50 = .ok (.iconst 1, 1) := by decide +kernel
theorem dX5_tell_51 : decode cX5_tell 51 = .ok (.iadd, 1) := by decide +kernel
theorem dX5_tell_52 : decode cX5_tell 52 = .ok (.putfield 40, 3) := by decide +kernel
theorem dX5_tell_55 : decode cX5_tell 55 = .ok (.aload_n 0, 1) := by decide +kernel
theorem dX5_tell_56 : decode cX5_tell 56 = .ok (.getfield 40, 3) := by decide +kernel
theorem dX5_tell_59 : decode cX5_tell 59 = .ok (.ireturn, 1) := by decide +kernel
theorem dX5_withdrawnBy_0 : decode cX5_withdrawnBy 0 = .ok (.iconst 0, 1) := by decide +kernel
theorem dX5_withdrawnBy_1 : decode cX5_withdrawnBy 1 = .ok (.istore_n 2, 1) := by decide +kernel
theorem dX5_withdrawnBy_2 : decode cX5_withdrawnBy 2 = .ok (.iload_n 2, 1) := by decide +kernel
theorem dX5_withdrawnBy_3 : decode cX5_withdrawnBy 3 = .ok (.aload_n 0, 1) := by decide +kernel
theorem dX5_withdrawnBy_4 : decode cX5_withdrawnBy 4 = .ok (.getfield 40, 3) := by decide +kernel
theorem dX5_withdrawnBy_7 : decode cX5_withdrawnBy 7 = .ok (.if_icmp .ge 31, 3) := by decide +kernel
theorem dX5_withdrawnBy_10 : decode cX5_withdrawnBy 10 = .ok (.aload_n 0, 1) := by decide +kernel
theorem dX5_withdrawnBy_11 : decode cX5_withdrawnBy 11 = .ok (.getfield 43, 3) := by decide +kernel
theorem dX5_withdrawnBy_14 : decode cX5_withdrawnBy 14 = .ok (.iload_n 2, 1) := by decide +kernel
theorem dX5_withdrawnBy_15 : decode cX5_withdrawnBy 15 = .ok (.iaload, 1) := by decide +kernel
theorem dX5_withdrawnBy_16 : decode cX5_withdrawnBy 16 = .ok (.iconst 2, 1) := by decide +kernel
theorem dX5_withdrawnBy_17 : decode cX5_withdrawnBy 17 = .ok (.if_icmp .ne 15, 3) := by decide +kernel
theorem dX5_withdrawnBy_20 : decode cX5_withdrawnBy 20 = .ok (.aload_n 0, 1) := by decide +kernel
theorem dX5_withdrawnBy_21 : decode cX5_withdrawnBy 21 = .ok (.getfield 50, 3) := by decide +kernel
theorem dX5_withdrawnBy_24 : decode cX5_withdrawnBy 24 = .ok (.iload_n 2, 1) := by decide +kernel
theorem dX5_withdrawnBy_25 : decode cX5_withdrawnBy 25 = .ok (.iaload, 1) := by decide +kernel
theorem dX5_withdrawnBy_26 : decode cX5_withdrawnBy 26 = .ok (.iload_n 1, 1) := by decide +kernel
theorem dX5_withdrawnBy_27 : decode cX5_withdrawnBy 27 = .ok (.if_icmp .gt 5, 3) := by decide +kernel
theorem dX5_withdrawnBy_30 : decode cX5_withdrawnBy 30 = .ok (.iconst 1, 1) := by decide +kernel
theorem dX5_withdrawnBy_31 : decode cX5_withdrawnBy 31 = .ok (.ireturn, 1) := by decide +kernel
theorem dX5_withdrawnBy_32 : decode cX5_withdrawnBy 32 = .ok (.iinc 2 1, 3) := by decide +kernel
theorem dX5_withdrawnBy_35 : decode cX5_withdrawnBy 35 = .ok (.goto (-33), 3) := by decide +kernel
theorem dX5_withdrawnBy_38 : decode cX5_withdrawnBy 38 = .ok (.iconst 0, 1) := by decide +kernel
theorem dX5_withdrawnBy_39 : decode cX5_withdrawnBy 39 = .ok (.ireturn, 1) := by decide +kernel
theorem dX5_paperDay_0 : decode cX5_paperDay 0 = .ok (.bipush (-9), 2) := by decide +kernel
theorem dX5_paperDay_2 : decode cX5_paperDay 2 = .ok (.istore 4, 2) := by decide +kernel
theorem dX5_paperDay_4 : decode cX5_paperDay 4 = .ok (.aload_n 0, 1) := by decide +kernel
theorem dX5_paperDay_5 : decode cX5_paperDay 5 = .ok (.getfield 40, 3) := by decide +kernel
theorem dX5_paperDay_8 : decode cX5_paperDay 8 = .ok (.iconst 1, 1) := by decide +kernel
theorem dX5_paperDay_9 : decode cX5_paperDay 9 = .ok (.isub, 1) := by decide +kernel
theorem dX5_paperDay_10 : decode cX5_paperDay 10 = .ok (.istore 5, 2) := by decide +kernel
theorem dX5_paperDay_12 : decode cX5_paperDay 12 = .ok (.iload 5, 2) := by decide +kernel
theorem dX5_paperDay_14 : decode cX5_paperDay 14 = .ok (.ifCond .lt 86, 3) := by decide +kernel
theorem dX5_paperDay_17 : decode cX5_paperDay 17 = .ok (.aload_n 0, 1) := by decide +kernel
theorem dX5_paperDay_18 : decode cX5_paperDay 18 = .ok (.getfield 43, 3) := by decide +kernel
theorem dX5_paperDay_21 : decode cX5_paperDay 21 = .ok (.iload 5, 2) := by decide +kernel
theorem dX5_paperDay_23 : decode cX5_paperDay 23 = .ok (.iaload, 1) := by decide +kernel
theorem dX5_paperDay_24 : decode cX5_paperDay 24 = .ok (.iconst 1, 1) := by decide +kernel
theorem dX5_paperDay_25 : decode cX5_paperDay 25 = .ok (.if_icmp .ne 28, 3) := by decide +kernel
theorem dX5_paperDay_28 : decode cX5_paperDay 28 = .ok (.aload_n 0, 1) := by decide +kernel
theorem dX5_paperDay_29 : decode cX5_paperDay 29 = .ok (.getfield 47, 3) := by decide +kernel
theorem dX5_paperDay_32 : decode cX5_paperDay 32 = .ok (.iload 5, 2) := by decide +kernel
theorem dX5_paperDay_34 : decode cX5_paperDay 34 = .ok (.iaload, 1) := by decide +kernel
theorem dX5_paperDay_35 : decode cX5_paperDay 35 = .ok (.iload_n 1, 1) := by decide +kernel
theorem dX5_paperDay_36 : decode cX5_paperDay 36 = .ok (.if_icmp .ne 17, 3) := by decide +kernel
theorem dX5_paperDay_39 : decode cX5_paperDay 39 = .ok (.aload_n 0, 1) := by decide +kernel
theorem dX5_paperDay_40 : decode cX5_paperDay 40 = .ok (.getfield 50, 3) := by decide +kernel
theorem dX5_paperDay_43 : decode cX5_paperDay 43 = .ok (.iload 5, 2) := by decide +kernel
theorem dX5_paperDay_45 : decode cX5_paperDay 45 = .ok (.iaload, 1) := by decide +kernel
theorem dX5_paperDay_46 : decode cX5_paperDay 46 = .ok (.iload_n 3, 1) := by decide +kernel
theorem dX5_paperDay_47 : decode cX5_paperDay 47 = .ok (.if_icmp .gt 6, 3) := by decide +kernel
theorem dX5_paperDay_50 : decode cX5_paperDay 50 = .ok (.iload 4, 2) := by decide +kernel
theorem dX5_paperDay_52 : decode cX5_paperDay 52 = .ok (.ireturn, 1) := by decide +kernel
theorem dX5_paperDay_53 : decode cX5_paperDay 53 = .ok (.aload_n 0, 1) := by decide +kernel
theorem dX5_paperDay_54 : decode cX5_paperDay 54 = .ok (.getfield 43, 3) := by decide +kernel
theorem dX5_paperDay_57 : decode cX5_paperDay 57 = .ok (.iload 5, 2) := by decide +kernel
theorem dX5_paperDay_59 : decode cX5_paperDay 59 = .ok (.iaload, 1) := by decide +kernel
theorem dX5_paperDay_60 : decode cX5_paperDay 60 = .ok (.ifCond .ne 34, 3) := by decide +kernel
theorem dX5_paperDay_63 : decode cX5_paperDay 63 = .ok (.aload_n 0, 1) := by decide +kernel
theorem dX5_paperDay_64 : decode cX5_paperDay 64 = .ok (.getfield 47, 3) := by decide +kernel
theorem dX5_paperDay_67 : decode cX5_paperDay 67 = .ok (.iload 5, 2) := by decide +kernel
theorem dX5_paperDay_69 : decode cX5_paperDay 69 = .ok (.iaload, 1) := by decide +kernel
theorem dX5_paperDay_70 : decode cX5_paperDay 70 = .ok (.iload_n 1, 1) := by decide +kernel
theorem dX5_paperDay_71 : decode cX5_paperDay 71 = .ok (.if_icmp .ne 23, 3) := by decide +kernel
theorem dX5_paperDay_74 : decode cX5_paperDay 74 = .ok (.aload_n 0, 1) := by decide +kernel
theorem dX5_paperDay_75 : decode cX5_paperDay 75 = .ok (.getfield 50, 3) := by decide +kernel
theorem dX5_paperDay_78 : decode cX5_paperDay 78 = .ok (.iload 5, 2) := by decide +kernel
theorem dX5_paperDay_80 : decode cX5_paperDay 80 = .ok (.iaload, 1) := by decide +kernel
theorem dX5_paperDay_81 : decode cX5_paperDay 81 = .ok (.iload_n 2, 1) := by decide +kernel
theorem dX5_paperDay_82 : decode cX5_paperDay 82 = .ok (.if_icmp .gt 12, 3) := by decide +kernel
theorem dX5_paperDay_85 : decode cX5_paperDay 85 = .ok (.aload_n 0, 1) := by decide +kernel
theorem dX5_paperDay_86 : decode cX5_paperDay 86 = .ok (.getfield 50, 3) := by decide +kernel
theorem dX5_paperDay_89 : decode cX5_paperDay 89 = .ok (.iload 5, 2) := by decide +kernel
theorem dX5_paperDay_91 : decode cX5_paperDay 91 = .ok (.iaload, 1) := by decide +kernel
theorem dX5_paperDay_92 : decode cX5_paperDay 92 = .ok (.istore 4, 2) := by decide +kernel
theorem dX5_paperDay_94 : decode cX5_paperDay 94 = .ok (.iinc 5 (-1), 3) := by decide +kernel
theorem dX5_paperDay_97 : decode cX5_paperDay 97 = .ok (.goto (-85), 3) := by decide +kernel
theorem dX5_paperDay_100 : decode cX5_paperDay 100 = .ok (.iload 4, 2) := by decide +kernel
theorem dX5_paperDay_102 : decode cX5_paperDay 102 = .ok (.ireturn, 1) := by decide +kernel
theorem dX5_wholeSince_0 : decode cX5_wholeSince 0 = .ok (.aload_n 0, 1) := by decide +kernel
theorem dX5_wholeSince_1 : decode cX5_wholeSince 1 = .ok (.getfield 24, 3) := by decide +kernel
theorem dX5_wholeSince_4 : decode cX5_wholeSince 4 = .ok (.istore_n 3, 1) := by decide +kernel
theorem dX5_wholeSince_5 : decode cX5_wholeSince 5 = .ok (.iconst 0, 1) := by decide +kernel
theorem dX5_wholeSince_6 : decode cX5_wholeSince 6 = .ok (.istore 4, 2) := by decide +kernel
theorem dX5_wholeSince_8 : decode cX5_wholeSince 8 = .ok (.iload 4, 2) := by decide +kernel
theorem dX5_wholeSince_10 : decode cX5_wholeSince 10 = .ok (.bipush 8, 2) := by decide +kernel
theorem dX5_wholeSince_12 : decode cX5_wholeSince 12 = .ok (.if_icmp .ge 51, 3) := by decide +kernel
theorem dX5_wholeSince_15 : decode cX5_wholeSince 15 = .ok (.aload_n 0, 1) := by decide +kernel
theorem dX5_wholeSince_16 : decode cX5_wholeSince 16 = .ok (.getfield 30, 3) := by decide +kernel
theorem dX5_wholeSince_19 : decode cX5_wholeSince 19 = .ok (.iload 4, 2) := by decide +kernel
theorem dX5_wholeSince_21 : decode cX5_wholeSince 21 = .ok (.ishr, 1) := by decide +kernel
theorem dX5_wholeSince_22 : decode cX5_wholeSince 22 = .ok (.iconst 1, 1) := by decide +kernel
theorem dX5_wholeSince_23 : decode cX5_wholeSince 23 = .ok (.iand, 1) := by decide +kernel
theorem dX5_wholeSince_24 : decode cX5_wholeSince 24 = .ok (.ifCond .ne 6, 3) := by decide +kernel
theorem dX5_wholeSince_27 : decode cX5_wholeSince 27 = .ok (.goto 30, 3) := by decide +kernel
theorem dX5_wholeSince_30 : decode cX5_wholeSince 30 = .ok (.aload_n 0, 1) := by decide +kernel
theorem dX5_wholeSince_31 : decode cX5_wholeSince 31 = .ok (.iload 4, 2) := by decide +kernel
theorem dX5_wholeSince_33 : decode cX5_wholeSince 33 = .ok (.iload_n 1, 1) := by decide +kernel
theorem dX5_wholeSince_34 : decode cX5_wholeSince 34 = .ok (.iload_n 2, 1) := by decide +kernel
theorem dX5_wholeSince_35 : decode cX5_wholeSince 35 = .ok (.invokevirtual 66, 3) := by decide +kernel
theorem dX5_wholeSince_38 : decode cX5_wholeSince 38 = .ok (.istore 5, 2) := by decide +kernel
theorem dX5_wholeSince_40 : decode cX5_wholeSince 40 = .ok (.iload 5, 2) := by decide +kernel
theorem dX5_wholeSince_42 : decode cX5_wholeSince 42 = .ok (.bipush (-9), 2) := by decide +kernel
theorem dX5_wholeSince_44 : decode cX5_wholeSince 44 = .ok (.if_icmp .ne 6, 3) := by decide +kernel
theorem dX5_wholeSince_47 : decode cX5_wholeSince 47 = .ok (.bipush (-9), 2) := by decide +kernel
theorem dX5_wholeSince_49 : decode cX5_wholeSince 49 = .ok (.ireturn, 1) := by decide +kernel
theorem dX5_wholeSince_50 : decode cX5_wholeSince 50 = .ok (.iload_n 3, 1) := by decide +kernel
theorem dX5_wholeSince_51 : decode cX5_wholeSince 51 = .ok (.iload 5, 2) := by decide +kernel
theorem dX5_wholeSince_53 : decode cX5_wholeSince 53 = .ok (.invokestatic 70, 3) := by decide +kernel
theorem dX5_wholeSince_56 : decode cX5_wholeSince 56 = .ok (.istore_n 3, 1) := by decide +kernel
theorem dX5_wholeSince_57 : decode cX5_wholeSince 57 = .ok (.iinc 4 1, 3) := by decide +kernel
theorem dX5_wholeSince_60 : decode cX5_wholeSince 60 = .ok (.goto (-52), 3) := by decide +kernel
theorem dX5_wholeSince_63 : decode cX5_wholeSince 63 = .ok (.iload_n 3, 1) := by decide +kernel
theorem dX5_wholeSince_64 : decode cX5_wholeSince 64 = .ok (.ireturn, 1) := by decide +kernel
theorem dX5_lastRuling_0 : decode cX5_lastRuling 0 = .ok (.aload_n 0, 1) := by decide +kernel
theorem dX5_lastRuling_1 : decode cX5_lastRuling 1 = .ok (.getfield 40, 3) := by decide +kernel
theorem dX5_lastRuling_4 : decode cX5_lastRuling 4 = .ok (.iconst 1, 1) := by decide +kernel
theorem dX5_lastRuling_5 : decode cX5_lastRuling 5 = .ok (.isub, 1) := by decide +kernel
theorem dX5_lastRuling_6 : decode cX5_lastRuling 6 = .ok (.istore_n 3, 1) := by decide +kernel
theorem dX5_lastRuling_7 : decode cX5_lastRuling 7 = .ok (.iload_n 3, 1) := by decide +kernel
theorem dX5_lastRuling_8 : decode cX5_lastRuling 8 = .ok (.ifCond .lt 59, 3) := by decide +kernel
theorem dX5_lastRuling_11 : decode cX5_lastRuling 11 = .ok (.aload_n 0, 1) := by decide +kernel
theorem dX5_lastRuling_12 : decode cX5_lastRuling 12 = .ok (.getfield 43, 3) := by decide +kernel
theorem dX5_lastRuling_15 : decode cX5_lastRuling 15 = .ok (.iload_n 3, 1) := by decide +kernel
theorem dX5_lastRuling_16 : decode cX5_lastRuling 16 = .ok (.iaload, 1) := by decide +kernel
theorem dX5_lastRuling_17 : decode cX5_lastRuling 17 = .ok (.iconst 5, 1) := by decide +kernel
theorem dX5_lastRuling_18 : decode cX5_lastRuling 18 = .ok (.if_icmp .ne 16, 3) := by decide +kernel
theorem dX5_lastRuling_21 : decode cX5_lastRuling 21 = .ok (.aload_n 0, 1) := by decide +kernel
theorem dX5_lastRuling_22 : decode cX5_lastRuling 22 = .ok (.getfield 50, 3) := by decide +kernel
theorem dX5_lastRuling_25 : decode cX5_lastRuling 25 = .ok (.iload_n 3, 1) := by decide +kernel
theorem dX5_lastRuling_26 : decode cX5_lastRuling 26 = .ok (.iaload, 1) := by decide +kernel
theorem dX5_lastRuling_27 : decode cX5_lastRuling 27 = .ok (.iload_n 2, 1) := by decide +kernel
theorem dX5_lastRuling_28 : decode cX5_lastRuling 28 = .ok (.if_icmp .gt 6, 3) := by decide +kernel
theorem dX5_lastRuling_31 : decode cX5_lastRuling 31 = .ok (.bipush (-9), 2) := by decide +kernel
theorem dX5_lastRuling_33 : decode cX5_lastRuling 33 = .ok (.ireturn, 1) := by decide +kernel
theorem dX5_lastRuling_34 : decode cX5_lastRuling 34 = .ok (.aload_n 0, 1) := by decide +kernel
theorem dX5_lastRuling_35 : decode cX5_lastRuling 35 = .ok (.getfield 43, 3) := by decide +kernel
theorem dX5_lastRuling_38 : decode cX5_lastRuling 38 = .ok (.iload_n 3, 1) := by decide +kernel
theorem dX5_lastRuling_39 : decode cX5_lastRuling 39 = .ok (.iaload, 1) := by decide +kernel
theorem dX5_lastRuling_40 : decode cX5_lastRuling 40 = .ok (.iconst 4, 1) := by decide +kernel
theorem dX5_lastRuling_41 : decode cX5_lastRuling 41 = .ok (.if_icmp .ne 20, 3) := by decide +kernel
theorem dX5_lastRuling_44 : decode cX5_lastRuling 44 = .ok (.aload_n 0, 1) := by decide +kernel
theorem dX5_lastRuling_45 : decode cX5_lastRuling 45 = .ok (.getfield 50, 3) := by decide +kernel
theorem dX5_lastRuling_48 : decode cX5_lastRuling 48 = .ok (.iload_n 3, 1) := by decide +kernel
theorem dX5_lastRuling_49 : decode cX5_lastRuling 49 = .ok (.iaload, 1) := by decide +kernel
theorem dX5_lastRuling_50 : decode cX5_lastRuling 50 = .ok (.iload_n 1, 1) := by decide +kernel
theorem dX5_lastRuling_51 : decode cX5_lastRuling 51 = .ok (.if_icmp .gt 10, 3) := by decide +kernel
theorem dX5_lastRuling_54 : decode cX5_lastRuling 54 = .ok (.aload_n 0, 1) := by decide +kernel
theorem dX5_lastRuling_55 : decode cX5_lastRuling 55 = .ok (.getfield 47, 3) := by decide +kernel
theorem dX5_lastRuling_58 : decode cX5_lastRuling 58 = .ok (.iload_n 3, 1) := by decide +kernel
theorem dX5_lastRuling_59 : decode cX5_lastRuling 59 = .ok (.iaload, 1) := by decide +kernel
theorem dX5_lastRuling_60 : decode cX5_lastRuling 60 = .ok (.ireturn, 1) := by decide +kernel
theorem dX5_lastRuling_61 : decode cX5_lastRuling 61 = .ok (.iinc 3 (-1), 3) := by decide +kernel
theorem dX5_lastRuling_64 : decode cX5_lastRuling 64 = .ok (.goto (-57), 3) := by decide +kernel
theorem dX5_lastRuling_67 : decode cX5_lastRuling 67 = .ok (.bipush (-9), 2) := by decide +kernel
theorem dX5_lastRuling_69 : decode cX5_lastRuling 69 = .ok (.ireturn, 1) := by decide +kernel
theorem dX5_lastAnswer_0 : decode cX5_lastAnswer 0 = .ok (.aload_n 0, 1) := by decide +kernel
theorem dX5_lastAnswer_1 : decode cX5_lastAnswer 1 = .ok (.getfield 40, 3) := by decide +kernel
theorem dX5_lastAnswer_4 : decode cX5_lastAnswer 4 = .ok (.iconst 1, 1) := by decide +kernel
theorem dX5_lastAnswer_5 : decode cX5_lastAnswer 5 = .ok (.isub, 1) := by decide +kernel
theorem dX5_lastAnswer_6 : decode cX5_lastAnswer 6 = .ok (.istore_n 3, 1) := by decide +kernel
theorem dX5_lastAnswer_7 : decode cX5_lastAnswer 7 = .ok (.iload_n 3, 1) := by decide +kernel
theorem dX5_lastAnswer_8 : decode cX5_lastAnswer 8 = .ok (.ifCond .lt 57, 3) := by decide +kernel
theorem dX5_lastAnswer_11 : decode cX5_lastAnswer 11 = .ok (.aload_n 0, 1) := by decide +kernel
theorem dX5_lastAnswer_12 : decode cX5_lastAnswer 12 = .ok (.getfield 43, 3) := by decide +kernel
theorem dX5_lastAnswer_15 : decode cX5_lastAnswer 15 = .ok (.iload_n 3, 1) := by decide +kernel
theorem dX5_lastAnswer_16 : decode cX5_lastAnswer 16 = .ok (.iaload, 1) := by decide +kernel
theorem dX5_lastAnswer_17 : decode cX5_lastAnswer 17 = .ok (.iconst 3, 1) := by decide +kernel
theorem dX5_lastAnswer_18 : decode cX5_lastAnswer 18 = .ok (.if_icmp .ne 41, 3) := by decide +kernel
theorem dX5_lastAnswer_21 : decode cX5_lastAnswer 21 = .ok (.aload_n 0, 1) := by decide +kernel
theorem dX5_lastAnswer_22 : decode cX5_lastAnswer 22 = .ok (.getfield 50, 3) := by decide +kernel
theorem dX5_lastAnswer_25 : decode cX5_lastAnswer 25 = .ok (.iload_n 3, 1) := by decide +kernel
theorem dX5_lastAnswer_26 : decode cX5_lastAnswer 26 = .ok (.iaload, 1) := by decide +kernel
theorem dX5_lastAnswer_27 : decode cX5_lastAnswer 27 = .ok (.iload_n 1, 1) := by decide +kernel
theorem dX5_lastAnswer_28 : decode cX5_lastAnswer 28 = .ok (.if_icmp .gt 31, 3) := by decide +kernel
theorem dX5_lastAnswer_31 : decode cX5_lastAnswer 31 = .ok (.aload_n 0, 1) := by decide +kernel
theorem dX5_lastAnswer_32 : decode cX5_lastAnswer 32 = .ok (.getfield 57, 3) := by decide +kernel
theorem dX5_lastAnswer_35 : decode cX5_lastAnswer 35 = .ok (.aload_n 0, 1) := by decide +kernel
theorem dX5_lastAnswer_36 : decode cX5_lastAnswer 36 = .ok (.getfield 47, 3) := by decide +kernel
theorem dX5_lastAnswer_39 : decode cX5_lastAnswer 39 = .ok (.iload_n 3, 1) := by decide +kernel
theorem dX5_lastAnswer_40 : decode cX5_lastAnswer 40 = .ok (.iaload, 1) := by decide +kernel
theorem dX5_lastAnswer_41 : decode cX5_lastAnswer 41 = .ok (.iconst 2, 1) := by decide +kernel
theorem dX5_lastAnswer_42 : decode cX5_lastAnswer 42 = .ok (.idiv, 1) := by decide +kernel
theorem dX5_lastAnswer_43 : decode cX5_lastAnswer 43 = .ok (.iload_n 2, 1) := by decide +kernel
theorem dX5_lastAnswer_44 : decode cX5_lastAnswer 44 = .ok (.invokevirtual 76, 3) := by decide +kernel
theorem dX5_lastAnswer_47 : decode cX5_lastAnswer 47 = .ok (.ifCond .ne 12, 3) := by decide +kernel
theorem dX5_lastAnswer_50 : decode cX5_lastAnswer 50 = .ok (.aload_n 0, 1) := by decide +kernel
theorem dX5_lastAnswer_51 : decode cX5_lastAnswer 51 = .ok (.getfield 47, 3) := by decide +kernel
theorem dX5_lastAnswer_54 : decode cX5_lastAnswer 54 = .ok (.iload_n 3, 1) := by decide +kernel
theorem dX5_lastAnswer_55 : decode cX5_lastAnswer 55 = .ok (.iaload, 1) := by decide +kernel
theorem dX5_lastAnswer_56 : decode cX5_lastAnswer 56 = .ok (.iconst 2, 1) := by decide +kernel
theorem dX5_lastAnswer_57 : decode cX5_lastAnswer 57 = .ok (.irem, 1) := by decide +kernel
theorem dX5_lastAnswer_58 : decode cX5_lastAnswer 58 = .ok (.ireturn, 1) := by decide +kernel
theorem dX5_lastAnswer_59 : decode cX5_lastAnswer 59 = .ok (.iinc 3 (-1), 3) := by decide +kernel
theorem dX5_lastAnswer_62 : decode cX5_lastAnswer 62 = .ok (.goto (-55), 3) := by decide +kernel
theorem dX5_lastAnswer_65 : decode cX5_lastAnswer 65 = .ok (.bipush (-9), 2) := by decide +kernel
theorem dX5_lastAnswer_67 : decode cX5_lastAnswer 67 = .ok (.ireturn, 1) := by decide +kernel
theorem dX5_stateOn_0 : decode cX5_stateOn 0 = .ok (.aload_n 0, 1) := by decide +kernel
theorem dX5_stateOn_1 : decode cX5_stateOn 1 = .ok (.iload_n 1, 1) := by decide +kernel
theorem dX5_stateOn_2 : decode cX5_stateOn 2 = .ok (.invokevirtual 82, 3) := by decide +kernel
theorem dX5_stateOn_5 : decode cX5_stateOn 5 = .ok (.ifCond .eq 5, 3) := by decide +kernel
theorem dX5_stateOn_8 : decode cX5_stateOn 8 = .ok (.iconst 1, 1) := by decide +kernel
theorem dX5_stateOn_9 : decode cX5_stateOn 9 = .ok (.ireturn, 1) := by decide +kernel
theorem dX5_stateOn_10 : decode cX5_stateOn 10 = .ok (.aload_n 0, 1) := by decide +kernel
theorem dX5_stateOn_11 : decode cX5_stateOn 11 = .ok (.getfield 27, 3) := by decide +kernel
theorem dX5_stateOn_14 : decode cX5_stateOn 14 = .ok (.ifCond .ne 5, 3) := by decide +kernel
theorem dX5_stateOn_17 : decode cX5_stateOn 17 = .ok (.iconst 0, 1) := by decide +kernel
theorem dX5_stateOn_18 : decode cX5_stateOn 18 = .ok (.ireturn, 1) := by decide +kernel
theorem dX5_stateOn_19 : decode cX5_stateOn 19 = .ok (.aload_n 0, 1) := by decide +kernel
theorem dX5_stateOn_20 : decode cX5_stateOn 20 = .ok (.iload_n 1, 1) := by decide +kernel
theorem dX5_stateOn_21 : decode cX5_stateOn 21 = .ok (.iload_n 2, 1) := by decide +kernel
theorem dX5_stateOn_22 : decode cX5_stateOn 22 = .ok (.invokevirtual 86, 3) := by decide +kernel
theorem dX5_stateOn_25 : decode cX5_stateOn 25 = .ok (.istore_n 3, 1) := by decide +kernel
theorem dX5_stateOn_26 : decode cX5_stateOn 26 = .ok (.iload_n 3, 1) := by decide +kernel
theorem dX5_stateOn_27 : decode cX5_stateOn 27 = .ok (.bipush (-9), 2) := by decide +kernel
theorem dX5_stateOn_29 : decode cX5_stateOn 29 = .ok (.if_icmp .eq 16, 3) := by decide +kernel
theorem dX5_stateOn_32 : decode cX5_stateOn 32 = .ok (.iload_n 3, 1) := by decide +kernel
theorem dX5_stateOn_33 : decode cX5_stateOn 33 = .ok (.iconst 1, 1) := by decide +kernel
theorem dX5_stateOn_34 : decode cX5_stateOn 34 = .ok (.if_icmp .ne 8, 3) := by decide +kernel
theorem dX5_stateOn_37 : decode cX5_stateOn 37 = .ok (.bipush 8, 2) := by decide +kernel
theorem dX5_stateOn_39 : decode cX5_stateOn 39 = .ok (.goto 5, 3) := by decide +kernel
theorem dX5_stateOn_42 : decode cX5_stateOn 42 = .ok (.bipush 9, 2) := by decide +kernel
theorem dX5_stateOn_44 : decode cX5_stateOn 44 = .ok (.ireturn, 1) := by decide +kernel
theorem dX5_stateOn_45 : decode cX5_stateOn 45 = .ok (.aload_n 0, 1) := by decide +kernel
theorem dX5_stateOn_46 : decode cX5_stateOn 46 = .ok (.iload_n 1, 1) := by decide +kernel
theorem dX5_stateOn_47 : decode cX5_stateOn 47 = .ok (.iload_n 2, 1) := by decide +kernel
theorem dX5_stateOn_48 : decode cX5_stateOn 48 = .ok (.invokevirtual 89, 3) := by decide +kernel
theorem dX5_stateOn_51 : decode cX5_stateOn 51 = .ok (.istore 4, 2) := by decide +kernel
theorem dX5_stateOn_53 : decode cX5_stateOn 53 = .ok (.iload 4, 2) := by decide +kernel
theorem dX5_stateOn_55 : decode cX5_stateOn 55 = .ok (.bipush (-9), 2) := by decide +kernel
theorem dX5_stateOn_57 : decode cX5_stateOn 57 = .ok (.if_icmp .eq 15, 3) := by decide +kernel
theorem dX5_stateOn_60 : decode cX5_stateOn 60 = .ok (.iload 4, 2) := by decide +kernel
theorem dX5_stateOn_62 : decode cX5_stateOn 62 = .ok (.iconst 1, 1) := by decide +kernel
theorem dX5_stateOn_63 : decode cX5_stateOn 63 = .ok (.if_icmp .ne 7, 3) := by decide +kernel
theorem dX5_stateOn_66 : decode cX5_stateOn 66 = .ok (.iconst 4, 1) := by decide +kernel
theorem dX5_stateOn_67 : decode cX5_stateOn 67 = .ok (.goto 4, 3) := by decide +kernel
theorem dX5_stateOn_70 : decode cX5_stateOn 70 = .ok (.iconst 5, 1) := by decide +kernel
theorem dX5_stateOn_71 : decode cX5_stateOn 71 = .ok (.ireturn, 1) := by decide +kernel
theorem dX5_stateOn_72 : decode cX5_stateOn 72 = .ok (.aload_n 0, 1) := by decide +kernel
theorem dX5_stateOn_73 : decode cX5_stateOn 73 = .ok (.iload_n 1, 1) := by decide +kernel
theorem dX5_stateOn_74 : decode cX5_stateOn 74 = .ok (.iload_n 2, 1) := by decide +kernel
theorem dX5_stateOn_75 : decode cX5_stateOn 75 = .ok (.invokevirtual 92, 3) := by decide +kernel
theorem dX5_stateOn_78 : decode cX5_stateOn 78 = .ok (.istore 5, 2) := by decide +kernel
theorem dX5_stateOn_80 : decode cX5_stateOn 80 = .ok (.iload 5, 2) := by decide +kernel
theorem dX5_stateOn_82 : decode cX5_stateOn 82 = .ok (.bipush (-9), 2) := by decide +kernel
theorem dX5_stateOn_84 : decode cX5_stateOn 84 = .ok (.if_icmp .ne 5, 3) := by decide +kernel
theorem dX5_stateOn_87 : decode cX5_stateOn 87 = .ok (.iconst 2, 1) := by decide +kernel
theorem dX5_stateOn_88 : decode cX5_stateOn 88 = .ok (.ireturn, 1) := by decide +kernel
theorem dX5_stateOn_89 : decode cX5_stateOn 89 = .ok (.aload_n 0, 1) := by decide +kernel
theorem dX5_stateOn_90 : decode cX5_stateOn 90 = .ok (.getfield 27, 3) := by decide +kernel
theorem dX5_stateOn_93 : decode cX5_stateOn 93 = .ok (.iconst 1, 1) := by decide +kernel
theorem dX5_stateOn_94 : decode cX5_stateOn 94 = .ok (.if_icmp .ne 6, 3) := by decide +kernel
theorem dX5_stateOn_97 : decode cX5_stateOn 97 = .ok (.bipush 6, 2) := by decide +kernel
theorem dX5_stateOn_99 : decode cX5_stateOn 99 = .ok (.ireturn, 1) := by decide +kernel
theorem dX5_stateOn_100 : decode cX5_stateOn 100 = .ok (.aload_n 0, 1) := by decide +kernel
theorem dX5_stateOn_101 : decode cX5_stateOn 101 = .ok (.getfield 53, 3) := by decide +kernel
theorem dX5_stateOn_104 : decode cX5_stateOn 104 = .ok (.iload 5, 2) := by decide +kernel
theorem dX5_stateOn_106 : decode cX5_stateOn 106 = .ok (.iload_n 1, 1) := by decide +kernel
theorem dX5_stateOn_107 : decode cX5_stateOn 107 = .ok (.invokevirtual 95, 3) := by decide +kernel
theorem dX5_stateOn_110 : decode cX5_stateOn 110 = .ok (.aload_n 0, 1) := by decide +kernel
theorem dX5_stateOn_111 : decode cX5_stateOn 111 = .ok (.getfield 33, 3) := by decide +kernel
theorem dX5_stateOn_114 : decode cX5_stateOn 114 = .ok (.if_icmp .gt 5, 3) := by decide +kernel
theorem dX5_stateOn_117 : decode cX5_stateOn 117 = .ok (.iconst 3, 1) := by decide +kernel
theorem dX5_stateOn_118 : decode cX5_stateOn 118 = .ok (.ireturn, 1) := by decide +kernel
theorem dX5_stateOn_119 : decode cX5_stateOn 119 = .ok (.aload_n 0, 1) := by decide +kernel
theorem dX5_stateOn_120 : decode cX5_stateOn 120 = .ok (.getfield 36, 3) := by decide +kernel
theorem dX5_stateOn_123 : decode cX5_stateOn 123 = .ok (.ifCond .eq 8, 3) := by decide +kernel
theorem dX5_stateOn_126 : decode cX5_stateOn 126 = .ok (.bipush 6, 2) := by decide +kernel
theorem dX5_stateOn_128 : decode cX5_stateOn 128 = .ok (.goto 5, 3) := by decide +kernel
theorem dX5_stateOn_131 : decode cX5_stateOn 131 = .ok (.bipush 7, 2) := by decide +kernel
theorem dX5_stateOn_133 : decode cX5_stateOn 133 = .ok (.ireturn, 1) := by decide +kernel
theorem dX5_lets_0 : decode cX5_lets 0 = .ok (.aload_n 0, 1) := by decide +kernel
theorem dX5_lets_1 : decode cX5_lets 1 = .ok (.getfield 27, 3) := by decide +kernel
theorem dX5_lets_4 : decode cX5_lets 4 = .ok (.tableswitch 99 0 3 #[32, 42, 54, 76], 32) := by decide +kernel
theorem dX5_lets_36 : decode cX5_lets 36 = .ok (.iload_n 1, 1) := by decide +kernel
theorem dX5_lets_37 : decode cX5_lets 37 = .ok (.ifCond .ne 7, 3) := by decide +kernel
theorem dX5_lets_40 : decode cX5_lets 40 = .ok (.iconst 1, 1) := by decide +kernel
theorem dX5_lets_41 : decode cX5_lets 41 = .ok (.goto 4, 3) := by decide +kernel
theorem dX5_lets_44 : decode cX5_lets 44 = .ok (.iconst 0, 1) := by decide +kernel
theorem dX5_lets_45 : decode cX5_lets 45 = .ok (.ireturn, 1) := by decide +kernel
theorem dX5_lets_46 : decode cX5_lets 46 = .ok (.iload_n 1, 1) := by decide +kernel
theorem dX5_lets_47 : decode cX5_lets 47 = .ok (.bipush 6, 2) := by decide +kernel
theorem dX5_lets_49 : decode cX5_lets 49 = .ok (.if_icmp .ne 7, 3) := by decide +kernel
theorem dX5_lets_52 : decode cX5_lets 52 = .ok (.iconst 1, 1) := by decide +kernel
theorem dX5_lets_53 : decode cX5_lets 53 = .ok (.goto 4, 3) := by decide +kernel
theorem dX5_lets_56 : decode cX5_lets 56 = .ok (.iconst 0, 1) := by decide +kernel
theorem dX5_lets_57 : decode cX5_lets 57 = .ok (.ireturn, 1) := by decide +kernel
theorem dX5_lets_58 : decode cX5_lets 58 = .ok (.iload_n 1, 1) := by decide +kernel
theorem dX5_lets_59 : decode cX5_lets 59 = .ok (.iconst 4, 1) := by decide +kernel
theorem dX5_lets_60 : decode cX5_lets 60 = .ok (.if_icmp .eq 14, 3) := by decide +kernel
theorem dX5_lets_63 : decode cX5_lets 63 = .ok (.iload_n 1, 1) := by decide +kernel
theorem dX5_lets_64 : decode cX5_lets 64 = .ok (.iconst 5, 1) := by decide +kernel
theorem dX5_lets_65 : decode cX5_lets 65 = .ok (.if_icmp .eq 9, 3) := by decide +kernel
theorem dX5_lets_68 : decode cX5_lets 68 = .ok (.iload_n 1, 1) := by decide +kernel
theorem dX5_lets_69 : decode cX5_lets 69 = .ok (.bipush 6, 2) := by decide +kernel
theorem dX5_lets_71 : decode cX5_lets 71 = .ok (.if_icmp .ne 7, 3) := by decide +kernel
theorem dX5_lets_74 : decode cX5_lets 74 = .ok (.iconst 1, 1) := by decide +kernel
theorem dX5_lets_75 : decode cX5_lets 75 = .ok (.goto 4, 3) := by decide +kernel
theorem dX5_lets_78 : decode cX5_lets 78 = .ok (.iconst 0, 1) := by decide +kernel
theorem dX5_lets_79 : decode cX5_lets 79 = .ok (.ireturn, 1) := by decide +kernel
theorem dX5_lets_80 : decode cX5_lets 80 = .ok (.iload_n 1, 1) := by decide +kernel
theorem dX5_lets_81 : decode cX5_lets 81 = .ok (.iconst 4, 1) := by decide +kernel
theorem dX5_lets_82 : decode cX5_lets 82 = .ok (.if_icmp .eq 15, 3) := by decide +kernel
theorem dX5_lets_85 : decode cX5_lets 85 = .ok (.iload_n 1, 1) := by decide +kernel
theorem dX5_lets_86 : decode cX5_lets 86 = .ok (.bipush 6, 2) := by decide +kernel
theorem dX5_lets_88 : decode cX5_lets 88 = .ok (.if_icmp .eq 9, 3) := by decide +kernel
theorem dX5_lets_91 : decode cX5_lets 91 = .ok (.iload_n 1, 1) := by decide +kernel
theorem dX5_lets_92 : decode cX5_lets 92 = .ok (.bipush 8, 2) := by decide +kernel
theorem dX5_lets_94 : decode cX5_lets 94 = .ok (.if_icmp .ne 7, 3) := by decide +kernel
theorem dX5_lets_97 : decode cX5_lets 97 = .ok (.iconst 1, 1) := by decide +kernel
theorem dX5_lets_98 : decode cX5_lets 98 = .ok (.goto 4, 3) := by decide +kernel
theorem dX5_lets_101 : decode cX5_lets 101 = .ok (.iconst 0, 1) := by decide +kernel
theorem dX5_lets_102 : decode cX5_lets 102 = .ok (.ireturn, 1) := by decide +kernel
theorem dX5_lets_103 : decode cX5_lets 103 = .ok (.iload_n 1, 1) := by decide +kernel
theorem dX5_lets_104 : decode cX5_lets 104 = .ok (.iconst 2, 1) := by decide +kernel
theorem dX5_lets_105 : decode cX5_lets 105 = .ok (.if_icmp .eq 25, 3) := by decide +kernel
theorem dX5_lets_108 : decode cX5_lets 108 = .ok (.iload_n 1, 1) := by decide +kernel
theorem dX5_lets_109 : decode cX5_lets 109 = .ok (.iconst 3, 1) := by decide +kernel
theorem dX5_lets_110 : decode cX5_lets 110 = .ok (.if_icmp .eq 20, 3) := by decide +kernel
theorem dX5_lets_113 : decode cX5_lets 113 = .ok (.iload_n 1, 1) := by decide +kernel
theorem dX5_lets_114 : decode cX5_lets 114 = .ok (.iconst 4, 1) := by decide +kernel
theorem dX5_lets_115 : decode cX5_lets 115 = .ok (.if_icmp .eq 15, 3) := by decide +kernel
theorem dX5_lets_118 : decode cX5_lets 118 = .ok (.iload_n 1, 1) := by decide +kernel
theorem dX5_lets_119 : decode cX5_lets 119 = .ok (.bipush 6, 2) := by decide +kernel
theorem dX5_lets_121 : decode cX5_lets 121 = .ok (.if_icmp .eq 9, 3) := by decide +kernel
theorem dX5_lets_124 : decode cX5_lets 124 = .ok (.iload_n 1, 1) := by decide +kernel
theorem dX5_lets_125 : decode cX5_lets 125 = .ok (.bipush 8, 2) := by decide +kernel
theorem dX5_lets_127 : decode cX5_lets 127 = .ok (.if_icmp .ne 7, 3) := by decide +kernel
theorem dX5_lets_130 : decode cX5_lets 130 = .ok (.iconst 1, 1) := by decide +kernel
theorem dX5_lets_131 : decode cX5_lets 131 = .ok (.goto 4, 3) := by decide +kernel
theorem dX5_lets_134 : decode cX5_lets 134 = .ok (.iconst 0, 1) := by decide +kernel
theorem dX5_lets_135 : decode cX5_lets 135 = .ok (.ireturn, 1) := by decide +kernel
theorem dX5_letsOn_0 : decode cX5_letsOn 0 = .ok (.aload_n 0, 1) := by decide +kernel
theorem dX5_letsOn_1 : decode cX5_letsOn 1 = .ok (.aload_n 0, 1) := by decide +kernel
theorem dX5_letsOn_2 : decode cX5_letsOn 2 = .ok (.iload_n 1, 1) := by decide +kernel
theorem dX5_letsOn_3 : decode cX5_letsOn 3 = .ok (.aload_n 0, 1) := by decide +kernel
theorem dX5_letsOn_4 : decode cX5_letsOn 4 = .ok (.getfield 53, 3) := by decide +kernel
theorem dX5_letsOn_7 : decode cX5_letsOn 7 = .ok (.getfield 61, 3) := by decide +kernel
theorem dX5_letsOn_10 : decode cX5_letsOn 10 = .ok (.invokevirtual 98, 3) := by decide +kernel
theorem dX5_letsOn_13 : decode cX5_letsOn 13 = .ok (.invokevirtual 101, 3) := by decide +kernel
theorem dX5_letsOn_16 : decode cX5_letsOn 16 = .ok (.ireturn, 1) := by decide +kernel
theorem dX5_firstNotLetting_0 : decode cX5_firstNotLetting 0 = .ok (.iload_n 1, 1) := by decide +kernel
theorem dX5_firstNotLetting_1 : decode cX5_firstNotLetting 1 = .ok (.istore_n 3, 1) := by decide +kernel
theorem dX5_firstNotLetting_2 : decode cX5_firstNotLetting 2 = .ok (.iconst 0, 1) := by decide +kernel
theorem dX5_firstNotLetting_3 : decode cX5_firstNotLetting 3 = .ok (.istore 4, 2) := by decide +kernel
theorem dX5_firstNotLetting_5 : decode cX5_firstNotLetting 5 = .ok (.iload 4, 2) := by decide +kernel
theorem dX5_firstNotLetting_7 : decode cX5_firstNotLetting 7 = .ok (.bipush 62, 2) := by decide +kernel
theorem dX5_firstNotLetting_9 : decode cX5_firstNotLetting 9 = .ok (.if_icmp .gt 44, 3) := by decide +kernel
theorem dX5_firstNotLetting_12 : decode cX5_firstNotLetting 12 = .ok (.iload_n 3, 1) := by decide +kernel
theorem dX5_firstNotLetting_13 : decode cX5_firstNotLetting 13 = .ok (.iload_n 2, 1) := by decide +kernel
theorem dX5_firstNotLetting_14 : decode cX5_firstNotLetting 14 = .ok (.if_icmp .le 6, 3) := by decide +kernel
theorem dX5_firstNotLetting_17 : decode cX5_firstNotLetting 17 = .ok (.bipush (-9), 2) := by decide +kernel
theorem dX5_firstNotLetting_19 : decode cX5_firstNotLetting 19 = .ok (.ireturn, 1) := by decide +kernel
theorem dX5_firstNotLetting_20 : decode cX5_firstNotLetting 20 = .ok (.aload_n 0, 1) := by decide +kernel
theorem dX5_firstNotLetting_21 : decode cX5_firstNotLetting 21 = .ok (.aload_n 0, 1) := by decide +kernel
theorem dX5_firstNotLetting_22 : decode cX5_firstNotLetting 22 = .ok (.iload_n 3, 1) := by decide +kernel
theorem dX5_firstNotLetting_23 : decode cX5_firstNotLetting 23 = .ok (.aload_n 0, 1) := by decide +kernel
theorem dX5_firstNotLetting_24 : decode cX5_firstNotLetting 24 = .ok (.getfield 53, 3) := by decide +kernel
theorem dX5_firstNotLetting_27 : decode cX5_firstNotLetting 27 = .ok (.getfield 61, 3) := by decide +kernel
theorem dX5_firstNotLetting_30 : decode cX5_firstNotLetting 30 = .ok (.invokevirtual 98, 3) := by decide +kernel
theorem dX5_firstNotLetting_33 : decode cX5_firstNotLetting 33 = .ok (.invokevirtual 101, 3) := by decide +kernel
theorem dX5_firstNotLetting_36 : decode cX5_firstNotLetting 36 = .ok (.ifCond .ne 5, 3) := by decide +kernel
theorem dX5_firstNotLetting_39 : decode cX5_firstNotLetting 39 = .ok (.iload_n 3, 1) := by decide +kernel
theorem dX5_firstNotLetting_40 : decode cX5_firstNotLetting 40 = .ok (.ireturn, 1) := by decide +kernel
theorem dX5_firstNotLetting_41 : decode cX5_firstNotLetting 41 = .ok (.aload_n 0, 1) := by decide +kernel
theorem dX5_firstNotLetting_42 : decode cX5_firstNotLetting 42 = .ok (.iload_n 3, 1) := by decide +kernel
theorem dX5_firstNotLetting_43 : decode cX5_firstNotLetting 43 = .ok (.invokevirtual 104, 3) := by decide +kernel
theorem dX5_firstNotLetting_46 : decode cX5_firstNotLetting 46 = .ok (.istore_n 3, 1) := by decide +kernel
theorem dX5_firstNotLetting_47 : decode cX5_firstNotLetting 47 = .ok (.iinc 4 1, 3) := by decide +kernel
theorem dX5_firstNotLetting_50 : decode cX5_firstNotLetting 50 = .ok (.goto (-45), 3) := by decide +kernel
theorem dX5_firstNotLetting_53 : decode cX5_firstNotLetting 53 = .ok (.bipush (-9), 2) := by decide +kernel
theorem dX5_firstNotLetting_55 : decode cX5_firstNotLetting 55 = .ok (.ireturn, 1) := by decide +kernel
theorem dX5_nextTurn_0 : decode cX5_nextTurn 0 = .ok (.ldc 108, 2) := by decide +kernel
theorem dX5_nextTurn_2 : decode cX5_nextTurn 2 = .ok (.istore_n 2, 1) := by decide +kernel
theorem dX5_nextTurn_3 : decode cX5_nextTurn 3 = .ok (.iconst 0, 1) := by decide +kernel
theorem dX5_nextTurn_4 : decode cX5_nextTurn 4 = .ok (.istore_n 3, 1) := by decide +kernel
theorem dX5_nextTurn_5 : decode cX5_nextTurn 5 = .ok (.iload_n 3, 1) := by decide +kernel
theorem dX5_nextTurn_6 : decode cX5_nextTurn 6 = .ok (.aload_n 0, 1) := by decide +kernel
theorem dX5_nextTurn_7 : decode cX5_nextTurn 7 = .ok (.getfield 40, 3) := by decide +kernel
theorem dX5_nextTurn_10 : decode cX5_nextTurn 10 = .ok (.if_icmp .ge 30, 3) := by decide +kernel
theorem dX5_nextTurn_13 : decode cX5_nextTurn 13 = .ok (.aload_n 0, 1) := by decide +kernel
theorem dX5_nextTurn_14 : decode cX5_nextTurn 14 = .ok (.getfield 50, 3) := by decide +kernel
theorem dX5_nextTurn_17 : decode cX5_nextTurn 17 = .ok (.iload_n 3, 1) := by decide +kernel
theorem dX5_nextTurn_18 : decode cX5_nextTurn 18 = .ok (.iaload, 1) := by decide +kernel
theorem dX5_nextTurn_19 : decode cX5_nextTurn 19 = .ok (.iload_n 1, 1) := by decide +kernel
theorem dX5_nextTurn_20 : decode cX5_nextTurn 20 = .ok (.if_icmp .le 14, 3) := by decide +kernel
theorem dX5_nextTurn_23 : decode cX5_nextTurn 23 = .ok (.iload_n 2, 1) := by decide +kernel
theorem dX5_nextTurn_24 : decode cX5_nextTurn 24 = .ok (.aload_n 0, 1) := by decide +kernel
theorem dX5_nextTurn_25 : decode cX5_nextTurn 25 = .ok (.getfield 50, 3) := by decide +kernel
theorem dX5_nextTurn_28 : decode cX5_nextTurn 28 = .ok (.iload_n 3, 1) := by decide +kernel
theorem dX5_nextTurn_29 : decode cX5_nextTurn 29 = .ok (.iaload, 1) := by decide +kernel
theorem dX5_nextTurn_30 : decode cX5_nextTurn 30 = .ok (.invokestatic 109, 3) := by decide +kernel
theorem dX5_nextTurn_33 : decode cX5_nextTurn 33 = .ok (.istore_n 2, 1) := by decide +kernel
theorem dX5_nextTurn_34 : decode cX5_nextTurn 34 = .ok (.iinc 3 1, 3) := by decide +kernel
theorem dX5_nextTurn_37 : decode cX5_nextTurn 37 = .ok (.goto (-32), 3) := by decide +kernel
theorem dX5_nextTurn_40 : decode cX5_nextTurn 40 = .ok (.aload_n 0, 1) := by decide +kernel
theorem dX5_nextTurn_41 : decode cX5_nextTurn 41 = .ok (.getfield 53, 3) := by decide +kernel
theorem dX5_nextTurn_44 : decode cX5_nextTurn 44 = .ok (.aload_n 0, 1) := by decide +kernel
theorem dX5_nextTurn_45 : decode cX5_nextTurn 45 = .ok (.iload_n 1, 1) := by decide +kernel
theorem dX5_nextTurn_46 : decode cX5_nextTurn 46 = .ok (.aload_n 0, 1) := by decide +kernel
theorem dX5_nextTurn_47 : decode cX5_nextTurn 47 = .ok (.getfield 53, 3) := by decide +kernel
theorem dX5_nextTurn_50 : decode cX5_nextTurn 50 = .ok (.getfield 61, 3) := by decide +kernel
theorem dX5_nextTurn_53 : decode cX5_nextTurn 53 = .ok (.invokevirtual 92, 3) := by decide +kernel
theorem dX5_nextTurn_56 : decode cX5_nextTurn 56 = .ok (.aload_n 0, 1) := by decide +kernel
theorem dX5_nextTurn_57 : decode cX5_nextTurn 57 = .ok (.getfield 33, 3) := by decide +kernel
theorem dX5_nextTurn_60 : decode cX5_nextTurn 60 = .ok (.invokevirtual 112, 3) := by decide +kernel
theorem dX5_nextTurn_63 : decode cX5_nextTurn 63 = .ok (.istore_n 3, 1) := by decide +kernel
theorem dX5_nextTurn_64 : decode cX5_nextTurn 64 = .ok (.iload_n 3, 1) := by decide +kernel
theorem dX5_nextTurn_65 : decode cX5_nextTurn 65 = .ok (.iload_n 1, 1) := by decide +kernel
theorem dX5_nextTurn_66 : decode cX5_nextTurn 66 = .ok (.if_icmp .le 11, 3) := by decide +kernel
theorem dX5_nextTurn_69 : decode cX5_nextTurn 69 = .ok (.iload_n 2, 1) := by decide +kernel
theorem dX5_nextTurn_70 : decode cX5_nextTurn 70 = .ok (.iload_n 3, 1) := by decide +kernel
theorem dX5_nextTurn_71 : decode cX5_nextTurn 71 = .ok (.invokestatic 109, 3) := by decide +kernel
theorem dX5_nextTurn_74 : decode cX5_nextTurn 74 = .ok (.goto 4, 3) := by decide +kernel
theorem dX5_nextTurn_77 : decode cX5_nextTurn 77 = .ok (.iload_n 2, 1) := by decide +kernel
theorem dX5_nextTurn_78 : decode cX5_nextTurn 78 = .ok (.ireturn, 1) := by decide +kernel
theorem dX6_init_0 : decode cX6_init 0 = .ok (.aload_n 0, 1) := by decide +kernel
theorem dX6_init_1 : decode cX6_init 1 = .ok (.invokespecial 3, 3) := by decide +kernel
theorem dX6_init_4 : decode cX6_init 4 = .ok (.aload_n 0, 1) := by decide +kernel
theorem dX6_init_5 : decode cX6_init 5 = .ok (.iconst 0, 1) := by decide +kernel
theorem dX6_init_6 : decode cX6_init 6 = .ok (.putfield 9, 3) := by decide +kernel
theorem dX6_init_9 : decode cX6_init 9 = .ok (.aload_n 0, 1) := by decide +kernel
theorem dX6_init_10 : decode cX6_init 10 = .ok (.bipush 7, 2) := by decide +kernel
theorem dX6_init_12 : decode cX6_init 12 = .ok (.newarray .int, 2) := by decide +kernel
theorem dX6_init_14 : decode cX6_init 14 = .ok (.putfield 15, 3) := by decide +kernel
theorem dX6_init_17 : decode cX6_init 17 = .ok (.aload_n 0, 1) := by decide +kernel
theorem dX6_init_18 : decode cX6_init 18 = .ok (.bipush 7, 2) := by decide +kernel
theorem dX6_init_20 : decode cX6_init 20 = .ok (.newarray .int, 2) := by decide +kernel
theorem dX6_init_22 : decode cX6_init 22 = .ok (.putfield 19, 3) := by decide +kernel
theorem dX6_init_25 : decode cX6_init 25 = .ok (.aload_n 0, 1) := by decide +kernel
theorem dX6_init_26 : decode cX6_init 26 = .ok (.bipush 7, 2) := by decide +kernel
theorem dX6_init_28 : decode cX6_init 28 = .ok (.newarray .int, 2) := by decide +kernel
theorem dX6_init_30 : decode cX6_init 30 = .ok (.putfield 22, 3) := by decide +kernel
theorem dX6_init_33 : decode cX6_init 33 = .ok (.aload_n 0, 1) := by decide +kernel
theorem dX6_init_34 : decode cX6_init 34 = .ok (.bipush 7, 2) := by decide +kernel
theorem dX6_init_36 : decode cX6_init 36 = .ok (.newarray .int, 2) := by decide +kernel
theorem dX6_init_38 : decode cX6_init 38 = .ok (.putfield 25, 3) := by decide +kernel
theorem dX6_init_41 : decode cX6_init 41 = .ok (.aload_n 0, 1) := by decide +kernel
theorem dX6_init_42 : decode cX6_init 42 = .ok (.bipush 7, 2) := by decide +kernel
theorem dX6_init_44 : decode cX6_init 44 = .ok (.newarray .int, 2) := by decide +kernel
theorem dX6_init_46 : decode cX6_init 46 = .ok (.putfield 28, 3) := by decide +kernel
theorem dX6_init_49 : decode cX6_init 49 = .ok (.aload_n 0, 1) := by decide +kernel
theorem dX6_init_50 : decode cX6_init 50 = .ok (.bipush 7, 2) := by decide +kernel
theorem dX6_init_52 : decode cX6_init 52 = .ok (.newarray .int, 2) := by decide +kernel
theorem dX6_init_54 : decode cX6_init 54 = .ok (.putfield 31, 3) := by decide +kernel
theorem dX6_init_57 : decode cX6_init 57 = .ok (.aload_n 0, 1) := by decide +kernel
theorem dX6_init_58 : decode cX6_init 58 = .ok (.bipush (-9), 2) := by decide +kernel
theorem dX6_init_60 : decode cX6_init 60 = .ok (.putfield 34, 3) := by decide +kernel
theorem dX6_init_63 : decode cX6_init 63 = .ok (.aload_n 0, 1) := by decide +kernel
theorem dX6_init_64 : decode cX6_init 64 = .ok (.bipush (-9), 2) := by decide +kernel
theorem dX6_init_66 : decode cX6_init 66 = .ok (.putfield 37, 3) := by decide +kernel
theorem dX6_init_69 : decode cX6_init 69 = .ok (.return_, 1) := by decide +kernel
theorem dX6_add_0 : decode cX6_add 0 = .ok (.aload_n 0, 1) := by decide +kernel
theorem dX6_add_1 : decode cX6_add 1 = .ok (.getfield 9, 3) := by decide +kernel
theorem dX6_add_4 : decode cX6_add 4 = .ok (.bipush 7, 2) := by decide +kernel
theorem dX6_add_6 : decode cX6_add 6 = .ok (.if_icmp .lt 6, 3) := by decide +kernel
theorem dX6_add_9 : decode cX6_add 9 = .ok (.bipush (-6), 2) := by decide +kernel
theorem dX6_add_11 : decode cX6_add 11 = .ok (.ireturn, 1) := by decide +kernel
theorem dX6_add_12 : decode cX6_add 12 = .ok (.aload_n 0, 1) := by decide +kernel
theorem dX6_add_13 : decode cX6_add 13 = .ok (.getfield 15, 3) := by decide +kernel
theorem dX6_add_16 : decode cX6_add 16 = .ok (.aload_n 0, 1) := by decide +kernel
theorem dX6_add_17 : decode cX6_add 17 = .ok (.getfield 9, 3) := by decide +kernel
theorem dX6_add_20 : decode cX6_add 20 = .ok (.iload_n 1, 1) := by decide +kernel
theorem dX6_add_21 : decode cX6_add 21 = .ok (.iastore, 1) := by decide +kernel
theorem dX6_add_22 : decode cX6_add 22 = .ok (.aload_n 0, 1) := by decide +kernel
theorem dX6_add_23 : decode cX6_add 23 = .ok (.getfield 19, 3) := by decide +kernel
theorem dX6_add_26 : decode cX6_add 26 = .ok (.aload_n 0, 1) := by decide +kernel
theorem dX6_add_27 : decode cX6_add 27 = .ok (.getfield 9, 3) := by decide +kernel
theorem dX6_add_30 : decode cX6_add 30 = .ok (.iload_n 2, 1) := by decide +kernel
theorem dX6_add_31 : decode cX6_add 31 = .ok (.iastore, 1) := by decide +kernel
theorem dX6_add_32 : decode cX6_add 32 = .ok (.aload_n 0, 1) := by decide +kernel
theorem dX6_add_33 : decode cX6_add 33 = .ok (.getfield 22, 3) := by decide +kernel
theorem dX6_add_36 : decode cX6_add 36 = .ok (.aload_n 0, 1) := by decide +kernel
theorem dX6_add_37 : decode cX6_add 37 = .ok (.getfield 9, 3) := by decide +kernel
theorem dX6_add_40 : decode cX6_add 40 = .ok (.iload_n 3, 1) := by decide +kernel
theorem dX6_add_41 : decode cX6_add 41 = .ok (.iastore, 1) := by decide +kernel
theorem dX6_add_42 : decode cX6_add 42 = .ok (.aload_n 0, 1) := by decide +kernel
theorem dX6_add_43 : decode cX6_add 43 = .ok (.dup, 1) := by decide +kernel
theorem dX6_add_44 : decode cX6_add 44 = .ok (.getfield 9, 3) := by decide +kernel
theorem dX6_add_47 : decode cX6_add 47 = .ok (.iconst 1, 1) := by decide +kernel
theorem dX6_add_48 : decode cX6_add 48 = .ok (.iadd, 1) := by decide +kernel
theorem dX6_add_49 : decode cX6_add 49 = .ok (.putfield 9, 3) := by decide +kernel
theorem dX6_add_52 : decode cX6_add 52 = .ok (.aload_n 0, 1) := by decide +kernel
theorem dX6_add_53 : decode cX6_add 53 = .ok (.bipush (-9), 2) := by decide +kernel
theorem dX6_add_55 : decode cX6_add 55 = .ok (.putfield 37, 3) := by decide +kernel
theorem dX6_add_58 : decode cX6_add 58 = .ok (.aload_n 0, 1) := by decide +kernel
theorem dX6_add_59 : decode cX6_add 59 = .ok (.getfield 9, 3) := by decide +kernel
theorem dX6_add_62 : decode cX6_add 62 = .ok (.iconst 1, 1) := by decide +kernel
theorem dX6_add_63 : decode cX6_add 63 = .ok (.isub, 1) := by decide +kernel
theorem dX6_add_64 : decode cX6_add 64 = .ok (.ireturn, 1) := by decide +kernel
theorem dX6_leastLate_0 : decode cX6_leastLate 0 = .ok (.aload_n 0, 1) := by decide +kernel
theorem dX6_leastLate_1 : decode cX6_leastLate 1 = .ok (.getfield 37, 3) := by decide +kernel
theorem dX6_leastLate_4 : decode cX6_leastLate 4 = .ok (.iload_n 1, 1) := by decide +kernel
theorem dX6_leastLate_5 : decode cX6_leastLate 5 = .ok (.if_icmp .eq 41, 3) := by decide +kernel
theorem dX6_leastLate_8 : decode cX6_leastLate 8 = .ok (.aload_n 0, 1) := by decide +kernel
theorem dX6_leastLate_9 : decode cX6_leastLate 9 = .ok (.iload_n 1, 1) := by decide +kernel
theorem dX6_leastLate_10 : decode cX6_leastLate 10 = .ok (.putfield 37, 3) := by decide +kernel
theorem dX6_leastLate_13 : decode cX6_leastLate 13 = .ok (.aload_n 0, 1) := by decide +kernel
theorem dX6_leastLate_14 : decode cX6_leastLate 14 = .ok (.bipush (-9), 2) := by decide +kernel
theorem dX6_leastLate_16 : decode cX6_leastLate 16 = .ok (.putfield 34, 3) := by decide +kernel
theorem dX6_leastLate_19 : decode cX6_leastLate 19 = .ok (.iconst 0, 1) := by decide +kernel
theorem dX6_leastLate_20 : decode cX6_leastLate 20 = .ok (.istore_n 2, 1) := by decide +kernel
theorem dX6_leastLate_21 : decode cX6_leastLate 21 = .ok (.iload_n 2, 1) := by decide +kernel
theorem dX6_leastLate_22 : decode cX6_leastLate 22 = .ok (.bipush 7, 2) := by decide +kernel
theorem dX6_leastLate_24 : decode cX6_leastLate 24 = .ok (.if_icmp .ge 16, 3) := by decide +kernel
theorem dX6_leastLate_27 : decode cX6_leastLate 27 = .ok (.aload_n 0, 1) := by decide +kernel
theorem dX6_leastLate_28 : decode cX6_leastLate 28 = .ok (.getfield 28, 3) := by decide +kernel
theorem dX6_leastLate_31 : decode cX6_leastLate 31 = .ok (.iload_n 2, 1) := by decide +kernel
theorem dX6_leastLate_32 : decode cX6_leastLate 32 = .ok (.iconst 0, 1) := by decide +kernel
theorem dX6_leastLate_33 : decode cX6_leastLate 33 = .ok (.iastore, 1) := by decide +kernel
theorem dX6_leastLate_34 : decode cX6_leastLate 34 = .ok (.iinc 2 1, 3) := by decide +kernel
theorem dX6_leastLate_37 : decode cX6_leastLate 37 = .ok (.goto (-16), 3) := by decide +kernel
theorem dX6_leastLate_40 : decode cX6_leastLate 40 = .ok (.aload_n 0, 1) := by decide +kernel
theorem dX6_leastLate_41 : decode cX6_leastLate 41 = .ok (.iconst 0, 1) := by decide +kernel
theorem dX6_leastLate_42 : decode cX6_leastLate 42 = .ok (.iconst 0, 1) := by decide +kernel
theorem dX6_leastLate_43 : decode cX6_leastLate 43 = .ok (.invokevirtual 40, 3) := by decide +kernel
theorem dX6_leastLate_46 : decode cX6_leastLate 46 = .ok (.aload_n 0, 1) := by decide +kernel
theorem dX6_leastLate_47 : decode cX6_leastLate 47 = .ok (.getfield 34, 3) := by decide +kernel
theorem dX6_leastLate_50 : decode cX6_leastLate 50 = .ok (.ireturn, 1) := by decide +kernel
theorem dX6_settleFrom_0 : decode cX6_settleFrom 0 = .ok (.iload_n 1, 1) := by decide +kernel
theorem dX6_settleFrom_1 : decode cX6_settleFrom 1 = .ok (.aload_n 0, 1) := by decide +kernel
theorem dX6_settleFrom_2 : decode cX6_settleFrom 2 = .ok (.getfield 9, 3) := by decide +kernel
theorem dX6_settleFrom_5 : decode cX6_settleFrom 5 = .ok (.if_icmp .gt 26, 3) := by decide +kernel
theorem dX6_settleFrom_8 : decode cX6_settleFrom 8 = .ok (.aload_n 0, 1) := by decide +kernel
theorem dX6_settleFrom_9 : decode cX6_settleFrom 9 = .ok (.getfield 34, 3) := by decide +kernel
theorem dX6_settleFrom_12 : decode cX6_settleFrom 12 = .ok (.bipush (-9), 2) := by decide +kernel
theorem dX6_settleFrom_14 : decode cX6_settleFrom 14 = .ok (.if_icmp .eq 18, 3) := by decide +kernel
theorem dX6_settleFrom_17 : decode cX6_settleFrom 17 = .ok (.iload_n 2, 1) := by decide +kernel
theorem dX6_settleFrom_18 : decode cX6_settleFrom 18 = .ok (.aload_n 0, 1) := by decide +kernel
theorem dX6_settleFrom_19 : decode cX6_settleFrom 19 = .ok (.iload_n 1, 1) := by decide +kernel
theorem dX6_settleFrom_20 : decode cX6_settleFrom 20 = .ok (.invokevirtual 44, 3) := by decide +kernel
theorem dX6_settleFrom_23 : decode cX6_settleFrom 23 = .ok (.iadd, 1) := by decide +kernel
theorem dX6_settleFrom_24 : decode cX6_settleFrom 24 = .ok (.aload_n 0, 1) := by decide +kernel
theorem dX6_settleFrom_25 : decode cX6_settleFrom 25 = .ok (.getfield 34, 3) := by decide +kernel
theorem dX6_settleFrom_28 : decode cX6_settleFrom 28 = .ok (.if_icmp .lt 4, 3) := by decide +kernel
theorem dX6_settleFrom_31 : decode cX6_settleFrom 31 = .ok (.return_, 1) := by decide +kernel
theorem dX6_settleFrom_32 : decode cX6_settleFrom 32 = .ok (.iload_n 1, 1) := by decide +kernel
theorem dX6_settleFrom_33 : decode cX6_settleFrom 33 = .ok (.aload_n 0, 1) := by decide +kernel
theorem dX6_settleFrom_34 : decode cX6_settleFrom 34 = .ok (.getfield 9, 3) := by decide +kernel
theorem dX6_settleFrom_37 : decode cX6_settleFrom 37 = .ok (.if_icmp .ne 11, 3) := by decide +kernel
theorem dX6_settleFrom_40 : decode cX6_settleFrom 40 = .ok (.aload_n 0, 1) := by decide +kernel
theorem dX6_settleFrom_41 : decode cX6_settleFrom 41 = .ok (.iload_n 2, 1) := by decide +kernel
theorem dX6_settleFrom_42 : decode cX6_settleFrom 42 = .ok (.invokevirtual 48, 3) := by decide +kernel
theorem dX6_settleFrom_45 : decode cX6_settleFrom 45 = .ok (.goto 9, 3) := by decide +kernel
theorem dX6_settleFrom_48 : decode cX6_settleFrom 48 = .ok (.aload_n 0, 1) := by decide +kernel
theorem dX6_settleFrom_49 : decode cX6_settleFrom 49 = .ok (.iload_n 1, 1) := by decide +kernel
theorem dX6_settleFrom_50 : decode cX6_settleFrom 50 = .ok (.iload_n 2, 1) := by decide +kernel
theorem dX6_settleFrom_51 : decode cX6_settleFrom 51 = .ok (.invokevirtual 52, 3) := by decide +kernel
theorem dX6_settleFrom_54 : decode cX6_settleFrom 54 = .ok (.return_, 1) := by decide +kernel
theorem dX6_settleOn_0 : decode cX6_settleOn 0 = .ok (.aload_n 0, 1) := by decide +kernel
theorem dX6_settleOn_1 : decode cX6_settleOn 1 = .ok (.iload_n 1, 1) := by decide +kernel
theorem dX6_settleOn_2 : decode cX6_settleOn 2 = .ok (.invokevirtual 55, 3) := by decide +kernel
theorem dX6_settleOn_5 : decode cX6_settleOn 5 = .ok (.istore_n 3, 1) := by decide +kernel
theorem dX6_settleOn_6 : decode cX6_settleOn 6 = .ok (.iload_n 3, 1) := by decide +kernel
theorem dX6_settleOn_7 : decode cX6_settleOn 7 = .ok (.bipush 7, 2) := by decide +kernel
theorem dX6_settleOn_9 : decode cX6_settleOn 9 = .ok (.if_icmp .ge 90, 3) := by decide +kernel
theorem dX6_settleOn_12 : decode cX6_settleOn 12 = .ok (.aload_n 0, 1) := by decide +kernel
theorem dX6_settleOn_13 : decode cX6_settleOn 13 = .ok (.getfield 28, 3) := by decide +kernel
theorem dX6_settleOn_16 : decode cX6_settleOn 16 = .ok (.iload_n 3, 1) := by decide +kernel
theorem dX6_settleOn_17 : decode cX6_settleOn 17 = .ok (.iaload, 1) := by decide +kernel
theorem dX6_settleOn_18 : decode cX6_settleOn 18 = .ok (.aload_n 0, 1) := by decide +kernel
theorem dX6_settleOn_19 : decode cX6_settleOn 19 = .ok (.getfield 15, 3) := by decide +kernel
theorem dX6_settleOn_22 : decode cX6_settleOn 22 = .ok (.iload_n 1, 1) := by decide +kernel
theorem dX6_settleOn_23 : decode cX6_settleOn 23 = .ok (.iaload, 1) := by decide +kernel
theorem dX6_settleOn_24 : decode cX6_settleOn 24 = .ok (.iadd, 1) := by decide +kernel
theorem dX6_settleOn_25 : decode cX6_settleOn 25 = .ok (.aload_n 0, 1) := by decide +kernel
theorem dX6_settleOn_26 : decode cX6_settleOn 26 = .ok (.getfield 37, 3) := by decide +kernel
theorem dX6_settleOn_29 : decode cX6_settleOn 29 = .ok (.if_icmp .le 6, 3) := by decide +kernel
theorem dX6_settleOn_32 : decode cX6_settleOn 32 = .ok (.goto 61, 3) := by decide +kernel
theorem dX6_settleOn_35 : decode cX6_settleOn 35 = .ok (.aload_n 0, 1) := by decide +kernel
theorem dX6_settleOn_36 : decode cX6_settleOn 36 = .ok (.getfield 28, 3) := by decide +kernel
theorem dX6_settleOn_39 : decode cX6_settleOn 39 = .ok (.iload_n 3, 1) := by decide +kernel
theorem dX6_settleOn_40 : decode cX6_settleOn 40 = .ok (.dup2, 1) := by decide +kernel
theorem dX6_settleOn_41 : decode cX6_settleOn 41 = .ok (.iaload, 1) := by decide +kernel
theorem dX6_settleOn_42 : decode cX6_settleOn 42 = .ok (.aload_n 0, 1) := by decide +kernel
theorem dX6_settleOn_43 : decode cX6_settleOn 43 = .ok (.getfield 15, 3) := by decide +kernel
theorem dX6_settleOn_46 : decode cX6_settleOn 46 = .ok (.iload_n 1, 1) := by decide +kernel
theorem dX6_settleOn_47 : decode cX6_settleOn 47 = .ok (.iaload, 1) := by decide +kernel
theorem dX6_settleOn_48 : decode cX6_settleOn 48 = .ok (.iadd, 1) := by decide +kernel
theorem dX6_settleOn_49 : decode cX6_settleOn 49 = .ok (.iastore, 1) := by decide +kernel
theorem dX6_settleOn_50 : decode cX6_settleOn 50 = .ok (.aload_n 0, 1) := by decide +kernel
theorem dX6_settleOn_51 : decode cX6_settleOn 51 = .ok (.getfield 25, 3) := by decide +kernel
theorem dX6_settleOn_54 : decode cX6_settleOn 54 = .ok (.iload_n 1, 1) := by decide +kernel
theorem dX6_settleOn_55 : decode cX6_settleOn 55 = .ok (.iload_n 3, 1) := by decide +kernel
theorem dX6_settleOn_56 : decode cX6_settleOn 56 = .ok (.iastore, 1) := by decide +kernel
theorem dX6_settleOn_57 : decode cX6_settleOn 57 = .ok (.aload_n 0, 1) := by decide +kernel
theorem dX6_settleOn_58 : decode cX6_settleOn 58 = .ok (.iload_n 1, 1) := by decide +kernel
theorem dX6_settleOn_59 : decode cX6_settleOn 59 = .ok (.iconst 1, 1) := by decide +kernel
theorem dX6_settleOn_60 : decode cX6_settleOn 60 = .ok (.iadd, 1) := by decide +kernel
theorem dX6_settleOn_61 : decode cX6_settleOn 61 = .ok (.iload_n 2, 1) := by decide +kernel
theorem dX6_settleOn_62 : decode cX6_settleOn 62 = .ok (.iconst 0, 1) := by decide +kernel
theorem dX6_settleOn_63 : decode cX6_settleOn 63 = .ok (.iload_n 3, 1) := by decide +kernel
theorem dX6_settleOn_64 : decode cX6_settleOn 64 = .ok (.aload_n 0, 1) := by decide +kernel
theorem dX6_settleOn_65 : decode cX6_settleOn 65 = .ok (.getfield 19, 3) := by decide +kernel
theorem dX6_settleOn_68 : decode cX6_settleOn 68 = .ok (.iload_n 1, 1) := by decide +kernel
theorem dX6_settleOn_69 : decode cX6_settleOn 69 = .ok (.iaload, 1) := by decide +kernel
theorem dX6_settleOn_70 : decode cX6_settleOn 70 = .ok (.isub, 1) := by decide +kernel
theorem dX6_settleOn_71 : decode cX6_settleOn 71 = .ok (.invokestatic 58, 3) := by decide +kernel
theorem dX6_settleOn_74 : decode cX6_settleOn 74 = .ok (.iadd, 1) := by decide +kernel
theorem dX6_settleOn_75 : decode cX6_settleOn 75 = .ok (.invokevirtual 40, 3) := by decide +kernel
theorem dX6_settleOn_78 : decode cX6_settleOn 78 = .ok (.aload_n 0, 1) := by decide +kernel
theorem dX6_settleOn_79 : decode cX6_settleOn 79 = .ok (.getfield 28, 3) := by decide +kernel
theorem dX6_settleOn_82 : decode cX6_settleOn 82 = .ok (.iload_n 3, 1) := by decide +kernel
theorem dX6_settleOn_83 : decode cX6_settleOn 83 = .ok (.dup2, 1) := by decide +kernel
theorem dX6_settleOn_84 : decode cX6_settleOn 84 = .ok (.iaload, 1) := by decide +kernel
theorem dX6_settleOn_85 : decode cX6_settleOn 85 = .ok (.aload_n 0, 1) := by decide +kernel
theorem dX6_settleOn_86 : decode cX6_settleOn 86 = .ok (.getfield 15, 3) := by decide +kernel
theorem dX6_settleOn_89 : decode cX6_settleOn 89 = .ok (.iload_n 1, 1) := by decide +kernel
theorem dX6_settleOn_90 : decode cX6_settleOn 90 = .ok (.iaload, 1) := by decide +kernel
theorem dX6_settleOn_91 : decode cX6_settleOn 91 = .ok (.isub, 1) := by decide +kernel
theorem dX6_settleOn_92 : decode cX6_settleOn 92 = .ok (.iastore, 1) := by decide +kernel
theorem dX6_settleOn_93 : decode cX6_settleOn 93 = .ok (.iinc 3 1, 3) := by decide +kernel
theorem dX6_settleOn_96 : decode cX6_settleOn 96 = .ok (.goto (-90), 3) := by decide +kernel
theorem dX6_settleOn_99 : decode cX6_settleOn 99 = .ok (.return_, 1) := by decide +kernel
theorem dX6_firstPlace_0 : decode cX6_firstPlace 0 = .ok (.iconst 0, 1) := by decide +kernel
theorem dX6_firstPlace_1 : decode cX6_firstPlace 1 = .ok (.istore_n 2, 1) := by decide +kernel
theorem dX6_firstPlace_2 : decode cX6_firstPlace 2 = .ok (.iconst 0, 1) := by decide +kernel
theorem dX6_firstPlace_3 : decode cX6_firstPlace 3 = .ok (.istore_n 3, 1) := by decide +kernel
theorem dX6_firstPlace_4 : decode cX6_firstPlace 4 = .ok (.iload_n 3, 1) := by decide +kernel
theorem dX6_firstPlace_5 : decode cX6_firstPlace 5 = .ok (.iload_n 1, 1) := by decide +kernel
theorem dX6_firstPlace_6 : decode cX6_firstPlace 6 = .ok (.if_icmp .ge 36, 3) := by decide +kernel
theorem dX6_firstPlace_9 : decode cX6_firstPlace 9 = .ok (.aload_n 0, 1) := by decide +kernel
theorem dX6_firstPlace_10 : decode cX6_firstPlace 10 = .ok (.getfield 22, 3) := by decide +kernel
theorem dX6_firstPlace_13 : decode cX6_firstPlace 13 = .ok (.iload_n 1, 1) := by decide +kernel
theorem dX6_firstPlace_14 : decode cX6_firstPlace 14 = .ok (.iaload, 1) := by decide +kernel
theorem dX6_firstPlace_15 : decode cX6_firstPlace 15 = .ok (.iload_n 3, 1) := by decide +kernel
theorem dX6_firstPlace_16 : decode cX6_firstPlace 16 = .ok (.ishr, 1) := by decide +kernel
theorem dX6_firstPlace_17 : decode cX6_firstPlace 17 = .ok (.iconst 1, 1) := by decide +kernel
theorem dX6_firstPlace_18 : decode cX6_firstPlace 18 = .ok (.iand, 1) := by decide +kernel
theorem dX6_firstPlace_19 : decode cX6_firstPlace 19 = .ok (.iconst 1, 1) := by decide +kernel
theorem dX6_firstPlace_20 : decode cX6_firstPlace 20 = .ok (.if_icmp .ne 16, 3) := by decide +kernel
theorem dX6_firstPlace_23 : decode cX6_firstPlace 23 = .ok (.iload_n 2, 1) := by decide +kernel
theorem dX6_firstPlace_24 : decode cX6_firstPlace 24 = .ok (.aload_n 0, 1) := by decide +kernel
theorem dX6_firstPlace_25 : decode cX6_firstPlace 25 = .ok (.getfield 25, 3) := by decide +kernel
theorem dX6_firstPlace_28 : decode cX6_firstPlace 28 = .ok (.iload_n 3, 1) := by decide +kernel
theorem dX6_firstPlace_29 : decode cX6_firstPlace 29 = .ok (.iaload, 1) := by decide +kernel
theorem dX6_firstPlace_30 : decode cX6_firstPlace 30 = .ok (.iconst 1, 1) := by decide +kernel
theorem dX6_firstPlace_31 : decode cX6_firstPlace 31 = .ok (.iadd, 1) := by decide +kernel
theorem dX6_firstPlace_32 : decode cX6_firstPlace 32 = .ok (.invokestatic 58, 3) := by decide +kernel
theorem dX6_firstPlace_35 : decode cX6_firstPlace 35 = .ok (.istore_n 2, 1) := by decide +kernel
theorem dX6_firstPlace_36 : decode cX6_firstPlace 36 = .ok (.iinc 3 1, 3) := by decide +kernel
theorem dX6_firstPlace_39 : decode cX6_firstPlace 39 = .ok (.goto (-35), 3) := by decide +kernel
theorem dX6_firstPlace_42 : decode cX6_firstPlace 42 = .ok (.iload_n 2, 1) := by decide +kernel
theorem dX6_firstPlace_43 : decode cX6_firstPlace 43 = .ok (.ireturn, 1) := by decide +kernel
theorem dX6_leastLateFrom_0 : decode cX6_leastLateFrom 0 = .ok (.iconst 0, 1) := by decide +kernel
theorem dX6_leastLateFrom_1 : decode cX6_leastLateFrom 1 = .ok (.istore_n 2, 1) := by decide +kernel
theorem dX6_leastLateFrom_2 : decode cX6_leastLateFrom 2 = .ok (.iload_n 1, 1) := by decide +kernel
theorem dX6_leastLateFrom_3 : decode cX6_leastLateFrom 3 = .ok (.istore_n 3, 1) := by decide +kernel
theorem dX6_leastLateFrom_4 : decode cX6_leastLateFrom 4 = .ok (.iload_n 3, 1) := by decide +kernel
theorem dX6_leastLateFrom_5 : decode cX6_leastLateFrom 5 = .ok (.aload_n 0, 1) := by decide +kernel
theorem dX6_leastLateFrom_6 : decode cX6_leastLateFrom 6 = .ok (.getfield 9, 3) := by decide +kernel
theorem dX6_leastLateFrom_9 : decode cX6_leastLateFrom 9 = .ok (.if_icmp .ge 74, 3) := by decide +kernel
theorem dX6_leastLateFrom_12 : decode cX6_leastLateFrom 12 = .ok (.aload_n 0, 1) := by decide +kernel
theorem dX6_leastLateFrom_13 : decode cX6_leastLateFrom 13 = .ok (.iload_n 3, 1) := by decide +kernel
theorem dX6_leastLateFrom_14 : decode cX6_leastLateFrom 14 = .ok (.invokevirtual 55, 3) := by decide +kernel
theorem dX6_leastLateFrom_17 : decode cX6_leastLateFrom 17 = .ok (.istore 4, 2) := by decide +kernel
theorem dX6_leastLateFrom_19 : decode cX6_leastLateFrom 19 = .ok (.iload 4, 2) := by decide +kernel
theorem dX6_leastLateFrom_21 : decode cX6_leastLateFrom 21 = .ok (.bipush 7, 2) := by decide +kernel
theorem dX6_leastLateFrom_23 : decode cX6_leastLateFrom 23 = .ok (.if_icmp .ge 30, 3) := by decide +kernel
theorem dX6_leastLateFrom_26 : decode cX6_leastLateFrom 26 = .ok (.aload_n 0, 1) := by decide +kernel
theorem dX6_leastLateFrom_27 : decode cX6_leastLateFrom 27 = .ok (.getfield 28, 3) := by decide +kernel
theorem dX6_leastLateFrom_30 : decode cX6_leastLateFrom 30 = .ok (.iload 4, 2) := by decide +kernel
theorem dX6_leastLateFrom_32 : decode cX6_leastLateFrom 32 = .ok (.iaload, 1) := by decide +kernel
theorem dX6_leastLateFrom_33 : decode cX6_leastLateFrom 33 = .ok (.aload_n 0, 1) := by decide +kernel
theorem dX6_leastLateFrom_34 : decode cX6_leastLateFrom 34 = .ok (.getfield 15, 3) := by decide +kernel
theorem dX6_leastLateFrom_37 : decode cX6_leastLateFrom 37 = .ok (.iload_n 3, 1) := by decide +kernel
theorem dX6_leastLateFrom_38 : decode cX6_leastLateFrom 38 = .ok (.iaload, 1) := by decide +kernel
theorem dX6_leastLateFrom_39 : decode cX6_leastLateFrom 39 = .ok (.iadd, 1) := by decide +kernel
theorem dX6_leastLateFrom_40 : decode cX6_leastLateFrom 40 = .ok (.aload_n 0, 1) := by decide +kernel
theorem dX6_leastLateFrom_41 : decode cX6_leastLateFrom 41 = .ok (.getfield 37, 3) := by decide +kernel
theorem dX6_leastLateFrom_44 : decode cX6_leastLateFrom 44 = .ok (.if_icmp .le 9, 3) := by decide +kernel
theorem dX6_leastLateFrom_47 : decode cX6_leastLateFrom 47 = .ok (.iinc 4 1, 3) := by decide +kernel
theorem dX6_leastLateFrom_50 : decode cX6_leastLateFrom 50 = .ok (.goto (-31), 3) := by decide +kernel
theorem dX6_leastLateFrom_53 : decode cX6_leastLateFrom 53 = .ok (.aload_n 0, 1) := by decide +kernel
theorem dX6_leastLateFrom_54 : decode cX6_leastLateFrom 54 = .ok (.getfield 25, 3) := by decide +kernel
theorem dX6_leastLateFrom_57 : decode cX6_leastLateFrom 57 = .ok (.iload_n 3, 1) := by decide +kernel
theorem dX6_leastLateFrom_58 : decode cX6_leastLateFrom 58 = .ok (.iload 4, 2) := by decide +kernel
theorem dX6_leastLateFrom_60 : decode cX6_leastLateFrom 60 = .ok (.iastore, 1) := by decide +kernel
theorem dX6_leastLateFrom_61 : decode cX6_leastLateFrom 61 = .ok (.iload_n 2, 1) := by decide +kernel
theorem dX6_leastLateFrom_62 : decode cX6_leastLateFrom 62 = .ok (.iconst 0, 1) := by decide +kernel
theorem dX6_leastLateFrom_63 : decode cX6_leastLateFrom 63 = .ok (.iload 4, 2) := by decide +kernel
theorem dX6_leastLateFrom_65 : decode cX6_leastLateFrom 65 = .ok (.aload_n 0, 1) := by decide +kernel
theorem dX6_leastLateFrom_66 : decode cX6_leastLateFrom 66 = .ok (.getfield 19, 3) := by decide +kernel
theorem dX6_leastLateFrom_69 : decode cX6_leastLateFrom 69 = .ok (.iload_n 3, 1) := by decide +kernel
theorem dX6_leastLateFrom_70 : decode cX6_leastLateFrom 70 = .ok (.iaload, 1) := by decide +kernel
theorem dX6_leastLateFrom_71 : decode cX6_leastLateFrom 71 = .ok (.isub, 1) := by decide +kernel
theorem dX6_leastLateFrom_72 : decode cX6_leastLateFrom 72 = .ok (.invokestatic 58, 3) := by decide +kernel
theorem dX6_leastLateFrom_75 : decode cX6_leastLateFrom 75 = .ok (.iadd, 1) := by decide +kernel
theorem dX6_leastLateFrom_76 : decode cX6_leastLateFrom 76 = .ok (.istore_n 2, 1) := by decide +kernel
theorem dX6_leastLateFrom_77 : decode cX6_leastLateFrom 77 = .ok (.iinc 3 1, 3) := by decide +kernel
theorem dX6_leastLateFrom_80 : decode cX6_leastLateFrom 80 = .ok (.goto (-76), 3) := by decide +kernel
theorem dX6_leastLateFrom_83 : decode cX6_leastLateFrom 83 = .ok (.iload_n 2, 1) := by decide +kernel
theorem dX6_leastLateFrom_84 : decode cX6_leastLateFrom 84 = .ok (.ireturn, 1) := by decide +kernel
theorem dX6_keepPlaces_0 : decode cX6_keepPlaces 0 = .ok (.aload_n 0, 1) := by decide +kernel
theorem dX6_keepPlaces_1 : decode cX6_keepPlaces 1 = .ok (.iload_n 1, 1) := by decide +kernel
theorem dX6_keepPlaces_2 : decode cX6_keepPlaces 2 = .ok (.putfield 34, 3) := by decide +kernel
theorem dX6_keepPlaces_5 : decode cX6_keepPlaces 5 = .ok (.iconst 0, 1) := by decide +kernel
theorem dX6_keepPlaces_6 : decode cX6_keepPlaces 6 = .ok (.istore_n 2, 1) := by decide +kernel
theorem dX6_keepPlaces_7 : decode cX6_keepPlaces 7 = .ok (.iload_n 2, 1) := by decide +kernel
theorem dX6_keepPlaces_8 : decode cX6_keepPlaces 8 = .ok (.aload_n 0, 1) := by decide +kernel
theorem dX6_keepPlaces_9 : decode cX6_keepPlaces 9 = .ok (.getfield 9, 3) := by decide +kernel
theorem dX6_keepPlaces_12 : decode cX6_keepPlaces 12 = .ok (.if_icmp .ge 21, 3) := by decide +kernel
theorem dX6_keepPlaces_15 : decode cX6_keepPlaces 15 = .ok (.aload_n 0, 1) := by decide +kernel
theorem dX6_keepPlaces_16 : decode cX6_keepPlaces 16 = .ok (.getfield 31, 3) := by decide +kernel
theorem dX6_keepPlaces_19 : decode cX6_keepPlaces 19 = .ok (.iload_n 2, 1) := by decide +kernel
theorem dX6_keepPlaces_20 : decode cX6_keepPlaces 20 = .ok (.aload_n 0, 1) := by decide +kernel
theorem dX6_keepPlaces_21 : decode cX6_keepPlaces 21 = .ok (.getfield 25, 3) := by decide +kernel
theorem dX6_keepPlaces_24 : decode cX6_keepPlaces 24 = .ok (.iload_n 2, 1) := by decide +kernel
theorem dX6_keepPlaces_25 : decode cX6_keepPlaces 25 = .ok (.iaload, 1) := by decide +kernel
theorem dX6_keepPlaces_26 : decode cX6_keepPlaces 26 = .ok (.iastore, 1) := by decide +kernel
theorem dX6_keepPlaces_27 : decode cX6_keepPlaces 27 = .ok (.iinc 2 1, 3) := by decide +kernel
theorem dX6_keepPlaces_30 : decode cX6_keepPlaces 30 = .ok (.goto (-23), 3) := by decide +kernel
theorem dX6_keepPlaces_33 : decode cX6_keepPlaces 33 = .ok (.return_, 1) := by decide +kernel
theorem dX7_init_0 : decode cX7_init 0 = .ok (.aload_n 0, 1) := by decide +kernel
theorem dX7_init_1 : decode cX7_init 1 = .ok (.invokespecial 3, 3) := by decide +kernel
theorem dX7_init_4 : decode cX7_init 4 = .ok (.aload_n 0, 1) := by decide +kernel
theorem dX7_init_5 : decode cX7_init 5 = .ok (.bipush 6, 2) := by decide +kernel
theorem dX7_init_7 : decode cX7_init 7 = .ok (.newarray .int, 2) := by decide +kernel
theorem dX7_init_9 : decode cX7_init 9 = .ok (.putfield 9, 3) := by decide +kernel
theorem dX7_init_12 : decode cX7_init 12 = .ok (.aload_n 0, 1) := by decide +kernel
theorem dX7_init_13 : decode cX7_init 13 = .ok (.bipush 60, 2) := by decide +kernel
theorem dX7_init_15 : decode cX7_init 15 = .ok (.newarray .byte, 2) := by decide +kernel
theorem dX7_init_17 : decode cX7_init 17 = .ok (.putfield 15, 3) := by decide +kernel
theorem dX7_init_20 : decode cX7_init 20 = .ok (.aload_n 0, 1) := by decide +kernel
theorem dX7_init_21 : decode cX7_init 21 = .ok (.iconst 0, 1) := by decide +kernel
theorem dX7_init_22 : decode cX7_init 22 = .ok (.putfield 19, 3) := by decide +kernel
theorem dX7_init_25 : decode cX7_init 25 = .ok (.aload_n 0, 1) := by decide +kernel
theorem dX7_init_26 : decode cX7_init 26 = .ok (.iconst 0, 1) := by decide +kernel
theorem dX7_init_27 : decode cX7_init 27 = .ok (.putfield 23, 3) := by decide +kernel
theorem dX7_init_30 : decode cX7_init 30 = .ok (.aload_n 0, 1) := by decide +kernel
theorem dX7_init_31 : decode cX7_init 31 = .ok (.bipush (-9), 2) := by decide +kernel
theorem dX7_init_33 : decode cX7_init 33 = .ok (.putfield 26, 3) := by decide +kernel
theorem dX7_init_36 : decode cX7_init 36 = .ok (.aload_n 0, 1) := by decide +kernel
theorem dX7_init_37 : decode cX7_init 37 = .ok (.iconst 0, 1) := by decide +kernel
theorem dX7_init_38 : decode cX7_init 38 = .ok (.putfield 29, 3) := by decide +kernel
theorem dX7_init_41 : decode cX7_init 41 = .ok (.aload_n 0, 1) := by decide +kernel
theorem dX7_init_42 : decode cX7_init 42 = .ok (.iconst 0, 1) := by decide +kernel
theorem dX7_init_43 : decode cX7_init 43 = .ok (.putfield 32, 3) := by decide +kernel
theorem dX7_init_46 : decode cX7_init 46 = .ok (.aload_n 0, 1) := by decide +kernel
theorem dX7_init_47 : decode cX7_init 47 = .ok (.bipush 6, 2) := by decide +kernel
theorem dX7_init_49 : decode cX7_init 49 = .ok (.newarray .boolean, 2) := by decide +kernel
theorem dX7_init_51 : decode cX7_init 51 = .ok (.putfield 35, 3) := by decide +kernel
theorem dX7_init_54 : decode cX7_init 54 = .ok (.aload_n 0, 1) := by decide +kernel
theorem dX7_init_55 : decode cX7_init 55 = .ok (.bipush 6, 2) := by decide +kernel
theorem dX7_init_57 : decode cX7_init 57 = .ok (.newarray .boolean, 2) := by decide +kernel
theorem dX7_init_59 : decode cX7_init 59 = .ok (.putfield 39, 3) := by decide +kernel
theorem dX7_init_62 : decode cX7_init 62 = .ok (.aload_n 0, 1) := by decide +kernel
theorem dX7_init_63 : decode cX7_init 63 = .ok (.bipush 6, 2) := by decide +kernel
theorem dX7_init_65 : decode cX7_init 65 = .ok (.newarray .int, 2) := by decide +kernel
theorem dX7_init_67 : decode cX7_init 67 = .ok (.putfield 42, 3) := by decide +kernel
theorem dX7_init_70 : decode cX7_init 70 = .ok (.return_, 1) := by decide +kernel
theorem dX7_faultOf_0 : decode cX7_faultOf 0 = .ok (.aload_n 0, 1) := by decide +kernel
theorem dX7_faultOf_1 : decode cX7_faultOf 1 = .ok (.aload_n 1, 1) := by decide +kernel
theorem dX7_faultOf_2 : decode cX7_faultOf 2 = .ok (.iload_n 2, 1) := by decide +kernel
theorem dX7_faultOf_3 : decode cX7_faultOf 3 = .ok (.iconst 0, 1) := by decide +kernel
theorem dX7_faultOf_4 : decode cX7_faultOf 4 = .ok (.invokevirtual 45, 3) := by decide +kernel
theorem dX7_faultOf_7 : decode cX7_faultOf 7 = .ok (.aload_n 0, 1) := by decide +kernel
theorem dX7_faultOf_8 : decode cX7_faultOf 8 = .ok (.bipush 65, 2) := by decide +kernel
theorem dX7_faultOf_10 : decode cX7_faultOf 10 = .ok (.bipush 72, 2) := by decide +kernel
theorem dX7_faultOf_12 : decode cX7_faultOf 12 = .ok (.invokevirtual 49, 3) := by decide +kernel
theorem dX7_faultOf_15 : decode cX7_faultOf 15 = .ok (.aload_n 0, 1) := by decide +kernel
theorem dX7_faultOf_16 : decode cX7_faultOf 16 = .ok (.bipush 48, 2) := by decide +kernel
theorem dX7_faultOf_18 : decode cX7_faultOf 18 = .ok (.bipush 52, 2) := by decide +kernel
theorem dX7_faultOf_20 : decode cX7_faultOf 20 = .ok (.invokevirtual 49, 3) := by decide +kernel
theorem dX7_faultOf_23 : decode cX7_faultOf 23 = .ok (.aload_n 0, 1) := by decide +kernel
theorem dX7_faultOf_24 : decode cX7_faultOf 24 = .ok (.bipush 58, 2) := by decide +kernel
theorem dX7_faultOf_26 : decode cX7_faultOf 26 = .ok (.bipush 58, 2) := by decide +kernel
theorem dX7_faultOf_28 : decode cX7_faultOf 28 = .ok (.invokevirtual 49, 3) := by decide +kernel
theorem dX7_faultOf_31 : decode cX7_faultOf 31 = .ok (.aload_n 0, 1) := by decide +kernel
theorem dX7_faultOf_32 : decode cX7_faultOf 32 = .ok (.invokevirtual 53, 3) := by decide +kernel
theorem dX7_faultOf_35 : decode cX7_faultOf 35 = .ok (.pop, 1) := by decide +kernel
theorem dX7_faultOf_36 : decode cX7_faultOf 36 = .ok (.aload_n 0, 1) := by decide +kernel
theorem dX7_faultOf_37 : decode cX7_faultOf 37 = .ok (.getfield 23, 3) := by decide +kernel
theorem dX7_faultOf_40 : decode cX7_faultOf 40 = .ok (.aload_n 0, 1) := by decide +kernel
theorem dX7_faultOf_41 : decode cX7_faultOf 41 = .ok (.getfield 19, 3) := by decide +kernel
theorem dX7_faultOf_44 : decode cX7_faultOf 44 = .ok (.if_icmp .ge 7, 3) := by decide +kernel
theorem dX7_faultOf_47 : decode cX7_faultOf 47 = .ok (.aload_n 0, 1) := by decide +kernel
theorem dX7_faultOf_48 : decode cX7_faultOf 48 = .ok (.invokevirtual 57, 3) := by decide +kernel
theorem dX7_faultOf_51 : decode cX7_faultOf 51 = .ok (.aload_n 0, 1) := by decide +kernel
theorem dX7_faultOf_52 : decode cX7_faultOf 52 = .ok (.getfield 26, 3) := by decide +kernel
theorem dX7_faultOf_55 : decode cX7_faultOf 55 = .ok (.ireturn, 1) := by decide +kernel
theorem dX7_holds_0 : decode cX7_holds 0 = .ok (.aload_n 0, 1) := by decide +kernel
theorem dX7_holds_1 : decode cX7_holds 1 = .ok (.aload_n 1, 1) := by decide +kernel
theorem dX7_holds_2 : decode cX7_holds 2 = .ok (.iload_n 2, 1) := by decide +kernel
theorem dX7_holds_3 : decode cX7_holds 3 = .ok (.iconst 3, 1) := by decide +kernel
theorem dX7_holds_4 : decode cX7_holds 4 = .ok (.invokevirtual 45, 3) := by decide +kernel
theorem dX7_holds_7 : decode cX7_holds 7 = .ok (.aload_n 0, 1) := by decide +kernel
theorem dX7_holds_8 : decode cX7_holds 8 = .ok (.invokevirtual 53, 3) := by decide +kernel
theorem dX7_holds_11 : decode cX7_holds 11 = .ok (.ireturn, 1) := by decide +kernel
theorem dX7_begin_0 : decode cX7_begin 0 = .ok (.aload_n 0, 1) := by decide +kernel
theorem dX7_begin_1 : decode cX7_begin 1 = .ok (.aload_n 1, 1) := by decide +kernel
theorem dX7_begin_2 : decode cX7_begin 2 = .ok (.putfield 15, 3) := by decide +kernel
theorem dX7_begin_5 : decode cX7_begin 5 = .ok (.aload_n 0, 1) := by decide +kernel
theorem dX7_begin_6 : decode cX7_begin 6 = .ok (.iload_n 2, 1) := by decide +kernel
theorem dX7_begin_7 : decode cX7_begin 7 = .ok (.aload_n 1, 1) := by decide +kernel
theorem dX7_begin_8 : decode cX7_begin 8 = .ok (.arraylength, 1) := by decide +kernel
theorem dX7_begin_9 : decode cX7_begin 9 = .ok (.invokestatic 60, 3) := by decide +kernel
theorem dX7_begin_12 : decode cX7_begin 12 = .ok (.putfield 19, 3) := by decide +kernel
theorem dX7_begin_15 : decode cX7_begin 15 = .ok (.aload_n 0, 1) := by decide +kernel
theorem dX7_begin_16 : decode cX7_begin 16 = .ok (.iload_n 3, 1) := by decide +kernel
theorem dX7_begin_17 : decode cX7_begin 17 = .ok (.putfield 23, 3) := by decide +kernel
theorem dX7_begin_20 : decode cX7_begin 20 = .ok (.aload_n 0, 1) := by decide +kernel
theorem dX7_begin_21 : decode cX7_begin 21 = .ok (.bipush (-9), 2) := by decide +kernel
theorem dX7_begin_23 : decode cX7_begin 23 = .ok (.putfield 26, 3) := by decide +kernel
theorem dX7_begin_26 : decode cX7_begin 26 = .ok (.aload_n 0, 1) := by decide +kernel
theorem dX7_begin_27 : decode cX7_begin 27 = .ok (.iconst 0, 1) := by decide +kernel
theorem dX7_begin_28 : decode cX7_begin 28 = .ok (.putfield 29, 3) := by decide +kernel
theorem dX7_begin_31 : decode cX7_begin 31 = .ok (.aload_n 0, 1) := by decide +kernel
theorem dX7_begin_32 : decode cX7_begin 32 = .ok (.iconst 0, 1) := by decide +kernel
theorem dX7_begin_33 : decode cX7_begin 33 = .ok (.invokevirtual 66, 3) := by decide +kernel
theorem dX7_begin_36 : decode cX7_begin 36 = .ok (.return_, 1) := by decide +kernel
theorem dX7_openLevel_0 : decode cX7_openLevel 0 = .ok (.aload_n 0, 1) := by decide +kernel
theorem dX7_openLevel_1 : decode cX7_openLevel 1 = .ok (.iload_n 1, 1) := by decide +kernel
theorem dX7_openLevel_2 : decode cX7_openLevel 2 = .ok (.putfield 32, 3) := by decide +kernel
theorem dX7_openLevel_5 : decode cX7_openLevel 5 = .ok (.aload_n 0, 1) := by decide +kernel
theorem dX7_openLevel_6 : decode cX7_openLevel 6 = .ok (.getfield 35, 3) := by decide +kernel
theorem dX7_openLevel_9 : decode cX7_openLevel 9 = .ok (.aload_n 0, 1) := by decide +kernel
theorem dX7_openLevel_10 : decode cX7_openLevel 10 = .ok (.getfield 32, 3) := by decide +kernel
theorem dX7_openLevel_13 : decode cX7_openLevel 13 = .ok (.iconst 0, 1) := by decide +kernel
theorem dX7_openLevel_14 : decode cX7_openLevel 14 = .ok (.bastore, 1) := by decide +kernel
theorem dX7_openLevel_15 : decode cX7_openLevel 15 = .ok (.aload_n 0, 1) := by decide +kernel
theorem dX7_openLevel_16 : decode cX7_openLevel 16 = .ok (.getfield 39, 3) := by decide +kernel
theorem dX7_openLevel_19 : decode cX7_openLevel 19 = .ok (.aload_n 0, 1) := by decide +kernel
theorem dX7_openLevel_20 : decode cX7_openLevel 20 = .ok (.getfield 32, 3) := by decide +kernel
theorem dX7_openLevel_23 : decode cX7_openLevel 23 = .ok (.iconst 1, 1) := by decide +kernel
theorem dX7_openLevel_24 : decode cX7_openLevel 24 = .ok (.bastore, 1) := by decide +kernel
theorem dX7_openLevel_25 : decode cX7_openLevel 25 = .ok (.aload_n 0, 1) := by decide +kernel
theorem dX7_openLevel_26 : decode cX7_openLevel 26 = .ok (.getfield 42, 3) := by decide +kernel
theorem dX7_openLevel_29 : decode cX7_openLevel 29 = .ok (.aload_n 0, 1) := by decide +kernel
theorem dX7_openLevel_30 : decode cX7_openLevel 30 = .ok (.getfield 32, 3) := by decide +kernel
theorem dX7_openLevel_33 : decode cX7_openLevel 33 = .ok (.iconst 0, 1) := by decide +kernel
theorem dX7_openLevel_34 : decode cX7_openLevel 34 = .ok (.iastore, 1) := by decide +kernel
theorem dX7_openLevel_35 : decode cX7_openLevel 35 = .ok (.return_, 1) := by decide +kernel
theorem dX7_sign_0 : decode cX7_sign 0 = .ok (.aload_n 0, 1) := by decide +kernel
theorem dX7_sign_1 : decode cX7_sign 1 = .ok (.getfield 26, 3) := by decide +kernel
theorem dX7_sign_4 : decode cX7_sign 4 = .ok (.bipush (-9), 2) := by decide +kernel
theorem dX7_sign_6 : decode cX7_sign 6 = .ok (.if_icmp .ne 14, 3) := by decide +kernel
theorem dX7_sign_9 : decode cX7_sign 9 = .ok (.aload_n 0, 1) := by decide +kernel
theorem dX7_sign_10 : decode cX7_sign 10 = .ok (.getfield 23, 3) := by decide +kernel
theorem dX7_sign_13 : decode cX7_sign 13 = .ok (.aload_n 0, 1) := by decide +kernel
theorem dX7_sign_14 : decode cX7_sign 14 = .ok (.getfield 19, 3) := by decide +kernel
theorem dX7_sign_17 : decode cX7_sign 17 = .ok (.if_icmp .lt 7, 3) := by decide +kernel
theorem dX7_sign_20 : decode cX7_sign 20 = .ok (.iconst (-1), 1) := by decide +kernel
theorem dX7_sign_21 : decode cX7_sign 21 = .ok (.goto 16, 3) := by decide +kernel
theorem dX7_sign_24 : decode cX7_sign 24 = .ok (.aload_n 0, 1) := by decide +kernel
theorem dX7_sign_25 : decode cX7_sign 25 = .ok (.getfield 15, 3) := by decide +kernel
theorem dX7_sign_28 : decode cX7_sign 28 = .ok (.aload_n 0, 1) := by decide +kernel
theorem dX7_sign_29 : decode cX7_sign 29 = .ok (.getfield 23, 3) := by decide +kernel
theorem dX7_sign_32 : decode cX7_sign 32 = .ok (.baload, 1) := by decide +kernel
theorem dX7_sign_33 : decode cX7_sign 33 = .ok (.sipush 255, 3) := by decide +kernel
theorem dX7_sign_36 : decode cX7_sign 36 = .ok (.iand, 1) := by decide +kernel
theorem dX7_sign_37 : decode cX7_sign 37 = .ok (.ireturn, 1) := by decide +kernel
theorem dX7_fail_0 : decode cX7_fail 0 = .ok (.aload_n 0, 1) := by decide +kernel
theorem dX7_fail_1 : decode cX7_fail 1 = .ok (.getfield 26, 3) := by decide +kernel
theorem dX7_fail_4 : decode cX7_fail 4 = .ok (.bipush (-9), 2) := by decide +kernel
theorem dX7_fail_6 : decode cX7_fail 6 = .ok (.if_icmp .ne 11, 3) := by decide +kernel
theorem dX7_fail_9 : decode cX7_fail 9 = .ok (.aload_n 0, 1) := by decide +kernel
theorem dX7_fail_10 : decode cX7_fail 10 = .ok (.aload_n 0, 1) := by decide +kernel
theorem dX7_fail_11 : decode cX7_fail 11 = .ok (.getfield 23, 3) := by decide +kernel
theorem dX7_fail_14 : decode cX7_fail 14 = .ok (.putfield 26, 3) := by decide +kernel
theorem dX7_fail_17 : decode cX7_fail 17 = .ok (.return_, 1) := by decide +kernel
theorem dX7_expect_0 : decode cX7_expect 0 = .ok (.aload_n 0, 1) := by decide +kernel
theorem dX7_expect_1 : decode cX7_expect 1 = .ok (.invokevirtual 70, 3) := by decide +kernel
theorem dX7_expect_4 : decode cX7_expect 4 = .ok (.istore_n 3, 1) := by decide +kernel
theorem dX7_expect_5 : decode cX7_expect 5 = .ok (.iload_n 3, 1) := by decide +kernel
theorem dX7_expect_6 : decode cX7_expect 6 = .ok (.iload_n 1, 1) := by decide +kernel
theorem dX7_expect_7 : decode cX7_expect 7 = .ok (.if_icmp .lt 8, 3) := by decide +kernel
theorem dX7_expect_10 : decode cX7_expect 10 = .ok (.iload_n 3, 1) := by decide +kernel
theorem dX7_expect_11 : decode cX7_expect 11 = .ok (.iload_n 2, 1) := by decide +kernel
theorem dX7_expect_12 : decode cX7_expect 12 = .ok (.if_icmp .le 10, 3) := by decide +kernel
theorem dX7_expect_15 : decode cX7_expect 15 = .ok (.aload_n 0, 1) := by decide +kernel
theorem dX7_expect_16 : decode cX7_expect 16 = .ok (.invokevirtual 57, 3) := by decide +kernel
theorem dX7_expect_19 : decode cX7_expect 19 = .ok (.goto 13, 3) := by decide +kernel
theorem dX7_expect_22 : decode cX7_expect 22 = .ok (.aload_n 0, 1) := by decide +kernel
theorem dX7_expect_23 : decode cX7_expect 23 = .ok (.dup, 1) := by decide +kernel
theorem dX7_expect_24 : decode cX7_expect 24 = .ok (.getfield 23, 3) := by decide +kernel
theorem dX7_expect_27 : decode cX7_expect 27 = .ok (.iconst 1, 1) := by decide +kernel
theorem dX7_expect_28 : decode cX7_expect 28 = .ok (.iadd, 1) := by decide +kernel
theorem dX7_expect_29 : decode cX7_expect 29 = .ok (.putfield 23, 3) := by decide +kernel
theorem dX7_expect_32 : decode cX7_expect 32 = .ok (.return_, 1) := by decide +kernel
theorem dX7_ruleHolds_0 : decode cX7_ruleHolds 0 = .ok (.iconst 1, 1) := by decide +kernel
theorem dX7_ruleHolds_1 : decode cX7_ruleHolds 1 = .ok (.istore_n 1, 1) := by decide +kernel
theorem dX7_ruleHolds_2 : decode cX7_ruleHolds 2 = .ok (.iconst 0, 1) := by decide +kernel
theorem dX7_ruleHolds_3 : decode cX7_ruleHolds 3 = .ok (.istore_n 2, 1) := by decide +kernel
theorem dX7_ruleHolds_4 : decode cX7_ruleHolds 4 = .ok (.iload_n 2, 1) := by decide +kernel
theorem dX7_ruleHolds_5 : decode cX7_ruleHolds 5 = .ok (.bipush 60, 2) := by decide +kernel
theorem dX7_ruleHolds_7 : decode cX7_ruleHolds 7 = .ok (.if_icmp .gt 34, 3) := by decide +kernel
theorem dX7_ruleHolds_10 : decode cX7_ruleHolds 10 = .ok (.iload_n 1, 1) := by decide +kernel
theorem dX7_ruleHolds_11 : decode cX7_ruleHolds 11 = .ok (.ifCond .eq 30, 3) := by decide +kernel
theorem dX7_ruleHolds_14 : decode cX7_ruleHolds 14 = .ok (.aload_n 0, 1) := by decide +kernel
theorem dX7_ruleHolds_15 : decode cX7_ruleHolds 15 = .ok (.invokevirtual 74, 3) := by decide +kernel
theorem dX7_ruleHolds_18 : decode cX7_ruleHolds 18 = .ok (.aload_n 0, 1) := by decide +kernel
theorem dX7_ruleHolds_19 : decode cX7_ruleHolds 19 = .ok (.aload_n 0, 1) := by decide +kernel
theorem dX7_ruleHolds_20 : decode cX7_ruleHolds 20 = .ok (.invokevirtual 77, 3) := by decide +kernel
theorem dX7_ruleHolds_23 : decode cX7_ruleHolds 23 = .ok (.invokevirtual 80, 3) := by decide +kernel
theorem dX7_ruleHolds_26 : decode cX7_ruleHolds 26 = .ok (.aload_n 0, 1) := by decide +kernel
theorem dX7_ruleHolds_27 : decode cX7_ruleHolds 27 = .ok (.invokevirtual 84, 3) := by decide +kernel
theorem dX7_ruleHolds_30 : decode cX7_ruleHolds 30 = .ok (.aload_n 0, 1) := by decide +kernel
theorem dX7_ruleHolds_31 : decode cX7_ruleHolds 31 = .ok (.invokevirtual 87, 3) := by decide +kernel
theorem dX7_ruleHolds_34 : decode cX7_ruleHolds 34 = .ok (.istore_n 1, 1) := by decide +kernel
theorem dX7_ruleHolds_35 : decode cX7_ruleHolds 35 = .ok (.iinc 2 1, 3) := by decide +kernel
theorem dX7_ruleHolds_38 : decode cX7_ruleHolds 38 = .ok (.goto (-34), 3) := by decide +kernel
theorem dX7_ruleHolds_41 : decode cX7_ruleHolds 41 = .ok (.aload_n 0, 1) := by decide +kernel
theorem dX7_ruleHolds_42 : decode cX7_ruleHolds 42 = .ok (.getfield 32, 3) := by decide +kernel
theorem dX7_ruleHolds_45 : decode cX7_ruleHolds 45 = .ok (.ifCond .le 7, 3) := by decide +kernel
theorem dX7_ruleHolds_48 : decode cX7_ruleHolds 48 = .ok (.aload_n 0, 1) := by decide +kernel
theorem dX7_ruleHolds_49 : decode cX7_ruleHolds 49 = .ok (.invokevirtual 57, 3) := by decide +kernel
theorem dX7_ruleHolds_52 : decode cX7_ruleHolds 52 = .ok (.aload_n 0, 1) := by decide +kernel
theorem dX7_ruleHolds_53 : decode cX7_ruleHolds 53 = .ok (.getfield 35, 3) := by decide +kernel
theorem dX7_ruleHolds_56 : decode cX7_ruleHolds 56 = .ok (.iconst 0, 1) := by decide +kernel
theorem dX7_ruleHolds_57 : decode cX7_ruleHolds 57 = .ok (.baload, 1) := by decide +kernel
theorem dX7_ruleHolds_58 : decode cX7_ruleHolds 58 = .ok (.ifCond .ne 12, 3) := by decide +kernel
theorem dX7_ruleHolds_61 : decode cX7_ruleHolds 61 = .ok (.aload_n 0, 1) := by decide +kernel
theorem dX7_ruleHolds_62 : decode cX7_ruleHolds 62 = .ok (.getfield 39, 3) := by decide +kernel
theorem dX7_ruleHolds_65 : decode cX7_ruleHolds 65 = .ok (.iconst 0, 1) := by decide +kernel
theorem dX7_ruleHolds_66 : decode cX7_ruleHolds 66 = .ok (.baload, 1) := by decide +kernel
theorem dX7_ruleHolds_67 : decode cX7_ruleHolds 67 = .ok (.ifCond .eq 7, 3) := by decide +kernel
theorem dX7_ruleHolds_70 : decode cX7_ruleHolds 70 = .ok (.iconst 1, 1) := by decide +kernel
theorem dX7_ruleHolds_71 : decode cX7_ruleHolds 71 = .ok (.goto 4, 3) := by decide +kernel
theorem dX7_ruleHolds_74 : decode cX7_ruleHolds 74 = .ok (.iconst 0, 1) := by decide +kernel
theorem dX7_ruleHolds_75 : decode cX7_ruleHolds 75 = .ok (.ireturn, 1) := by decide +kernel
theorem dX7_readOpenings_0 : decode cX7_readOpenings 0 = .ok (.iconst 0, 1) := by decide +kernel
theorem dX7_readOpenings_1 : decode cX7_readOpenings 1 = .ok (.istore_n 1, 1) := by decide +kernel
theorem dX7_readOpenings_2 : decode cX7_readOpenings 2 = .ok (.iload_n 1, 1) := by decide +kernel
theorem dX7_readOpenings_3 : decode cX7_readOpenings 3 = .ok (.iconst 5, 1) := by decide +kernel
theorem dX7_readOpenings_4 : decode cX7_readOpenings 4 = .ok (.if_icmp .gt 92, 3) := by decide +kernel
theorem dX7_readOpenings_7 : decode cX7_readOpenings 7 = .ok (.aload_n 0, 1) := by decide +kernel
theorem dX7_readOpenings_8 : decode cX7_readOpenings 8 = .ok (.invokevirtual 70, 3) := by decide +kernel
theorem dX7_readOpenings_11 : decode cX7_readOpenings 11 = .ok (.istore_n 2, 1) := by decide +kernel
theorem dX7_readOpenings_12 : decode cX7_readOpenings 12 = .ok (.iload_n 2, 1) := by decide +kernel
theorem dX7_readOpenings_13 : decode cX7_readOpenings 13 = .ok (.bipush 33, 2) := by decide +kernel
theorem dX7_readOpenings_15 : decode cX7_readOpenings 15 = .ok (.if_icmp .eq 10, 3) := by decide +kernel
theorem dX7_readOpenings_18 : decode cX7_readOpenings 18 = .ok (.iload_n 2, 1) := by decide +kernel
theorem dX7_readOpenings_19 : decode cX7_readOpenings 19 = .ok (.bipush 40, 2) := by decide +kernel
theorem dX7_readOpenings_21 : decode cX7_readOpenings 21 = .ok (.if_icmp .eq 4, 3) := by decide +kernel
theorem dX7_readOpenings_24 : decode cX7_readOpenings 24 = .ok (.return_, 1) := by decide +kernel
theorem dX7_readOpenings_25 : decode cX7_readOpenings 25 = .ok (.aload_n 0, 1) := by decide +kernel
theorem dX7_readOpenings_26 : decode cX7_readOpenings 26 = .ok (.getfield 29, 3) := by decide +kernel
theorem dX7_readOpenings_29 : decode cX7_readOpenings 29 = .ok (.iconst 5, 1) := by decide +kernel
theorem dX7_readOpenings_30 : decode cX7_readOpenings 30 = .ok (.if_icmp .lt 8, 3) := by decide +kernel
theorem dX7_readOpenings_33 : decode cX7_readOpenings 33 = .ok (.aload_n 0, 1) := by decide +kernel
theorem dX7_readOpenings_34 : decode cX7_readOpenings 34 = .ok (.invokevirtual 57, 3) := by decide +kernel
theorem dX7_readOpenings_37 : decode cX7_readOpenings 37 = .ok (.return_, 1) := by decide +kernel
theorem dX7_readOpenings_38 : decode cX7_readOpenings 38 = .ok (.aload_n 0, 1) := by decide +kernel
theorem dX7_readOpenings_39 : decode cX7_readOpenings 39 = .ok (.dup, 1) := by decide +kernel
theorem dX7_readOpenings_40 : decode cX7_readOpenings 40 = .ok (.getfield 23, 3) := by decide +kernel
theorem dX7_readOpenings_43 : decode cX7_readOpenings 43 = .ok (.iconst 1, 1) := by decide +kernel
theorem dX7_readOpenings_44 : decode cX7_readOpenings 44 = .ok (.iadd, 1) := by decide +kernel
theorem dX7_readOpenings_45 : decode cX7_readOpenings 45 = .ok (.putfield 23, 3) := by decide +kernel
theorem dX7_readOpenings_48 : decode cX7_readOpenings 48 = .ok (.aload_n 0, 1) := by decide +kernel
theorem dX7_readOpenings_49 : decode cX7_readOpenings 49 = .ok (.dup, 1) := by decide +kernel
theorem dX7_readOpenings_50 : decode cX7_readOpenings 50 = .ok (.getfield 29, 3) := by decide +kernel
theorem dX7_readOpenings_53 : decode cX7_readOpenings 53 = .ok (.iconst 1, 1) := by decide +kernel
theorem dX7_readOpenings_54 : decode cX7_readOpenings 54 = .ok (.iadd, 1) := by decide +kernel
theorem dX7_readOpenings_55 : decode cX7_readOpenings 55 = .ok (.putfield 29, 3) := by decide +kernel
theorem dX7_readOpenings_58 : decode cX7_readOpenings 58 = .ok (.iload_n 2, 1) := by decide +kernel
theorem dX7_readOpenings_59 : decode cX7_readOpenings 59 = .ok (.bipush 33, 2) := by decide +kernel
theorem dX7_readOpenings_61 : decode cX7_readOpenings 61 = .ok (.if_icmp .ne 19, 3) := by decide +kernel
theorem dX7_readOpenings_64 : decode cX7_readOpenings 64 = .ok (.aload_n 0, 1) := by decide +kernel
theorem dX7_readOpenings_65 : decode cX7_readOpenings 65 = .ok (.getfield 42, 3) := by decide +kernel
theorem dX7_readOpenings_68 : decode cX7_readOpenings 68 = .ok (.aload_n 0, 1) := by decide +kernel
theorem dX7_readOpenings_69 : decode cX7_readOpenings 69 = .ok (.getfield 32, 3) := by decide +kernel
theorem dX7_readOpenings_72 : decode cX7_readOpenings 72 = .ok (.dup2, 1) := by decide +kernel
theorem dX7_readOpenings_73 : decode cX7_readOpenings 73 = .ok (.iaload, 1) := by decide +kernel
theorem dX7_readOpenings_74 : decode cX7_readOpenings 74 = .ok (.iconst 1, 1) := by decide +kernel
theorem dX7_readOpenings_75 : decode cX7_readOpenings 75 = .ok (.iadd, 1) := by decide +kernel
theorem dX7_readOpenings_76 : decode cX7_readOpenings 76 = .ok (.iastore, 1) := by decide +kernel
theorem dX7_readOpenings_77 : decode cX7_readOpenings 77 = .ok (.goto 13, 3) := by decide +kernel
theorem dX7_readOpenings_80 : decode cX7_readOpenings 80 = .ok (.aload_n 0, 1) := by decide +kernel
theorem dX7_readOpenings_81 : decode cX7_readOpenings 81 = .ok (.aload_n 0, 1) := by decide +kernel
theorem dX7_readOpenings_82 : decode cX7_readOpenings 82 = .ok (.getfield 32, 3) := by decide +kernel
theorem dX7_readOpenings_85 : decode cX7_readOpenings 85 = .ok (.iconst 1, 1) := by decide +kernel
theorem dX7_readOpenings_86 : decode cX7_readOpenings 86 = .ok (.iadd, 1) := by decide +kernel
theorem dX7_readOpenings_87 : decode cX7_readOpenings 87 = .ok (.invokevirtual 66, 3) := by decide +kernel
theorem dX7_readOpenings_90 : decode cX7_readOpenings 90 = .ok (.iinc 1 1, 3) := by decide +kernel
theorem dX7_readOpenings_93 : decode cX7_readOpenings 93 = .ok (.goto (-91), 3) := by decide +kernel
theorem dX7_readOpenings_96 : decode cX7_readOpenings 96 = .ok (.return_, 1) := by decide +kernel
theorem dX7_endPart_0 : decode cX7_endPart 0 = .ok (.aload_n 0, 1) := by decide +kernel
theorem dX7_endPart_1 : decode cX7_endPart 1 = .ok (.getfield 42, 3) := by decide +kernel
theorem dX7_endPart_4 : decode cX7_endPart 4 = .ok (.aload_n 0, 1) := by decide +kernel
theorem dX7_endPart_5 : decode cX7_endPart 5 = .ok (.getfield 32, 3) := by decide +kernel
theorem dX7_endPart_8 : decode cX7_endPart 8 = .ok (.iaload, 1) := by decide +kernel
theorem dX7_endPart_9 : decode cX7_endPart 9 = .ok (.iconst 2, 1) := by decide +kernel
theorem dX7_endPart_10 : decode cX7_endPart 10 = .ok (.irem, 1) := by decide +kernel
theorem dX7_endPart_11 : decode cX7_endPart 11 = .ok (.iconst 1, 1) := by decide +kernel
theorem dX7_endPart_12 : decode cX7_endPart 12 = .ok (.if_icmp .ne 7, 3) := by decide +kernel
theorem dX7_endPart_15 : decode cX7_endPart 15 = .ok (.iconst 1, 1) := by decide +kernel
theorem dX7_endPart_16 : decode cX7_endPart 16 = .ok (.goto 4, 3) := by decide +kernel
theorem dX7_endPart_19 : decode cX7_endPart 19 = .ok (.iconst 0, 1) := by decide +kernel
theorem dX7_endPart_20 : decode cX7_endPart 20 = .ok (.istore_n 2, 1) := by decide +kernel
theorem dX7_endPart_21 : decode cX7_endPart 21 = .ok (.aload_n 0, 1) := by decide +kernel
theorem dX7_endPart_22 : decode cX7_endPart 22 = .ok (.getfield 39, 3) := by decide +kernel
theorem dX7_endPart_25 : decode cX7_endPart 25 = .ok (.aload_n 0, 1) := by decide +kernel
theorem dX7_endPart_26 : decode cX7_endPart 26 = .ok (.getfield 32, 3) := by decide +kernel
theorem dX7_endPart_29 : decode cX7_endPart 29 = .ok (.aload_n 0, 1) := by decide +kernel
theorem dX7_endPart_30 : decode cX7_endPart 30 = .ok (.getfield 39, 3) := by decide +kernel
theorem dX7_endPart_33 : decode cX7_endPart 33 = .ok (.aload_n 0, 1) := by decide +kernel
theorem dX7_endPart_34 : decode cX7_endPart 34 = .ok (.getfield 32, 3) := by decide +kernel
theorem dX7_endPart_37 : decode cX7_endPart 37 = .ok (.baload, 1) := by decide +kernel
theorem dX7_endPart_38 : decode cX7_endPart 38 = .ok (.ifCond .eq 12, 3) := by decide +kernel
theorem dX7_endPart_41 : decode cX7_endPart 41 = .ok (.iload_n 1, 1) := by decide +kernel
theorem dX7_endPart_42 : decode cX7_endPart 42 = .ok (.iload_n 2, 1) := by decide +kernel
theorem dX7_endPart_43 : decode cX7_endPart 43 = .ok (.if_icmp .eq 7, 3) := by decide +kernel
theorem dX7_endPart_46 : decode cX7_endPart 46 = .ok (.iconst 1, 1) := by decide +kernel
theorem dX7_endPart_47 : decode cX7_endPart 47 = .ok (.goto 4, 3) := by decide +kernel
theorem dX7_endPart_50 : decode cX7_endPart 50 = .ok (.iconst 0, 1) := by decide +kernel
theorem dX7_endPart_51 : decode cX7_endPart 51 = .ok (.bastore, 1) := by decide +kernel
theorem dX7_endPart_52 : decode cX7_endPart 52 = .ok (.aload_n 0, 1) := by decide +kernel
theorem dX7_endPart_53 : decode cX7_endPart 53 = .ok (.dup, 1) := by decide +kernel
theorem dX7_endPart_54 : decode cX7_endPart 54 = .ok (.getfield 29, 3) := by decide +kernel
theorem dX7_endPart_57 : decode cX7_endPart 57 = .ok (.aload_n 0, 1) := by decide +kernel
theorem dX7_endPart_58 : decode cX7_endPart 58 = .ok (.getfield 42, 3) := by decide +kernel
theorem dX7_endPart_61 : decode cX7_endPart 61 = .ok (.aload_n 0, 1) := by decide +kernel
theorem dX7_endPart_62 : decode cX7_endPart 62 = .ok (.getfield 32, 3) := by decide +kernel
theorem dX7_endPart_65 : decode cX7_endPart 65 = .ok (.iaload, 1) := by decide +kernel
theorem dX7_endPart_66 : decode cX7_endPart 66 = .ok (.isub, 1) := by decide +kernel
theorem dX7_endPart_67 : decode cX7_endPart 67 = .ok (.putfield 29, 3) := by decide +kernel
theorem dX7_endPart_70 : decode cX7_endPart 70 = .ok (.aload_n 0, 1) := by decide +kernel
theorem dX7_endPart_71 : decode cX7_endPart 71 = .ok (.getfield 42, 3) := by decide +kernel
theorem dX7_endPart_74 : decode cX7_endPart 74 = .ok (.aload_n 0, 1) := by decide +kernel
theorem dX7_endPart_75 : decode cX7_endPart 75 = .ok (.getfield 32, 3) := by decide +kernel
theorem dX7_endPart_78 : decode cX7_endPart 78 = .ok (.iconst 0, 1) := by decide +kernel
theorem dX7_endPart_79 : decode cX7_endPart 79 = .ok (.iastore, 1) := by decide +kernel
theorem dX7_endPart_80 : decode cX7_endPart 80 = .ok (.return_, 1) := by decide +kernel
theorem dX7_readClosings_0 : decode cX7_readClosings 0 = .ok (.iconst 0, 1) := by decide +kernel
theorem dX7_readClosings_1 : decode cX7_readClosings 1 = .ok (.istore_n 1, 1) := by decide +kernel
theorem dX7_readClosings_2 : decode cX7_readClosings 2 = .ok (.iload_n 1, 1) := by decide +kernel
theorem dX7_readClosings_3 : decode cX7_readClosings 3 = .ok (.iconst 5, 1) := by decide +kernel
theorem dX7_readClosings_4 : decode cX7_readClosings 4 = .ok (.if_icmp .ge 90, 3) := by decide +kernel
theorem dX7_readClosings_7 : decode cX7_readClosings 7 = .ok (.aload_n 0, 1) := by decide +kernel
theorem dX7_readClosings_8 : decode cX7_readClosings 8 = .ok (.getfield 32, 3) := by decide +kernel
theorem dX7_readClosings_11 : decode cX7_readClosings 11 = .ok (.ifCond .le 83, 3) := by decide +kernel
theorem dX7_readClosings_14 : decode cX7_readClosings 14 = .ok (.aload_n 0, 1) := by decide +kernel
theorem dX7_readClosings_15 : decode cX7_readClosings 15 = .ok (.invokevirtual 70, 3) := by decide +kernel
theorem dX7_readClosings_18 : decode cX7_readClosings 18 = .ok (.bipush 41, 2) := by decide +kernel
theorem dX7_readClosings_20 : decode cX7_readClosings 20 = .ok (.if_icmp .ne 74, 3) := by decide +kernel
theorem dX7_readClosings_23 : decode cX7_readClosings 23 = .ok (.aload_n 0, 1) := by decide +kernel
theorem dX7_readClosings_24 : decode cX7_readClosings 24 = .ok (.getfield 35, 3) := by decide +kernel
theorem dX7_readClosings_27 : decode cX7_readClosings 27 = .ok (.aload_n 0, 1) := by decide +kernel
theorem dX7_readClosings_28 : decode cX7_readClosings 28 = .ok (.getfield 32, 3) := by decide +kernel
theorem dX7_readClosings_31 : decode cX7_readClosings 31 = .ok (.baload, 1) := by decide +kernel
theorem dX7_readClosings_32 : decode cX7_readClosings 32 = .ok (.ifCond .ne 15, 3) := by decide +kernel
theorem dX7_readClosings_35 : decode cX7_readClosings 35 = .ok (.aload_n 0, 1) := by decide +kernel
theorem dX7_readClosings_36 : decode cX7_readClosings 36 = .ok (.getfield 39, 3) := by decide +kernel
theorem dX7_readClosings_39 : decode cX7_readClosings 39 = .ok (.aload_n 0, 1) := by decide +kernel
theorem dX7_readClosings_40 : decode cX7_readClosings 40 = .ok (.getfield 32, 3) := by decide +kernel
theorem dX7_readClosings_43 : decode cX7_readClosings 43 = .ok (.baload, 1) := by decide +kernel
theorem dX7_readClosings_44 : decode cX7_readClosings 44 = .ok (.ifCond .eq 7, 3) := by decide +kernel
theorem dX7_readClosings_47 : decode cX7_readClosings 47 = .ok (.iconst 1, 1) := by decide +kernel
theorem dX7_readClosings_48 : decode cX7_readClosings 48 = .ok (.goto 4, 3) := by decide +kernel
theorem dX7_readClosings_51 : decode cX7_readClosings 51 = .ok (.iconst 0, 1) := by decide +kernel
theorem dX7_readClosings_52 : decode cX7_readClosings 52 = .ok (.istore_n 2, 1) := by decide +kernel
theorem dX7_readClosings_53 : decode cX7_readClosings 53 = .ok (.aload_n 0, 1) := by decide +kernel
theorem dX7_readClosings_54 : decode cX7_readClosings 54 = .ok (.dup, 1) := by decide +kernel
theorem dX7_readClosings_55 : decode cX7_readClosings 55 = .ok (.getfield 23, 3) := by decide +kernel
theorem dX7_readClosings_58 : decode cX7_readClosings 58 = .ok (.iconst 1, 1) := by decide +kernel
theorem dX7_readClosings_59 : decode cX7_readClosings 59 = .ok (.iadd, 1) := by decide +kernel
theorem dX7_readClosings_60 : decode cX7_readClosings 60 = .ok (.putfield 23, 3) := by decide +kernel
theorem dX7_readClosings_63 : decode cX7_readClosings 63 = .ok (.aload_n 0, 1) := by decide +kernel
theorem dX7_readClosings_64 : decode cX7_readClosings 64 = .ok (.dup, 1) := by decide +kernel
theorem dX7_readClosings_65 : decode cX7_readClosings 65 = .ok (.getfield 29, 3) := by decide +kernel
theorem dX7_readClosings_68 : decode cX7_readClosings 68 = .ok (.iconst 1, 1) := by decide +kernel
theorem dX7_readClosings_69 : decode cX7_readClosings 69 = .ok (.isub, 1) := by decide +kernel
theorem dX7_readClosings_70 : decode cX7_readClosings 70 = .ok (.putfield 29, 3) := by decide +kernel
theorem dX7_readClosings_73 : decode cX7_readClosings 73 = .ok (.aload_n 0, 1) := by decide +kernel
theorem dX7_readClosings_74 : decode cX7_readClosings 74 = .ok (.dup, 1) := by decide +kernel
theorem dX7_readClosings_75 : decode cX7_readClosings 75 = .ok (.getfield 32, 3) := by decide +kernel
theorem dX7_readClosings_78 : decode cX7_readClosings 78 = .ok (.iconst 1, 1) := by decide +kernel
theorem dX7_readClosings_79 : decode cX7_readClosings 79 = .ok (.isub, 1) := by decide +kernel
theorem dX7_readClosings_80 : decode cX7_readClosings 80 = .ok (.putfield 32, 3) := by decide +kernel
theorem dX7_readClosings_83 : decode cX7_readClosings 83 = .ok (.aload_n 0, 1) := by decide +kernel
theorem dX7_readClosings_84 : decode cX7_readClosings 84 = .ok (.iload_n 2, 1) := by decide +kernel
theorem dX7_readClosings_85 : decode cX7_readClosings 85 = .ok (.invokevirtual 80, 3) := by decide +kernel
theorem dX7_readClosings_88 : decode cX7_readClosings 88 = .ok (.iinc 1 1, 3) := by decide +kernel
theorem dX7_readClosings_91 : decode cX7_readClosings 91 = .ok (.goto (-89), 3) := by decide +kernel
theorem dX7_readClosings_94 : decode cX7_readClosings 94 = .ok (.return_, 1) := by decide +kernel
theorem dX7_joinsNext_0 : decode cX7_joinsNext 0 = .ok (.aload_n 0, 1) := by decide +kernel
theorem dX7_joinsNext_1 : decode cX7_joinsNext 1 = .ok (.invokevirtual 70, 3) := by decide +kernel
theorem dX7_joinsNext_4 : decode cX7_joinsNext 4 = .ok (.istore_n 1, 1) := by decide +kernel
theorem dX7_joinsNext_5 : decode cX7_joinsNext 5 = .ok (.iload_n 1, 1) := by decide +kernel
theorem dX7_joinsNext_6 : decode cX7_joinsNext 6 = .ok (.bipush 38, 2) := by decide +kernel
theorem dX7_joinsNext_8 : decode cX7_joinsNext 8 = .ok (.if_icmp .eq 11, 3) := by decide +kernel
theorem dX7_joinsNext_11 : decode cX7_joinsNext 11 = .ok (.iload_n 1, 1) := by decide +kernel
theorem dX7_joinsNext_12 : decode cX7_joinsNext 12 = .ok (.bipush 124, 2) := by decide +kernel
theorem dX7_joinsNext_14 : decode cX7_joinsNext 14 = .ok (.if_icmp .eq 5, 3) := by decide +kernel
theorem dX7_joinsNext_17 : decode cX7_joinsNext 17 = .ok (.iconst 0, 1) := by decide +kernel
theorem dX7_joinsNext_18 : decode cX7_joinsNext 18 = .ok (.ireturn, 1) := by decide +kernel
theorem dX7_joinsNext_19 : decode cX7_joinsNext 19 = .ok (.aload_n 0, 1) := by decide +kernel
theorem dX7_joinsNext_20 : decode cX7_joinsNext 20 = .ok (.dup, 1) := by decide +kernel
theorem dX7_joinsNext_21 : decode cX7_joinsNext 21 = .ok (.getfield 23, 3) := by decide +kernel
theorem dX7_joinsNext_24 : decode cX7_joinsNext 24 = .ok (.iconst 1, 1) := by decide +kernel
theorem dX7_joinsNext_25 : decode cX7_joinsNext 25 = .ok (.iadd, 1) := by decide +kernel
theorem dX7_joinsNext_26 : decode cX7_joinsNext 26 = .ok (.putfield 23, 3) := by decide +kernel
theorem dX7_joinsNext_29 : decode cX7_joinsNext 29 = .ok (.iload_n 1, 1) := by decide +kernel
theorem dX7_joinsNext_30 : decode cX7_joinsNext 30 = .ok (.bipush 124, 2) := by decide +kernel
theorem dX7_joinsNext_32 : decode cX7_joinsNext 32 = .ok (.if_icmp .ne 51, 3) := by decide +kernel
theorem dX7_joinsNext_35 : decode cX7_joinsNext 35 = .ok (.aload_n 0, 1) := by decide +kernel
theorem dX7_joinsNext_36 : decode cX7_joinsNext 36 = .ok (.getfield 35, 3) := by decide +kernel
theorem dX7_joinsNext_39 : decode cX7_joinsNext 39 = .ok (.aload_n 0, 1) := by decide +kernel
theorem dX7_joinsNext_40 : decode cX7_joinsNext 40 = .ok (.getfield 32, 3) := by decide +kernel
theorem dX7_joinsNext_43 : decode cX7_joinsNext 43 = .ok (.aload_n 0, 1) := by decide +kernel
theorem dX7_joinsNext_44 : decode cX7_joinsNext 44 = .ok (.getfield 35, 3) := by decide +kernel
theorem dX7_joinsNext_47 : decode cX7_joinsNext 47 = .ok (.aload_n 0, 1) := by decide +kernel
theorem dX7_joinsNext_48 : decode cX7_joinsNext 48 = .ok (.getfield 32, 3) := by decide +kernel
theorem dX7_joinsNext_51 : decode cX7_joinsNext 51 = .ok (.baload, 1) := by decide +kernel
theorem dX7_joinsNext_52 : decode cX7_joinsNext 52 = .ok (.ifCond .ne 15, 3) := by decide +kernel
theorem dX7_joinsNext_55 : decode cX7_joinsNext 55 = .ok (.aload_n 0, 1) := by decide +kernel
theorem dX7_joinsNext_56 : decode cX7_joinsNext 56 = .ok (.getfield 39, 3) := by decide +kernel
theorem dX7_joinsNext_59 : decode cX7_joinsNext 59 = .ok (.aload_n 0, 1) := by decide +kernel
theorem dX7_joinsNext_60 : decode cX7_joinsNext 60 = .ok (.getfield 32, 3) := by decide +kernel
theorem dX7_joinsNext_63 : decode cX7_joinsNext 63 = .ok (.baload, 1) := by decide +kernel
theorem dX7_joinsNext_64 : decode cX7_joinsNext 64 = .ok (.ifCond .eq 7, 3) := by decide +kernel
theorem dX7_joinsNext_67 : decode cX7_joinsNext 67 = .ok (.iconst 1, 1) := by decide +kernel
theorem dX7_joinsNext_68 : decode cX7_joinsNext 68 = .ok (.goto 4, 3) := by decide +kernel
theorem dX7_joinsNext_71 : decode cX7_joinsNext 71 = .ok (.iconst 0, 1) := by decide +kernel
theorem dX7_joinsNext_72 : decode cX7_joinsNext 72 = .ok (.bastore, 1) := by decide +kernel
theorem dX7_joinsNext_73 : decode cX7_joinsNext 73 = .ok (.aload_n 0, 1) := by decide +kernel
theorem dX7_joinsNext_74 : decode cX7_joinsNext 74 = .ok (.getfield 39, 3) := by decide +kernel
theorem dX7_joinsNext_77 : decode cX7_joinsNext 77 = .ok (.aload_n 0, 1) := by decide +kernel
theorem dX7_joinsNext_78 : decode cX7_joinsNext 78 = .ok (.getfield 32, 3) := by decide +kernel
theorem dX7_joinsNext_81 : decode cX7_joinsNext 81 = .ok (.iconst 1, 1) := by decide +kernel
theorem dX7_joinsNext_82 : decode cX7_joinsNext 82 = .ok (.bastore, 1) := by decide +kernel
theorem dX7_joinsNext_83 : decode cX7_joinsNext 83 = .ok (.iconst 1, 1) := by decide +kernel
theorem dX7_joinsNext_84 : decode cX7_joinsNext 84 = .ok (.ireturn, 1) := by decide +kernel
theorem dX7_comparisonHolds_0 : decode cX7_comparisonHolds 0 = .ok (.aload_n 0, 1) := by decide +kernel
theorem dX7_comparisonHolds_1 : decode cX7_comparisonHolds 1 = .ok (.invokevirtual 90, 3) := by decide +kernel
theorem dX7_comparisonHolds_4 : decode cX7_comparisonHolds 4 = .ok (.istore_n 1, 1) := by decide +kernel
theorem dX7_comparisonHolds_5 : decode cX7_comparisonHolds 5 = .ok (.aload_n 0, 1) := by decide +kernel
theorem dX7_comparisonHolds_6 : decode cX7_comparisonHolds 6 = .ok (.invokevirtual 70, 3) := by decide +kernel
theorem dX7_comparisonHolds_9 : decode cX7_comparisonHolds 9 = .ok (.istore_n 2, 1) := by decide +kernel
theorem dX7_comparisonHolds_10 : decode cX7_comparisonHolds 10 = .ok (.aload_n 0, 1) := by decide +kernel
theorem dX7_comparisonHolds_11 : decode cX7_comparisonHolds 11 = .ok (.bipush 60, 2) := by decide +kernel
theorem dX7_comparisonHolds_13 : decode cX7_comparisonHolds 13 = .ok (.bipush 62, 2) := by decide +kernel
theorem dX7_comparisonHolds_15 : decode cX7_comparisonHolds 15 = .ok (.invokevirtual 49, 3) := by decide +kernel
theorem dX7_comparisonHolds_18 : decode cX7_comparisonHolds 18 = .ok (.aload_n 0, 1) := by decide +kernel
theorem dX7_comparisonHolds_19 : decode cX7_comparisonHolds 19 = .ok (.invokevirtual 90, 3) := by decide +kernel
theorem dX7_comparisonHolds_22 : decode cX7_comparisonHolds 22 = .ok (.istore_n 3, 1) := by decide +kernel
theorem dX7_comparisonHolds_23 : decode cX7_comparisonHolds 23 = .ok (.iload_n 2, 1) := by decide +kernel
theorem dX7_comparisonHolds_24 : decode cX7_comparisonHolds 24 = .ok (.bipush 60, 2) := by decide +kernel
theorem dX7_comparisonHolds_26 : decode cX7_comparisonHolds 26 = .ok (.if_icmp .ne 16, 3) := by decide +kernel
theorem dX7_comparisonHolds_29 : decode cX7_comparisonHolds 29 = .ok (.iload_n 1, 1) := by decide +kernel
theorem dX7_comparisonHolds_30 : decode cX7_comparisonHolds 30 = .ok (.iload_n 3, 1) := by decide +kernel
theorem dX7_comparisonHolds_31 : decode cX7_comparisonHolds 31 = .ok (.if_icmp .ge 7, 3) := by decide +kernel
theorem dX7_comparisonHolds_34 : decode cX7_comparisonHolds 34 = .ok (.iconst 1, 1) := by decide +kernel
theorem dX7_comparisonHolds_35 : decode cX7_comparisonHolds 35 = .ok (.goto 36, 3) := by decide +kernel
theorem dX7_comparisonHolds_38 : decode cX7_comparisonHolds 38 = .ok (.iconst 0, 1) := by decide +kernel
theorem dX7_comparisonHolds_39 : decode cX7_comparisonHolds 39 = .ok (.goto 32, 3) := by decide +kernel
theorem dX7_comparisonHolds_42 : decode cX7_comparisonHolds 42 = .ok (.iload_n 2, 1) := by decide +kernel
theorem dX7_comparisonHolds_43 : decode cX7_comparisonHolds 43 = .ok (.bipush 61, 2) := by decide +kernel
theorem dX7_comparisonHolds_45 : decode cX7_comparisonHolds 45 = .ok (.if_icmp .ne 16, 3) := by decide +kernel
theorem dX7_comparisonHolds_48 : decode cX7_comparisonHolds 48 = .ok (.iload_n 1, 1) := by decide +kernel
theorem dX7_comparisonHolds_49 : decode cX7_comparisonHolds 49 = .ok (.iload_n 3, 1) := by decide +kernel
theorem dX7_comparisonHolds_50 : decode cX7_comparisonHolds 50 = .ok (.if_icmp .ne 7, 3) := by decide +kernel
theorem dX7_comparisonHolds_53 : decode cX7_comparisonHolds 53 = .ok (.iconst 1, 1) := by decide +kernel
theorem dX7_comparisonHolds_54 : decode cX7_comparisonHolds 54 = .ok (.goto 17, 3) := by decide +kernel
theorem dX7_comparisonHolds_57 : decode cX7_comparisonHolds 57 = .ok (.iconst 0, 1) := by decide +kernel
theorem dX7_comparisonHolds_58 : decode cX7_comparisonHolds 58 = .ok (.goto 13, 3) := by decide +kernel
theorem dX7_comparisonHolds_61 : decode cX7_comparisonHolds 61 = .ok (.iload_n 1, 1) := by decide +kernel
theorem dX7_comparisonHolds_62 : decode cX7_comparisonHolds 62 = .ok (.iload_n 3, 1) := by decide +kernel
theorem dX7_comparisonHolds_63 : decode cX7_comparisonHolds 63 = .ok (.if_icmp .le 7, 3) := by decide +kernel
theorem dX7_comparisonHolds_66 : decode cX7_comparisonHolds 66 = .ok (.iconst 1, 1) := by decide +kernel
theorem dX7_comparisonHolds_67 : decode cX7_comparisonHolds 67 = .ok (.goto 4, 3) := by decide +kernel
theorem dX7_comparisonHolds_70 : decode cX7_comparisonHolds 70 = .ok (.iconst 0, 1) := by decide +kernel
theorem dX7_comparisonHolds_71 : decode cX7_comparisonHolds 71 = .ok (.ireturn, 1) := by decide +kernel
theorem dX7_sum_0 : decode cX7_sum 0 = .ok (.aload_n 0, 1) := by decide +kernel
theorem dX7_sum_1 : decode cX7_sum 1 = .ok (.invokevirtual 93, 3) := by decide +kernel
theorem dX7_sum_4 : decode cX7_sum 4 = .ok (.istore_n 1, 1) := by decide +kernel
theorem dX7_sum_5 : decode cX7_sum 5 = .ok (.iconst 0, 1) := by decide +kernel
theorem dX7_sum_6 : decode cX7_sum 6 = .ok (.istore_n 2, 1) := by decide +kernel
theorem dX7_sum_7 : decode cX7_sum 7 = .ok (.iload_n 2, 1) := by decide +kernel
theorem dX7_sum_8 : decode cX7_sum 8 = .ok (.bipush 60, 2) := by decide +kernel
theorem dX7_sum_10 : decode cX7_sum 10 = .ok (.if_icmp .ge 81, 3) := by decide +kernel
theorem dX7_sum_13 : decode cX7_sum 13 = .ok (.aload_n 0, 1) := by decide +kernel
theorem dX7_sum_14 : decode cX7_sum 14 = .ok (.invokevirtual 70, 3) := by decide +kernel
theorem dX7_sum_17 : decode cX7_sum 17 = .ok (.istore_n 3, 1) := by decide +kernel
theorem dX7_sum_18 : decode cX7_sum 18 = .ok (.iload_n 3, 1) := by decide +kernel
theorem dX7_sum_19 : decode cX7_sum 19 = .ok (.bipush 43, 2) := by decide +kernel
theorem dX7_sum_21 : decode cX7_sum 21 = .ok (.if_icmp .eq 17, 3) := by decide +kernel
theorem dX7_sum_24 : decode cX7_sum 24 = .ok (.iload_n 3, 1) := by decide +kernel
theorem dX7_sum_25 : decode cX7_sum 25 = .ok (.bipush 45, 2) := by decide +kernel
theorem dX7_sum_27 : decode cX7_sum 27 = .ok (.if_icmp .eq 11, 3) := by decide +kernel
theorem dX7_sum_30 : decode cX7_sum 30 = .ok (.iload_n 3, 1) := by decide +kernel
theorem dX7_sum_31 : decode cX7_sum 31 = .ok (.bipush 42, 2) := by decide +kernel
theorem dX7_sum_33 : decode cX7_sum 33 = .ok (.if_icmp .eq 5, 3) := by decide +kernel
theorem dX7_sum_36 : decode cX7_sum 36 = .ok (.iload_n 1, 1) := by decide +kernel
theorem dX7_sum_37 : decode cX7_sum 37 = .ok (.ireturn, 1) := by decide +kernel
theorem dX7_sum_38 : decode cX7_sum 38 = .ok (.aload_n 0, 1) := by decide +kernel
theorem dX7_sum_39 : decode cX7_sum 39 = .ok (.dup, 1) := by decide +kernel
theorem dX7_sum_40 : decode cX7_sum 40 = .ok (.getfield 23, 3) := by decide +kernel
theorem dX7_sum_43 : decode cX7_sum 43 = .ok (.iconst 1, 1) := by decide +kernel
theorem dX7_sum_44 : decode cX7_sum 44 = .ok (.iadd, 1) := by decide +kernel
theorem dX7_sum_45 : decode cX7_sum 45 = .ok (.putfield 23, 3) := by decide +kernel
theorem dX7_sum_48 : decode cX7_sum 48 = .ok (.aload_n 0, 1) := by decide +kernel
theorem dX7_sum_49 : decode cX7_sum 49 = .ok (.invokevirtual 93, 3) := by decide +kernel
theorem dX7_sum_52 : decode cX7_sum 52 = .ok (.istore 4, 2) := by decide +kernel
theorem dX7_sum_54 : decode cX7_sum 54 = .ok (.iload_n 3, 1) := by decide +kernel
theorem dX7_sum_55 : decode cX7_sum 55 = .ok (.bipush 43, 2) := by decide +kernel
theorem dX7_sum_57 : decode cX7_sum 57 = .ok (.if_icmp .ne 10, 3) := by decide +kernel
theorem dX7_sum_60 : decode cX7_sum 60 = .ok (.iload_n 1, 1) := by decide +kernel
theorem dX7_sum_61 : decode cX7_sum 61 = .ok (.iload 4, 2) := by decide +kernel
theorem dX7_sum_63 : decode cX7_sum 63 = .ok (.iadd, 1) := by decide +kernel
theorem dX7_sum_64 : decode cX7_sum 64 = .ok (.goto 20, 3) := by decide +kernel
theorem dX7_sum_67 : decode cX7_sum 67 = .ok (.iload_n 3, 1) := by decide +kernel
theorem dX7_sum_68 : decode cX7_sum 68 = .ok (.bipush 45, 2) := by decide +kernel
theorem dX7_sum_70 : decode cX7_sum 70 = .ok (.if_icmp .ne 10, 3) := by decide +kernel
theorem dX7_sum_73 : decode cX7_sum 73 = .ok (.iload_n 1, 1) := by decide +kernel
theorem dX7_sum_74 : decode cX7_sum 74 = .ok (.iload 4, 2) := by decide +kernel
theorem dX7_sum_76 : decode cX7_sum 76 = .ok (.isub, 1) := by decide +kernel
theorem dX7_sum_77 : decode cX7_sum 77 = .ok (.goto 7, 3) := by decide +kernel
theorem dX7_sum_80 : decode cX7_sum 80 = .ok (.iload_n 1, 1) := by decide +kernel
theorem dX7_sum_81 : decode cX7_sum 81 = .ok (.iload 4, 2) := by decide +kernel
theorem dX7_sum_83 : decode cX7_sum 83 = .ok (.imul, 1) := by decide +kernel
theorem dX7_sum_84 : decode cX7_sum 84 = .ok (.istore_n 1, 1) := by decide +kernel
theorem dX7_sum_85 : decode cX7_sum 85 = .ok (.iinc 2 1, 3) := by decide +kernel
theorem dX7_sum_88 : decode cX7_sum 88 = .ok (.goto (-81), 3) := by decide +kernel
theorem dX7_sum_91 : decode cX7_sum 91 = .ok (.iload_n 1, 1) := by decide +kernel
theorem dX7_sum_92 : decode cX7_sum 92 = .ok (.ireturn, 1) := by decide +kernel
theorem dX7_unit_0 : decode cX7_unit 0 = .ok (.aload_n 0, 1) := by decide +kernel
theorem dX7_unit_1 : decode cX7_unit 1 = .ok (.invokevirtual 70, 3) := by decide +kernel
theorem dX7_unit_4 : decode cX7_unit 4 = .ok (.istore_n 1, 1) := by decide +kernel
theorem dX7_unit_5 : decode cX7_unit 5 = .ok (.iload_n 1, 1) := by decide +kernel
theorem dX7_unit_6 : decode cX7_unit 6 = .ok (.bipush 48, 2) := by decide +kernel
theorem dX7_unit_8 : decode cX7_unit 8 = .ok (.if_icmp .lt 9, 3) := by decide +kernel
theorem dX7_unit_11 : decode cX7_unit 11 = .ok (.iload_n 1, 1) := by decide +kernel
theorem dX7_unit_12 : decode cX7_unit 12 = .ok (.bipush 57, 2) := by decide +kernel
theorem dX7_unit_14 : decode cX7_unit 14 = .ok (.if_icmp .le 44, 3) := by decide +kernel
theorem dX7_unit_17 : decode cX7_unit 17 = .ok (.iload_n 1, 1) := by decide +kernel
theorem dX7_unit_18 : decode cX7_unit 18 = .ok (.invokestatic 96, 3) := by decide +kernel
theorem dX7_unit_21 : decode cX7_unit 21 = .ok (.istore_n 2, 1) := by decide +kernel
theorem dX7_unit_22 : decode cX7_unit 22 = .ok (.iload_n 2, 1) := by decide +kernel
theorem dX7_unit_23 : decode cX7_unit 23 = .ok (.ifCond .lt 12, 3) := by decide +kernel
theorem dX7_unit_26 : decode cX7_unit 26 = .ok (.iload_n 2, 1) := by decide +kernel
theorem dX7_unit_27 : decode cX7_unit 27 = .ok (.aload_n 0, 1) := by decide +kernel
theorem dX7_unit_28 : decode cX7_unit 28 = .ok (.getfield 9, 3) := by decide +kernel
theorem dX7_unit_31 : decode cX7_unit 31 = .ok (.arraylength, 1) := by decide +kernel
theorem dX7_unit_32 : decode cX7_unit 32 = .ok (.if_icmp .lt 9, 3) := by decide +kernel
theorem dX7_unit_35 : decode cX7_unit 35 = .ok (.aload_n 0, 1) := by decide +kernel
theorem dX7_unit_36 : decode cX7_unit 36 = .ok (.invokevirtual 57, 3) := by decide +kernel
theorem dX7_unit_39 : decode cX7_unit 39 = .ok (.iconst 0, 1) := by decide +kernel
theorem dX7_unit_40 : decode cX7_unit 40 = .ok (.ireturn, 1) := by decide +kernel
theorem dX7_unit_41 : decode cX7_unit 41 = .ok (.aload_n 0, 1) := by decide +kernel
theorem dX7_unit_42 : decode cX7_unit 42 = .ok (.dup, 1) := by decide +kernel
theorem dX7_unit_43 : decode cX7_unit 43 = .ok (.getfield 23, 3) := by decide +kernel
theorem dX7_unit_46 : decode cX7_unit 46 = .ok (.iconst 1, 1) := by decide +kernel
theorem dX7_unit_47 : decode cX7_unit 47 = .ok (.iadd, 1) := by decide +kernel
theorem dX7_unit_48 : decode cX7_unit 48 = .ok (.putfield 23, 3) := by decide +kernel
theorem dX7_unit_51 : decode cX7_unit 51 = .ok (.aload_n 0, 1) := by decide +kernel
theorem dX7_unit_52 : decode cX7_unit 52 = .ok (.getfield 9, 3) := by decide +kernel
theorem dX7_unit_55 : decode cX7_unit 55 = .ok (.iload_n 2, 1) := by decide +kernel
theorem dX7_unit_56 : decode cX7_unit 56 = .ok (.iaload, 1) := by decide +kernel
theorem dX7_unit_57 : decode cX7_unit 57 = .ok (.ireturn, 1) := by decide +kernel
theorem dX7_unit_58 : decode cX7_unit 58 = .ok (.iconst 0, 1) := by decide +kernel
theorem dX7_unit_59 : decode cX7_unit 59 = .ok (.istore_n 2, 1) := by decide +kernel
theorem dX7_unit_60 : decode cX7_unit 60 = .ok (.iconst 0, 1) := by decide +kernel
theorem dX7_unit_61 : decode cX7_unit 61 = .ok (.istore_n 3, 1) := by decide +kernel
theorem dX7_unit_62 : decode cX7_unit 62 = .ok (.iload_n 3, 1) := by decide +kernel
theorem dX7_unit_63 : decode cX7_unit 63 = .ok (.iconst 4, 1) := by decide +kernel
theorem dX7_unit_64 : decode cX7_unit 64 = .ok (.if_icmp .ge 46, 3) := by decide +kernel
theorem dX7_unit_67 : decode cX7_unit 67 = .ok (.iload_n 1, 1) := by decide +kernel
theorem dX7_unit_68 : decode cX7_unit 68 = .ok (.bipush 48, 2) := by decide +kernel
theorem dX7_unit_70 : decode cX7_unit 70 = .ok (.if_icmp .lt 40, 3) := by decide +kernel
theorem dX7_unit_73 : decode cX7_unit 73 = .ok (.iload_n 1, 1) := by decide +kernel
theorem dX7_unit_74 : decode cX7_unit 74 = .ok (.bipush 57, 2) := by decide +kernel
theorem dX7_unit_76 : decode cX7_unit 76 = .ok (.if_icmp .gt 34, 3) := by decide +kernel
theorem dX7_unit_79 : decode cX7_unit 79 = .ok (.bipush 10, 2) := by decide +kernel
theorem dX7_unit_81 : decode cX7_unit 81 = .ok (.iload_n 2, 1) := by decide +kernel
theorem dX7_unit_82 : decode cX7_unit 82 = .ok (.imul, 1) := by decide +kernel
theorem dX7_unit_83 : decode cX7_unit 83 = .ok (.iload_n 1, 1) := by decide +kernel
theorem dX7_unit_84 : decode cX7_unit 84 = .ok (.iadd, 1) := by decide +kernel
theorem dX7_unit_85 : decode cX7_unit 85 = .ok (.bipush 48, 2) := by decide +kernel
theorem dX7_unit_87 : decode cX7_unit 87 = .ok (.isub, 1) := by decide +kernel
theorem dX7_unit_88 : decode cX7_unit 88 = .ok (.istore_n 2, 1) := by decide +kernel
theorem dX7_unit_89 : decode cX7_unit 89 = .ok (.aload_n 0, 1) := by decide +kernel
theorem dX7_unit_90 : decode cX7_unit 90 = .ok (.dup, 1) := by decide +kernel
theorem dX7_unit_91 : decode cX7_unit 91 = .ok (.getfield 23, 3) := by decide +kernel
theorem dX7_unit_94 : decode cX7_unit 94 = .ok (.iconst 1, 1) := by decide +kernel
theorem dX7_unit_95 : decode cX7_unit 95 = .ok (.iadd, 1) := by decide +kernel
theorem dX7_unit_96 : decode cX7_unit 96 = .ok (.putfield 23, 3) := by decide +kernel
theorem dX7_unit_99 : decode cX7_unit 99 = .ok (.aload_n 0, 1) := by decide +kernel
theorem dX7_unit_100 : decode cX7_unit 100 = .ok (.invokevirtual 70, 3) := by decide +kernel
theorem dX7_unit_103 : decode cX7_unit 103 = .ok (.istore_n 1, 1) := by decide +kernel
theorem dX7_unit_104 : decode cX7_unit 104 = .ok (.iinc 3 1, 3) := by decide +kernel
theorem dX7_unit_107 : decode cX7_unit 107 = .ok (.goto (-45), 3) := by decide +kernel
theorem dX7_unit_110 : decode cX7_unit 110 = .ok (.iload_n 2, 1) := by decide +kernel
theorem dX7_unit_111 : decode cX7_unit 111 = .ok (.ireturn, 1) := by decide +kernel
theorem dX7_factOf_0 : decode cX7_factOf 0 = .ok (.iload_n 0, 1) := by decide +kernel
theorem dX7_factOf_1 : decode cX7_factOf 1 = .ok (.lookupswitch 71 #[(99, 67), (109, 65), (110, 59), (115, 63), (117, 69), (119, 61)], 59) := by decide +kernel
theorem dX7_factOf_60 : decode cX7_factOf 60 = .ok (.iconst 0, 1) := by decide +kernel
theorem dX7_factOf_61 : decode cX7_factOf 61 = .ok (.ireturn, 1) := by decide +kernel
theorem dX7_factOf_62 : decode cX7_factOf 62 = .ok (.iconst 1, 1) := by decide +kernel
theorem dX7_factOf_63 : decode cX7_factOf 63 = .ok (.ireturn, 1) := by decide +kernel
theorem dX7_factOf_64 : decode cX7_factOf 64 = .ok (.iconst 2, 1) := by decide +kernel
theorem dX7_factOf_65 : decode cX7_factOf 65 = .ok (.ireturn, 1) := by decide +kernel
theorem dX7_factOf_66 : decode cX7_factOf 66 = .ok (.iconst 3, 1) := by decide +kernel
theorem dX7_factOf_67 : decode cX7_factOf 67 = .ok (.ireturn, 1) := by decide +kernel
theorem dX7_factOf_68 : decode cX7_factOf 68 = .ok (.iconst 4, 1) := by decide +kernel
theorem dX7_factOf_69 : decode cX7_factOf 69 = .ok (.ireturn, 1) := by decide +kernel
theorem dX7_factOf_70 : decode cX7_factOf 70 = .ok (.iconst 5, 1) := by decide +kernel
theorem dX7_factOf_71 : decode cX7_factOf 71 = .ok (.ireturn, 1) := by decide +kernel
theorem dX7_factOf_72 : decode cX7_factOf 72 = .ok (.bipush (-9), 2) := by decide +kernel
theorem dX7_factOf_74 : decode cX7_factOf 74 = .ok (.ireturn, 1) := by decide +kernel
theorem dX8_init_0 : decode cX8_init 0 = .ok (.aload_n 0, 1) := by decide +kernel
theorem dX8_init_1 : decode cX8_init 1 = .ok (.invokespecial 3, 3) := by decide +kernel
theorem dX8_init_4 : decode cX8_init 4 = .ok (.aload_n 0, 1) := by decide +kernel
theorem dX8_init_5 : decode cX8_init 5 = .ok (.iconst 3, 1) := by decide +kernel
theorem dX8_init_6 : decode cX8_init 6 = .ok (.newarray .int, 2) := by decide +kernel
theorem dX8_init_8 : decode cX8_init 8 = .ok (.dup, 1) := by decide +kernel
theorem dX8_init_9 : decode cX8_init 9 = .ok (.iconst 0, 1) := by decide +kernel
theorem dX8_init_10 : decode cX8_init 10 = .ok (.iconst 1, 1) := by decide +kernel
theorem dX8_init_11 : decode cX8_init 11 = .ok (.iastore, 1) := by decide +kernel
theorem dX8_init_12 : decode cX8_init 12 = .ok (.dup, 1) := by decide +kernel
theorem dX8_init_13 : decode cX8_init 13 = .ok (.iconst 1, 1) := by decide +kernel
theorem dX8_init_14 : decode cX8_init 14 = .ok (.iconst 1, 1) := by decide +kernel
theorem dX8_init_15 : decode cX8_init 15 = .ok (.iastore, 1) := by decide +kernel
theorem dX8_init_16 : decode cX8_init 16 = .ok (.dup, 1) := by decide +kernel
theorem dX8_init_17 : decode cX8_init 17 = .ok (.iconst 2, 1) := by decide +kernel
theorem dX8_init_18 : decode cX8_init 18 = .ok (.iconst 1, 1) := by decide +kernel
theorem dX8_init_19 : decode cX8_init 19 = .ok (.iastore, 1) := by decide +kernel
theorem dX8_init_20 : decode cX8_init 20 = .ok (.putfield 9, 3) := by decide +kernel
theorem dX8_init_23 : decode cX8_init 23 = .ok (.aload_n 0, 1) := by decide +kernel
theorem dX8_init_24 : decode cX8_init 24 = .ok (.iconst 4, 1) := by decide +kernel
theorem dX8_init_25 : decode cX8_init 25 = .ok (.newarray .int, 2) := by decide +kernel
theorem dX8_init_27 : decode cX8_init 27 = .ok (.putfield 15, 3) := by decide +kernel
theorem dX8_init_30 : decode cX8_init 30 = .ok (.aload_n 0, 1) := by decide +kernel
theorem dX8_init_31 : decode cX8_init 31 = .ok (.iconst 0, 1) := by decide +kernel
theorem dX8_init_32 : decode cX8_init 32 = .ok (.putfield 18, 3) := by decide +kernel
theorem dX8_init_35 : decode cX8_init 35 = .ok (.aload_n 0, 1) := by decide +kernel
theorem dX8_init_36 : decode cX8_init 36 = .ok (.iconst 0, 1) := by decide +kernel
theorem dX8_init_37 : decode cX8_init 37 = .ok (.putfield 22, 3) := by decide +kernel
theorem dX8_init_40 : decode cX8_init 40 = .ok (.aload_n 0, 1) := by decide +kernel
theorem dX8_init_41 : decode cX8_init 41 = .ok (.iconst 0, 1) := by decide +kernel
theorem dX8_init_42 : decode cX8_init 42 = .ok (.putfield 25, 3) := by decide +kernel
theorem dX8_init_45 : decode cX8_init 45 = .ok (.aload_n 0, 1) := by decide +kernel
theorem dX8_init_46 : decode cX8_init 46 = .ok (.bipush 24, 2) := by decide +kernel
theorem dX8_init_48 : decode cX8_init 48 = .ok (.newarray .int, 2) := by decide +kernel
theorem dX8_init_50 : decode cX8_init 50 = .ok (.putfield 28, 3) := by decide +kernel
theorem dX8_init_53 : decode cX8_init 53 = .ok (.aload_n 0, 1) := by decide +kernel
theorem dX8_init_54 : decode cX8_init 54 = .ok (.bipush 24, 2) := by decide +kernel
theorem dX8_init_56 : decode cX8_init 56 = .ok (.newarray .int, 2) := by decide +kernel
theorem dX8_init_58 : decode cX8_init 58 = .ok (.putfield 31, 3) := by decide +kernel
theorem dX8_init_61 : decode cX8_init 61 = .ok (.aload_n 0, 1) := by decide +kernel
theorem dX8_init_62 : decode cX8_init 62 = .ok (.bipush 24, 2) := by decide +kernel
theorem dX8_init_64 : decode cX8_init 64 = .ok (.newarray .int, 2) := by decide +kernel
theorem dX8_init_66 : decode cX8_init 66 = .ok (.putfield 34, 3) := by decide +kernel
theorem dX8_init_69 : decode cX8_init 69 = .ok (.aload_n 0, 1) := by decide +kernel
theorem dX8_init_70 : decode cX8_init 70 = .ok (.iconst 4, 1) := by decide +kernel
theorem dX8_init_71 : decode cX8_init 71 = .ok (.bipush 24, 2) := by decide +kernel
theorem dX8_init_73 : decode cX8_init 73 = .ok (.multianewarray 37 2, 4) := by decide +kernel
theorem dX8_init_77 : decode cX8_init 77 = .ok (.putfield 39, 3) := by decide +kernel
theorem dX8_init_80 : decode cX8_init 80 = .ok (.aload_n 0, 1) := by decide +kernel
theorem dX8_init_81 : decode cX8_init 81 = .ok (.iconst 5, 1) := by decide +kernel
theorem dX8_init_82 : decode cX8_init 82 = .ok (.newarray .int, 2) := by decide +kernel
theorem dX8_init_84 : decode cX8_init 84 = .ok (.putfield 42, 3) := by decide +kernel
theorem dX8_init_87 : decode cX8_init 87 = .ok (.aload_n 0, 1) := by decide +kernel
theorem dX8_init_88 : decode cX8_init 88 = .ok (.iconst 4, 1) := by decide +kernel
theorem dX8_init_89 : decode cX8_init 89 = .ok (.newarray .int, 2) := by decide +kernel
theorem dX8_init_91 : decode cX8_init 91 = .ok (.putfield 45, 3) := by decide +kernel
theorem dX8_init_94 : decode cX8_init 94 = .ok (.aload_n 0, 1) := by decide +kernel
theorem dX8_init_95 : decode cX8_init 95 = .ok (.iconst 4, 1) := by decide +kernel
theorem dX8_init_96 : decode cX8_init 96 = .ok (.newarray .int, 2) := by decide +kernel
theorem dX8_init_98 : decode cX8_init 98 = .ok (.putfield 48, 3) := by decide +kernel
theorem dX8_init_101 : decode cX8_init 101 = .ok (.aload_n 0, 1) := by decide +kernel
theorem dX8_init_102 : decode cX8_init 102 = .ok (.bipush (-9), 2) := by decide +kernel
theorem dX8_init_104 : decode cX8_init 104 = .ok (.putfield 51, 3) := by decide +kernel
theorem dX8_init_107 : decode cX8_init 107 = .ok (.aload_n 0, 1) := by decide +kernel
theorem dX8_init_108 : decode cX8_init 108 = .ok (.sipush 1024, 3) := by decide +kernel
theorem dX8_init_111 : decode cX8_init 111 = .ok (.newarray .long, 2) := by decide +kernel
theorem dX8_init_113 : decode cX8_init 113 = .ok (.putfield 54, 3) := by decide +kernel
theorem dX8_init_116 : decode cX8_init 116 = .ok (.aload_n 0, 1) := by decide +kernel
theorem dX8_init_117 : decode cX8_init 117 = .ok (.sipush 1024, 3) := by decide +kernel
theorem dX8_init_120 : decode cX8_init 120 = .ok (.newarray .int, 2) := by decide +kernel
theorem dX8_init_122 : decode cX8_init 122 = .ok (.putfield 58, 3) := by decide +kernel
theorem dX8_init_125 : decode cX8_init 125 = .ok (.aload_n 0, 1) := by decide +kernel
theorem dX8_init_126 : decode cX8_init 126 = .ok (.iconst 0, 1) := by decide +kernel
theorem dX8_init_127 : decode cX8_init 127 = .ok (.putfield 61, 3) := by decide +kernel
theorem dX8_init_130 : decode cX8_init 130 = .ok (.aload_n 0, 1) := by decide +kernel
theorem dX8_init_131 : decode cX8_init 131 = .ok (.bipush (-9), 2) := by decide +kernel
theorem dX8_init_133 : decode cX8_init 133 = .ok (.putfield 65, 3) := by decide +kernel
theorem dX8_init_136 : decode cX8_init 136 = .ok (.return_, 1) := by decide +kernel
theorem dX8_forget_0 : decode cX8_forget 0 = .ok (.aload_n 0, 1) := by decide +kernel
theorem dX8_forget_1 : decode cX8_forget 1 = .ok (.iconst 0, 1) := by decide +kernel
theorem dX8_forget_2 : decode cX8_forget 2 = .ok (.putfield 61, 3) := by decide +kernel
theorem dX8_forget_5 : decode cX8_forget 5 = .ok (.return_, 1) := by decide +kernel
theorem dX8_fewestBroken_0 : decode cX8_fewestBroken 0 = .ok (.aload_n 0, 1) := by decide +kernel
theorem dX8_fewestBroken_1 : decode cX8_fewestBroken 1 = .ok (.getfield 61, 3) := by decide +kernel
theorem dX8_fewestBroken_4 : decode cX8_fewestBroken 4 = .ok (.ifCond .eq 33, 3) := by decide +kernel
theorem dX8_fewestBroken_7 : decode cX8_fewestBroken 7 = .ok (.aload_n 0, 1) := by decide +kernel
theorem dX8_fewestBroken_8 : decode cX8_fewestBroken 8 = .ok (.getfield 65, 3) := by decide +kernel
theorem dX8_fewestBroken_11 : decode cX8_fewestBroken 11 = .ok (.iload_n 2, 1) := by decide +kernel
theorem dX8_fewestBroken_12 : decode cX8_fewestBroken 12 = .ok (.if_icmp .ne 25, 3) := by decide +kernel
theorem dX8_fewestBroken_15 : decode cX8_fewestBroken 15 = .ok (.aload_n 0, 1) := by decide +kernel
theorem dX8_fewestBroken_16 : decode cX8_fewestBroken 16 = .ok (.getfield 18, 3) := by decide +kernel
theorem dX8_fewestBroken_19 : decode cX8_fewestBroken 19 = .ok (.iload_n 3, 1) := by decide +kernel
theorem dX8_fewestBroken_20 : decode cX8_fewestBroken 20 = .ok (.if_icmp .ne 17, 3) := by decide +kernel
theorem dX8_fewestBroken_23 : decode cX8_fewestBroken 23 = .ok (.aload_n 0, 1) := by decide +kernel
theorem dX8_fewestBroken_24 : decode cX8_fewestBroken 24 = .ok (.getfield 22, 3) := by decide +kernel
theorem dX8_fewestBroken_27 : decode cX8_fewestBroken 27 = .ok (.iload 4, 2) := by decide +kernel
theorem dX8_fewestBroken_29 : decode cX8_fewestBroken 29 = .ok (.if_icmp .ne 8, 3) := by decide +kernel
theorem dX8_fewestBroken_32 : decode cX8_fewestBroken 32 = .ok (.aload_n 0, 1) := by decide +kernel
theorem dX8_fewestBroken_33 : decode cX8_fewestBroken 33 = .ok (.getfield 51, 3) := by decide +kernel
theorem dX8_fewestBroken_36 : decode cX8_fewestBroken 36 = .ok (.ireturn, 1) := by decide +kernel
theorem dX8_fewestBroken_37 : decode cX8_fewestBroken 37 = .ok (.aload_n 0, 1) := by decide +kernel
theorem dX8_fewestBroken_38 : decode cX8_fewestBroken 38 = .ok (.bipush (-9), 2) := by decide +kernel
theorem dX8_fewestBroken_40 : decode cX8_fewestBroken 40 = .ok (.putfield 51, 3) := by decide +kernel
theorem dX8_fewestBroken_43 : decode cX8_fewestBroken 43 = .ok (.aload_n 0, 1) := by decide +kernel
theorem dX8_fewestBroken_44 : decode cX8_fewestBroken 44 = .ok (.iload_n 3, 1) := by decide +kernel
theorem dX8_fewestBroken_45 : decode cX8_fewestBroken 45 = .ok (.putfield 18, 3) := by decide +kernel
theorem dX8_fewestBroken_48 : decode cX8_fewestBroken 48 = .ok (.aload_n 0, 1) := by decide +kernel
theorem dX8_fewestBroken_49 : decode cX8_fewestBroken 49 = .ok (.iload 4, 2) := by decide +kernel
theorem dX8_fewestBroken_51 : decode cX8_fewestBroken 51 = .ok (.putfield 22, 3) := by decide +kernel
theorem dX8_fewestBroken_54 : decode cX8_fewestBroken 54 = .ok (.aload_n 0, 1) := by decide +kernel
theorem dX8_fewestBroken_55 : decode cX8_fewestBroken 55 = .ok (.aload_n 1, 1) := by decide +kernel
theorem dX8_fewestBroken_56 : decode cX8_fewestBroken 56 = .ok (.iload_n 2, 1) := by decide +kernel
theorem dX8_fewestBroken_57 : decode cX8_fewestBroken 57 = .ok (.invokevirtual 68, 3) := by decide +kernel
theorem dX8_fewestBroken_60 : decode cX8_fewestBroken 60 = .ok (.ifCond .eq 16, 3) := by decide +kernel
theorem dX8_fewestBroken_63 : decode cX8_fewestBroken 63 = .ok (.aload_n 0, 1) := by decide +kernel
theorem dX8_fewestBroken_64 : decode cX8_fewestBroken 64 = .ok (.invokevirtual 72, 3) := by decide +kernel
theorem dX8_fewestBroken_67 : decode cX8_fewestBroken 67 = .ok (.aload_n 0, 1) := by decide +kernel
theorem dX8_fewestBroken_68 : decode cX8_fewestBroken 68 = .ok (.aload_n 1, 1) := by decide +kernel
theorem dX8_fewestBroken_69 : decode cX8_fewestBroken 69 = .ok (.invokevirtual 75, 3) := by decide +kernel
theorem dX8_fewestBroken_72 : decode cX8_fewestBroken 72 = .ok (.aload_n 0, 1) := by decide +kernel
theorem dX8_fewestBroken_73 : decode cX8_fewestBroken 73 = .ok (.invokevirtual 79, 3) := by decide +kernel
theorem dX8_fewestBroken_76 : decode cX8_fewestBroken 76 = .ok (.aload_n 0, 1) := by decide +kernel
theorem dX8_fewestBroken_77 : decode cX8_fewestBroken 77 = .ok (.iconst 1, 1) := by decide +kernel
theorem dX8_fewestBroken_78 : decode cX8_fewestBroken 78 = .ok (.putfield 61, 3) := by decide +kernel
theorem dX8_fewestBroken_81 : decode cX8_fewestBroken 81 = .ok (.aload_n 0, 1) := by decide +kernel
theorem dX8_fewestBroken_82 : decode cX8_fewestBroken 82 = .ok (.iload_n 2, 1) := by decide +kernel
theorem dX8_fewestBroken_83 : decode cX8_fewestBroken 83 = .ok (.putfield 65, 3) := by decide +kernel
theorem dX8_fewestBroken_86 : decode cX8_fewestBroken 86 = .ok (.aload_n 0, 1) := by decide +kernel
theorem dX8_fewestBroken_87 : decode cX8_fewestBroken 87 = .ok (.getfield 51, 3) := by decide +kernel
theorem dX8_fewestBroken_90 : decode cX8_fewestBroken 90 = .ok (.ireturn, 1) := by decide +kernel
theorem dX8_canBe_0 : decode cX8_canBe 0 = .ok (.aload_n 0, 1) := by decide +kernel
theorem dX8_canBe_1 : decode cX8_canBe 1 = .ok (.invokevirtual 82, 3) := by decide +kernel
theorem dX8_canBe_4 : decode cX8_canBe 4 = .ok (.aload_n 0, 1) := by decide +kernel
theorem dX8_canBe_5 : decode cX8_canBe 5 = .ok (.iload_n 1, 1) := by decide +kernel
theorem dX8_canBe_6 : decode cX8_canBe 6 = .ok (.putfield 18, 3) := by decide +kernel
theorem dX8_canBe_9 : decode cX8_canBe 9 = .ok (.aload_n 0, 1) := by decide +kernel
theorem dX8_canBe_10 : decode cX8_canBe 10 = .ok (.iload_n 2, 1) := by decide +kernel
theorem dX8_canBe_11 : decode cX8_canBe 11 = .ok (.putfield 22, 3) := by decide +kernel
theorem dX8_canBe_14 : decode cX8_canBe 14 = .ok (.aload_n 0, 1) := by decide +kernel
theorem dX8_canBe_15 : decode cX8_canBe 15 = .ok (.invokevirtual 72, 3) := by decide +kernel
theorem dX8_canBe_18 : decode cX8_canBe 18 = .ok (.aload_n 0, 1) := by decide +kernel
theorem dX8_canBe_19 : decode cX8_canBe 19 = .ok (.invokevirtual 85, 3) := by decide +kernel
theorem dX8_canBe_22 : decode cX8_canBe 22 = .ok (.aload_n 0, 1) := by decide +kernel
theorem dX8_canBe_23 : decode cX8_canBe 23 = .ok (.invokevirtual 79, 3) := by decide +kernel
theorem dX8_canBe_26 : decode cX8_canBe 26 = .ok (.aload_n 0, 1) := by decide +kernel
theorem dX8_canBe_27 : decode cX8_canBe 27 = .ok (.getfield 51, 3) := by decide +kernel
theorem dX8_canBe_30 : decode cX8_canBe 30 = .ok (.bipush (-9), 2) := by decide +kernel
theorem dX8_canBe_32 : decode cX8_canBe 32 = .ok (.if_icmp .eq 7, 3) := by decide +kernel
theorem dX8_canBe_35 : decode cX8_canBe 35 = .ok (.iconst 1, 1) := by decide +kernel
theorem dX8_canBe_36 : decode cX8_canBe 36 = .ok (.goto 4, 3) := by decide +kernel
theorem dX8_canBe_39 : decode cX8_canBe 39 = .ok (.iconst 0, 1) := by decide +kernel
theorem dX8_canBe_40 : decode cX8_canBe 40 = .ok (.ireturn, 1) := by decide +kernel
theorem dX8_bestShift_0 : decode cX8_bestShift 0 = .ok (.iconst 0, 1) := by decide +kernel
theorem dX8_bestShift_1 : decode cX8_bestShift 1 = .ok (.istore_n 3, 1) := by decide +kernel
theorem dX8_bestShift_2 : decode cX8_bestShift 2 = .ok (.iload_n 3, 1) := by decide +kernel
theorem dX8_bestShift_3 : decode cX8_bestShift 3 = .ok (.iconst 4, 1) := by decide +kernel
theorem dX8_bestShift_4 : decode cX8_bestShift 4 = .ok (.if_icmp .ge 53, 3) := by decide +kernel
theorem dX8_bestShift_7 : decode cX8_bestShift 7 = .ok (.aload_n 0, 1) := by decide +kernel
theorem dX8_bestShift_8 : decode cX8_bestShift 8 = .ok (.getfield 15, 3) := by decide +kernel
theorem dX8_bestShift_11 : decode cX8_bestShift 11 = .ok (.iload_n 3, 1) := by decide +kernel
theorem dX8_bestShift_12 : decode cX8_bestShift 12 = .ok (.iaload, 1) := by decide +kernel
theorem dX8_bestShift_13 : decode cX8_bestShift 13 = .ok (.iload_n 1, 1) := by decide +kernel
theorem dX8_bestShift_14 : decode cX8_bestShift 14 = .ok (.if_icmp .ne 37, 3) := by decide +kernel
theorem dX8_bestShift_17 : decode cX8_bestShift 17 = .ok (.iload_n 2, 1) := by decide +kernel
theorem dX8_bestShift_18 : decode cX8_bestShift 18 = .ok (.ifCond .lt 33, 3) := by decide +kernel
theorem dX8_bestShift_21 : decode cX8_bestShift 21 = .ok (.iload_n 2, 1) := by decide +kernel
theorem dX8_bestShift_22 : decode cX8_bestShift 22 = .ok (.iconst 4, 1) := by decide +kernel
theorem dX8_bestShift_23 : decode cX8_bestShift 23 = .ok (.if_icmp .ge 28, 3) := by decide +kernel
theorem dX8_bestShift_26 : decode cX8_bestShift 26 = .ok (.aload_n 0, 1) := by decide +kernel
theorem dX8_bestShift_27 : decode cX8_bestShift 27 = .ok (.getfield 51, 3) := by decide +kernel
theorem dX8_bestShift_30 : decode cX8_bestShift 30 = .ok (.bipush (-9), 2) := by decide +kernel
theorem dX8_bestShift_32 : decode cX8_bestShift 32 = .ok (.if_icmp .eq 19, 3) := by decide +kernel
theorem dX8_bestShift_35 : decode cX8_bestShift 35 = .ok (.aload_n 0, 1) := by decide +kernel
theorem dX8_bestShift_36 : decode cX8_bestShift 36 = .ok (.getfield 28, 3) := by decide +kernel
theorem dX8_bestShift_39 : decode cX8_bestShift 39 = .ok (.aload_n 0, 1) := by decide +kernel
theorem dX8_bestShift_40 : decode cX8_bestShift 40 = .ok (.getfield 48, 3) := by decide +kernel
theorem dX8_bestShift_43 : decode cX8_bestShift 43 = .ok (.iload_n 2, 1) := by decide +kernel
theorem dX8_bestShift_44 : decode cX8_bestShift 44 = .ok (.iaload, 1) := by decide +kernel
theorem dX8_bestShift_45 : decode cX8_bestShift 45 = .ok (.iaload, 1) := by decide +kernel
theorem dX8_bestShift_46 : decode cX8_bestShift 46 = .ok (.iload_n 3, 1) := by decide +kernel
theorem dX8_bestShift_47 : decode cX8_bestShift 47 = .ok (.invokestatic 88, 3) := by decide +kernel
theorem dX8_bestShift_50 : decode cX8_bestShift 50 = .ok (.ireturn, 1) := by decide +kernel
theorem dX8_bestShift_51 : decode cX8_bestShift 51 = .ok (.iinc 3 1, 3) := by decide +kernel
theorem dX8_bestShift_54 : decode cX8_bestShift 54 = .ok (.goto (-52), 3) := by decide +kernel
theorem dX8_bestShift_57 : decode cX8_bestShift 57 = .ok (.bipush (-9), 2) := by decide +kernel
theorem dX8_bestShift_59 : decode cX8_bestShift 59 = .ok (.ireturn, 1) := by decide +kernel
theorem dX8_findTeam_0 : decode cX8_findTeam 0 = .ok (.iconst 0, 1) := by decide +kernel
theorem dX8_findTeam_1 : decode cX8_findTeam 1 = .ok (.istore_n 3, 1) := by decide +kernel
theorem dX8_findTeam_2 : decode cX8_findTeam 2 = .ok (.iconst 0, 1) := by decide +kernel
theorem dX8_findTeam_3 : decode cX8_findTeam 3 = .ok (.istore 4, 2) := by decide +kernel
theorem dX8_findTeam_5 : decode cX8_findTeam 5 = .ok (.iload 4, 2) := by decide +kernel
theorem dX8_findTeam_7 : decode cX8_findTeam 7 = .ok (.aload_n 1, 1) := by decide +kernel
theorem dX8_findTeam_8 : decode cX8_findTeam 8 = .ok (.getfield 92, 3) := by decide +kernel
theorem dX8_findTeam_11 : decode cX8_findTeam 11 = .ok (.if_icmp .ge 46, 3) := by decide +kernel
theorem dX8_findTeam_14 : decode cX8_findTeam 14 = .ok (.iload_n 3, 1) := by decide +kernel
theorem dX8_findTeam_15 : decode cX8_findTeam 15 = .ok (.iconst 4, 1) := by decide +kernel
theorem dX8_findTeam_16 : decode cX8_findTeam 16 = .ok (.if_icmp .ge 41, 3) := by decide +kernel
theorem dX8_findTeam_19 : decode cX8_findTeam 19 = .ok (.aload_n 1, 1) := by decide +kernel
theorem dX8_findTeam_20 : decode cX8_findTeam 20 = .ok (.getfield 97, 3) := by decide +kernel
theorem dX8_findTeam_23 : decode cX8_findTeam 23 = .ok (.iload 4, 2) := by decide +kernel
theorem dX8_findTeam_25 : decode cX8_findTeam 25 = .ok (.baload, 1) := by decide +kernel
theorem dX8_findTeam_26 : decode cX8_findTeam 26 = .ok (.ifCond .eq 25, 3) := by decide +kernel
theorem dX8_findTeam_29 : decode cX8_findTeam 29 = .ok (.aload_n 1, 1) := by decide +kernel
theorem dX8_findTeam_30 : decode cX8_findTeam 30 = .ok (.getfield 101, 3) := by decide +kernel
theorem dX8_findTeam_33 : decode cX8_findTeam 33 = .ok (.iload 4, 2) := by decide +kernel
theorem dX8_findTeam_35 : decode cX8_findTeam 35 = .ok (.iaload, 1) := by decide +kernel
theorem dX8_findTeam_36 : decode cX8_findTeam 36 = .ok (.iload_n 2, 1) := by decide +kernel
theorem dX8_findTeam_37 : decode cX8_findTeam 37 = .ok (.if_icmp .ne 14, 3) := by decide +kernel
theorem dX8_findTeam_40 : decode cX8_findTeam 40 = .ok (.aload_n 0, 1) := by decide +kernel
theorem dX8_findTeam_41 : decode cX8_findTeam 41 = .ok (.getfield 15, 3) := by decide +kernel
theorem dX8_findTeam_44 : decode cX8_findTeam 44 = .ok (.iload_n 3, 1) := by decide +kernel
theorem dX8_findTeam_45 : decode cX8_findTeam 45 = .ok (.iload 4, 2) := by decide +kernel
theorem dX8_findTeam_47 : decode cX8_findTeam 47 = .ok (.iastore, 1) := by decide +kernel
theorem dX8_findTeam_48 : decode cX8_findTeam 48 = .ok (.iinc 3 1, 3) := by decide +kernel
theorem dX8_findTeam_51 : decode cX8_findTeam 51 = .ok (.iinc 4 1, 3) := by decide +kernel
theorem dX8_findTeam_54 : decode cX8_findTeam 54 = .ok (.goto (-49), 3) := by decide +kernel
theorem dX8_findTeam_57 : decode cX8_findTeam 57 = .ok (.iload_n 3, 1) := by decide +kernel
theorem dX8_findTeam_58 : decode cX8_findTeam 58 = .ok (.iconst 4, 1) := by decide +kernel
theorem dX8_findTeam_59 : decode cX8_findTeam 59 = .ok (.if_icmp .ne 7, 3) := by decide +kernel
theorem dX8_findTeam_62 : decode cX8_findTeam 62 = .ok (.iconst 1, 1) := by decide +kernel
theorem dX8_findTeam_63 : decode cX8_findTeam 63 = .ok (.goto 4, 3) := by decide +kernel
theorem dX8_findTeam_66 : decode cX8_findTeam 66 = .ok (.iconst 0, 1) := by decide +kernel
theorem dX8_findTeam_67 : decode cX8_findTeam 67 = .ok (.ireturn, 1) := by decide +kernel
theorem dX8_shiftIn_0 : decode cX8_shiftIn 0 = .ok (.iload_n 0, 1) := by decide +kernel
theorem dX8_shiftIn_1 : decode cX8_shiftIn 1 = .ok (.iconst 2, 1) := by decide +kernel
theorem dX8_shiftIn_2 : decode cX8_shiftIn 2 = .ok (.iconst 3, 1) := by decide +kernel
theorem dX8_shiftIn_3 : decode cX8_shiftIn 3 = .ok (.iload_n 1, 1) := by decide +kernel
theorem dX8_shiftIn_4 : decode cX8_shiftIn 4 = .ok (.isub, 1) := by decide +kernel
theorem dX8_shiftIn_5 : decode cX8_shiftIn 5 = .ok (.imul, 1) := by decide +kernel
theorem dX8_shiftIn_6 : decode cX8_shiftIn 6 = .ok (.ishr, 1) := by decide +kernel
theorem dX8_shiftIn_7 : decode cX8_shiftIn 7 = .ok (.iconst 3, 1) := by decide +kernel
theorem dX8_shiftIn_8 : decode cX8_shiftIn 8 = .ok (.iand, 1) := by decide +kernel
theorem dX8_shiftIn_9 : decode cX8_shiftIn 9 = .ok (.ireturn, 1) := by decide +kernel
theorem dX8_listArrangements_0 : decode cX8_listArrangements 0 = .ok (.aload_n 0, 1) := by decide +kernel
theorem dX8_listArrangements_1 : decode cX8_listArrangements 1 = .ok (.iconst 0, 1) := by decide +kernel
theorem dX8_listArrangements_2 : decode cX8_listArrangements 2 = .ok (.putfield 25, 3) := by decide +kernel
theorem dX8_listArrangements_5 : decode cX8_listArrangements 5 = .ok (.iconst 0, 1) := by decide +kernel
theorem dX8_listArrangements_6 : decode cX8_listArrangements 6 = .ok (.istore_n 1, 1) := by decide +kernel
theorem dX8_listArrangements_7 : decode cX8_listArrangements 7 = .ok (.iload_n 1, 1) := by decide +kernel
theorem dX8_listArrangements_8 : decode cX8_listArrangements 8 = .ok (.sipush 256, 3) := by decide +kernel
theorem dX8_listArrangements_11 : decode cX8_listArrangements 11 = .ok (.if_icmp .ge 55, 3) := by decide +kernel
theorem dX8_listArrangements_14 : decode cX8_listArrangements 14 = .ok (.aload_n 0, 1) := by decide +kernel
theorem dX8_listArrangements_15 : decode cX8_listArrangements 15 = .ok (.getfield 25, 3) := by decide +kernel
theorem dX8_listArrangements_18 : decode cX8_listArrangements 18 = .ok (.bipush 24, 2) := by decide +kernel
theorem dX8_listArrangements_20 : decode cX8_listArrangements 20 = .ok (.if_icmp .ge 46, 3) := by decide +kernel
theorem dX8_listArrangements_23 : decode cX8_listArrangements 23 = .ok (.aload_n 0, 1) := by decide +kernel
theorem dX8_listArrangements_24 : decode cX8_listArrangements 24 = .ok (.iload_n 1, 1) := by decide +kernel
theorem dX8_listArrangements_25 : decode cX8_listArrangements 25 = .ok (.invokevirtual 104, 3) := by decide +kernel
theorem dX8_listArrangements_28 : decode cX8_listArrangements 28 = .ok (.ifCond .eq 32, 3) := by decide +kernel
theorem dX8_listArrangements_31 : decode cX8_listArrangements 31 = .ok (.aload_n 0, 1) := by decide +kernel
theorem dX8_listArrangements_32 : decode cX8_listArrangements 32 = .ok (.getfield 28, 3) := by decide +kernel
theorem dX8_listArrangements_35 : decode cX8_listArrangements 35 = .ok (.aload_n 0, 1) := by decide +kernel
theorem dX8_listArrangements_36 : decode cX8_listArrangements 36 = .ok (.getfield 25, 3) := by decide +kernel
theorem dX8_listArrangements_39 : decode cX8_listArrangements 39 = .ok (.iload_n 1, 1) := by decide +kernel
theorem dX8_listArrangements_40 : decode cX8_listArrangements 40 = .ok (.iastore, 1) := by decide +kernel
theorem dX8_listArrangements_41 : decode cX8_listArrangements 41 = .ok (.aload_n 0, 1) := by decide +kernel
theorem dX8_listArrangements_42 : decode cX8_listArrangements 42 = .ok (.aload_n 0, 1) := by decide +kernel
theorem dX8_listArrangements_43 : decode cX8_listArrangements 43 = .ok (.getfield 25, 3) := by decide +kernel
theorem dX8_listArrangements_46 : decode cX8_listArrangements 46 = .ok (.iload_n 1, 1) := by decide +kernel
theorem dX8_listArrangements_47 : decode cX8_listArrangements 47 = .ok (.invokevirtual 108, 3) := by decide +kernel
theorem dX8_listArrangements_50 : decode cX8_listArrangements 50 = .ok (.aload_n 0, 1) := by decide +kernel
theorem dX8_listArrangements_51 : decode cX8_listArrangements 51 = .ok (.dup, 1) := by decide +kernel
theorem dX8_listArrangements_52 : decode cX8_listArrangements 52 = .ok (.getfield 25, 3) := by decide +kernel
theorem dX8_listArrangements_55 : decode cX8_listArrangements 55 = .ok (.iconst 1, 1) := by decide +kernel
theorem dX8_listArrangements_56 : decode cX8_listArrangements 56 = .ok (.iadd, 1) := by decide +kernel
theorem dX8_listArrangements_57 : decode cX8_listArrangements 57 = .ok (.putfield 25, 3) := by decide +kernel
theorem dX8_listArrangements_60 : decode cX8_listArrangements 60 = .ok (.iinc 1 1, 3) := by decide +kernel
theorem dX8_listArrangements_63 : decode cX8_listArrangements 63 = .ok (.goto (-56), 3) := by decide +kernel
theorem dX8_listArrangements_66 : decode cX8_listArrangements 66 = .ok (.return_, 1) := by decide +kernel
theorem dX8_meetsNeed_0 : decode cX8_meetsNeed 0 = .ok (.iconst 0, 1) := by decide +kernel
theorem dX8_meetsNeed_1 : decode cX8_meetsNeed 1 = .ok (.istore_n 2, 1) := by decide +kernel
theorem dX8_meetsNeed_2 : decode cX8_meetsNeed 2 = .ok (.iload_n 2, 1) := by decide +kernel
theorem dX8_meetsNeed_3 : decode cX8_meetsNeed 3 = .ok (.iconst 3, 1) := by decide +kernel
theorem dX8_meetsNeed_4 : decode cX8_meetsNeed 4 = .ok (.if_icmp .ge 56, 3) := by decide +kernel
theorem dX8_meetsNeed_7 : decode cX8_meetsNeed 7 = .ok (.iconst 0, 1) := by decide +kernel
theorem dX8_meetsNeed_8 : decode cX8_meetsNeed 8 = .ok (.istore_n 3, 1) := by decide +kernel
theorem dX8_meetsNeed_9 : decode cX8_meetsNeed 9 = .ok (.iconst 0, 1) := by decide +kernel
theorem dX8_meetsNeed_10 : decode cX8_meetsNeed 10 = .ok (.istore 4, 2) := by decide +kernel
theorem dX8_meetsNeed_12 : decode cX8_meetsNeed 12 = .ok (.iload 4, 2) := by decide +kernel
theorem dX8_meetsNeed_14 : decode cX8_meetsNeed 14 = .ok (.iconst 4, 1) := by decide +kernel
theorem dX8_meetsNeed_15 : decode cX8_meetsNeed 15 = .ok (.if_icmp .ge 27, 3) := by decide +kernel
theorem dX8_meetsNeed_18 : decode cX8_meetsNeed 18 = .ok (.iload_n 3, 1) := by decide +kernel
theorem dX8_meetsNeed_19 : decode cX8_meetsNeed 19 = .ok (.iload_n 1, 1) := by decide +kernel
theorem dX8_meetsNeed_20 : decode cX8_meetsNeed 20 = .ok (.iload 4, 2) := by decide +kernel
theorem dX8_meetsNeed_22 : decode cX8_meetsNeed 22 = .ok (.invokestatic 88, 3) := by decide +kernel
theorem dX8_meetsNeed_25 : decode cX8_meetsNeed 25 = .ok (.iload_n 2, 1) := by decide +kernel
theorem dX8_meetsNeed_26 : decode cX8_meetsNeed 26 = .ok (.if_icmp .ne 7, 3) := by decide +kernel
theorem dX8_meetsNeed_29 : decode cX8_meetsNeed 29 = .ok (.iconst 1, 1) := by decide +kernel
theorem dX8_meetsNeed_30 : decode cX8_meetsNeed 30 = .ok (.goto 4, 3) := by decide +kernel
theorem dX8_meetsNeed_33 : decode cX8_meetsNeed 33 = .ok (.iconst 0, 1) := by decide +kernel
theorem dX8_meetsNeed_34 : decode cX8_meetsNeed 34 = .ok (.iadd, 1) := by decide +kernel
theorem dX8_meetsNeed_35 : decode cX8_meetsNeed 35 = .ok (.istore_n 3, 1) := by decide +kernel
theorem dX8_meetsNeed_36 : decode cX8_meetsNeed 36 = .ok (.iinc 4 1, 3) := by decide +kernel
theorem dX8_meetsNeed_39 : decode cX8_meetsNeed 39 = .ok (.goto (-27), 3) := by decide +kernel
theorem dX8_meetsNeed_42 : decode cX8_meetsNeed 42 = .ok (.iload_n 3, 1) := by decide +kernel
theorem dX8_meetsNeed_43 : decode cX8_meetsNeed 43 = .ok (.aload_n 0, 1) := by decide +kernel
theorem dX8_meetsNeed_44 : decode cX8_meetsNeed 44 = .ok (.getfield 9, 3) := by decide +kernel
theorem dX8_meetsNeed_47 : decode cX8_meetsNeed 47 = .ok (.iload_n 2, 1) := by decide +kernel
theorem dX8_meetsNeed_48 : decode cX8_meetsNeed 48 = .ok (.iaload, 1) := by decide +kernel
theorem dX8_meetsNeed_49 : decode cX8_meetsNeed 49 = .ok (.if_icmp .eq 5, 3) := by decide +kernel
theorem dX8_meetsNeed_52 : decode cX8_meetsNeed 52 = .ok (.iconst 0, 1) := by decide +kernel
theorem dX8_meetsNeed_53 : decode cX8_meetsNeed 53 = .ok (.ireturn, 1) := by decide +kernel
theorem dX8_meetsNeed_54 : decode cX8_meetsNeed 54 = .ok (.iinc 2 1, 3) := by decide +kernel
theorem dX8_meetsNeed_57 : decode cX8_meetsNeed 57 = .ok (.goto (-55), 3) := by decide +kernel
theorem dX8_meetsNeed_60 : decode cX8_meetsNeed 60 = .ok (.iconst 1, 1) := by decide +kernel
theorem dX8_meetsNeed_61 : decode cX8_meetsNeed 61 = .ok (.ireturn, 1) := by decide +kernel
theorem dX8_markShifts_0 : decode cX8_markShifts 0 = .ok (.aload_n 0, 1) := by decide +kernel
theorem dX8_markShifts_1 : decode cX8_markShifts 1 = .ok (.getfield 31, 3) := by decide +kernel
theorem dX8_markShifts_4 : decode cX8_markShifts 4 = .ok (.iload_n 1, 1) := by decide +kernel
theorem dX8_markShifts_5 : decode cX8_markShifts 5 = .ok (.iconst 0, 1) := by decide +kernel
theorem dX8_markShifts_6 : decode cX8_markShifts 6 = .ok (.iastore, 1) := by decide +kernel
theorem dX8_markShifts_7 : decode cX8_markShifts 7 = .ok (.aload_n 0, 1) := by decide +kernel
theorem dX8_markShifts_8 : decode cX8_markShifts 8 = .ok (.getfield 34, 3) := by decide +kernel
theorem dX8_markShifts_11 : decode cX8_markShifts 11 = .ok (.iload_n 1, 1) := by decide +kernel
theorem dX8_markShifts_12 : decode cX8_markShifts 12 = .ok (.iconst 0, 1) := by decide +kernel
theorem dX8_markShifts_13 : decode cX8_markShifts 13 = .ok (.iastore, 1) := by decide +kernel
theorem dX8_markShifts_14 : decode cX8_markShifts 14 = .ok (.iconst 0, 1) := by decide +kernel
theorem dX8_markShifts_15 : decode cX8_markShifts 15 = .ok (.istore_n 3, 1) := by decide +kernel
theorem dX8_markShifts_16 : decode cX8_markShifts 16 = .ok (.iload_n 3, 1) := by decide +kernel
theorem dX8_markShifts_17 : decode cX8_markShifts 17 = .ok (.iconst 4, 1) := by decide +kernel
theorem dX8_markShifts_18 : decode cX8_markShifts 18 = .ok (.if_icmp .ge 59, 3) := by decide +kernel
theorem dX8_markShifts_21 : decode cX8_markShifts 21 = .ok (.iload_n 2, 1) := by decide +kernel
theorem dX8_markShifts_22 : decode cX8_markShifts 22 = .ok (.iload_n 3, 1) := by decide +kernel
theorem dX8_markShifts_23 : decode cX8_markShifts 23 = .ok (.invokestatic 88, 3) := by decide +kernel
theorem dX8_markShifts_26 : decode cX8_markShifts 26 = .ok (.istore 4, 2) := by decide +kernel
theorem dX8_markShifts_28 : decode cX8_markShifts 28 = .ok (.iload 4, 2) := by decide +kernel
theorem dX8_markShifts_30 : decode cX8_markShifts 30 = .ok (.iconst 2, 1) := by decide +kernel
theorem dX8_markShifts_31 : decode cX8_markShifts 31 = .ok (.if_icmp .ne 20, 3) := by decide +kernel
theorem dX8_markShifts_34 : decode cX8_markShifts 34 = .ok (.aload_n 0, 1) := by decide +kernel
theorem dX8_markShifts_35 : decode cX8_markShifts 35 = .ok (.getfield 31, 3) := by decide +kernel
theorem dX8_markShifts_38 : decode cX8_markShifts 38 = .ok (.iload_n 1, 1) := by decide +kernel
theorem dX8_markShifts_39 : decode cX8_markShifts 39 = .ok (.dup2, 1) := by decide +kernel
theorem dX8_markShifts_40 : decode cX8_markShifts 40 = .ok (.iaload, 1) := by decide +kernel
theorem dX8_markShifts_41 : decode cX8_markShifts 41 = .ok (.iconst 1, 1) := by decide +kernel
theorem dX8_markShifts_42 : decode cX8_markShifts 42 = .ok (.iconst 3, 1) := by decide +kernel
theorem dX8_markShifts_43 : decode cX8_markShifts 43 = .ok (.iload_n 3, 1) := by decide +kernel
theorem dX8_markShifts_44 : decode cX8_markShifts 44 = .ok (.imul, 1) := by decide +kernel
theorem dX8_markShifts_45 : decode cX8_markShifts 45 = .ok (.ishl, 1) := by decide +kernel
theorem dX8_markShifts_46 : decode cX8_markShifts 46 = .ok (.ior, 1) := by decide +kernel
theorem dX8_markShifts_47 : decode cX8_markShifts 47 = .ok (.iastore, 1) := by decide +kernel
theorem dX8_markShifts_48 : decode cX8_markShifts 48 = .ok (.goto 23, 3) := by decide +kernel
theorem dX8_markShifts_51 : decode cX8_markShifts 51 = .ok (.iload 4, 2) := by decide +kernel
theorem dX8_markShifts_53 : decode cX8_markShifts 53 = .ok (.iconst 3, 1) := by decide +kernel
theorem dX8_markShifts_54 : decode cX8_markShifts 54 = .ok (.if_icmp .eq 17, 3) := by decide +kernel
theorem dX8_markShifts_57 : decode cX8_markShifts 57 = .ok (.aload_n 0, 1) := by decide +kernel
theorem dX8_markShifts_58 : decode cX8_markShifts 58 = .ok (.getfield 34, 3) := by decide +kernel
theorem dX8_markShifts_61 : decode cX8_markShifts 61 = .ok (.iload_n 1, 1) := by decide +kernel
theorem dX8_markShifts_62 : decode cX8_markShifts 62 = .ok (.dup2, 1) := by decide +kernel
theorem dX8_markShifts_63 : decode cX8_markShifts 63 = .ok (.iaload, 1) := by decide +kernel
theorem dX8_markShifts_64 : decode cX8_markShifts 64 = .ok (.iconst 1, 1) := by decide +kernel
theorem dX8_markShifts_65 : decode cX8_markShifts 65 = .ok (.iconst 3, 1) := by decide +kernel
theorem dX8_markShifts_66 : decode cX8_markShifts 66 = .ok (.iload_n 3, 1) := by decide +kernel
theorem dX8_markShifts_67 : decode cX8_markShifts 67 = .ok (.imul, 1) := by decide +kernel
theorem dX8_markShifts_68 : decode cX8_markShifts 68 = .ok (.ishl, 1) := by decide +kernel
theorem dX8_markShifts_69 : decode cX8_markShifts 69 = .ok (.ior, 1) := by decide +kernel
theorem dX8_markShifts_70 : decode cX8_markShifts 70 = .ok (.iastore, 1) := by decide +kernel
theorem dX8_markShifts_71 : decode cX8_markShifts 71 = .ok (.iinc 3 1, 3) := by decide +kernel
theorem dX8_markShifts_74 : decode cX8_markShifts 74 = .ok (.goto (-58), 3) := by decide +kernel
theorem dX8_markShifts_77 : decode cX8_markShifts 77 = .ok (.return_, 1) := by decide +kernel
theorem dX8_countBroken_0 : decode cX8_countBroken 0 = .ok (.aload_n 0, 1) := by decide +kernel
theorem dX8_countBroken_1 : decode cX8_countBroken 1 = .ok (.getfield 42, 3) := by decide +kernel
theorem dX8_countBroken_4 : decode cX8_countBroken 4 = .ok (.iconst 4, 1) := by decide +kernel
theorem dX8_countBroken_5 : decode cX8_countBroken 5 = .ok (.iconst 0, 1) := by decide +kernel
theorem dX8_countBroken_6 : decode cX8_countBroken 6 = .ok (.iastore, 1) := by decide +kernel
theorem dX8_countBroken_7 : decode cX8_countBroken 7 = .ok (.iconst 3, 1) := by decide +kernel
theorem dX8_countBroken_8 : decode cX8_countBroken 8 = .ok (.istore_n 2, 1) := by decide +kernel
theorem dX8_countBroken_9 : decode cX8_countBroken 9 = .ok (.iload_n 2, 1) := by decide +kernel
theorem dX8_countBroken_10 : decode cX8_countBroken 10 = .ok (.ifCond .lt 81, 3) := by decide +kernel
theorem dX8_countBroken_13 : decode cX8_countBroken 13 = .ok (.iconst 4, 1) := by decide +kernel
theorem dX8_countBroken_14 : decode cX8_countBroken 14 = .ok (.istore_n 3, 1) := by decide +kernel
theorem dX8_countBroken_15 : decode cX8_countBroken 15 = .ok (.iconst 0, 1) := by decide +kernel
theorem dX8_countBroken_16 : decode cX8_countBroken 16 = .ok (.istore 4, 2) := by decide +kernel
theorem dX8_countBroken_18 : decode cX8_countBroken 18 = .ok (.iload 4, 2) := by decide +kernel
theorem dX8_countBroken_20 : decode cX8_countBroken 20 = .ok (.aload_n 0, 1) := by decide +kernel
theorem dX8_countBroken_21 : decode cX8_countBroken 21 = .ok (.getfield 25, 3) := by decide +kernel
theorem dX8_countBroken_24 : decode cX8_countBroken 24 = .ok (.if_icmp .ge 45, 3) := by decide +kernel
theorem dX8_countBroken_27 : decode cX8_countBroken 27 = .ok (.aload_n 0, 1) := by decide +kernel
theorem dX8_countBroken_28 : decode cX8_countBroken 28 = .ok (.getfield 39, 3) := by decide +kernel
theorem dX8_countBroken_31 : decode cX8_countBroken 31 = .ok (.iload_n 2, 1) := by decide +kernel
theorem dX8_countBroken_32 : decode cX8_countBroken 32 = .ok (.aaload, 1) := by decide +kernel
theorem dX8_countBroken_33 : decode cX8_countBroken 33 = .ok (.iload 4, 2) := by decide +kernel
theorem dX8_countBroken_35 : decode cX8_countBroken 35 = .ok (.aload_n 0, 1) := by decide +kernel
theorem dX8_countBroken_36 : decode cX8_countBroken 36 = .ok (.aload_n 1, 1) := by decide +kernel
theorem dX8_countBroken_37 : decode cX8_countBroken 37 = .ok (.iload_n 2, 1) := by decide +kernel
theorem dX8_countBroken_38 : decode cX8_countBroken 38 = .ok (.aload_n 0, 1) := by decide +kernel
theorem dX8_countBroken_39 : decode cX8_countBroken 39 = .ok (.getfield 28, 3) := by decide +kernel
theorem dX8_countBroken_42 : decode cX8_countBroken 42 = .ok (.iload 4, 2) := by decide +kernel
theorem dX8_countBroken_44 : decode cX8_countBroken 44 = .ok (.iaload, 1) := by decide +kernel
theorem dX8_countBroken_45 : decode cX8_countBroken 45 = .ok (.invokevirtual 112, 3) := by decide +kernel
theorem dX8_countBroken_48 : decode cX8_countBroken 48 = .ok (.iastore, 1) := by decide +kernel
theorem dX8_countBroken_49 : decode cX8_countBroken 49 = .ok (.iload_n 3, 1) := by decide +kernel
theorem dX8_countBroken_50 : decode cX8_countBroken 50 = .ok (.aload_n 0, 1) := by decide +kernel
theorem dX8_countBroken_51 : decode cX8_countBroken 51 = .ok (.getfield 39, 3) := by decide +kernel
theorem dX8_countBroken_54 : decode cX8_countBroken 54 = .ok (.iload_n 2, 1) := by decide +kernel
theorem dX8_countBroken_55 : decode cX8_countBroken 55 = .ok (.aaload, 1) := by decide +kernel
theorem dX8_countBroken_56 : decode cX8_countBroken 56 = .ok (.iload 4, 2) := by decide +kernel
theorem dX8_countBroken_58 : decode cX8_countBroken 58 = .ok (.iaload, 1) := by decide +kernel
theorem dX8_countBroken_59 : decode cX8_countBroken 59 = .ok (.invokestatic 116, 3) := by decide +kernel
theorem dX8_countBroken_62 : decode cX8_countBroken 62 = .ok (.istore_n 3, 1) := by decide +kernel
theorem dX8_countBroken_63 : decode cX8_countBroken 63 = .ok (.iinc 4 1, 3) := by decide +kernel
theorem dX8_countBroken_66 : decode cX8_countBroken 66 = .ok (.goto (-48), 3) := by decide +kernel
theorem dX8_countBroken_69 : decode cX8_countBroken 69 = .ok (.aload_n 0, 1) := by decide +kernel
theorem dX8_countBroken_70 : decode cX8_countBroken 70 = .ok (.getfield 42, 3) := by decide +kernel
theorem dX8_countBroken_73 : decode cX8_countBroken 73 = .ok (.iload_n 2, 1) := by decide +kernel
theorem dX8_countBroken_74 : decode cX8_countBroken 74 = .ok (.aload_n 0, 1) := by decide +kernel
theorem dX8_countBroken_75 : decode cX8_countBroken 75 = .ok (.getfield 42, 3) := by decide +kernel
theorem dX8_countBroken_78 : decode cX8_countBroken 78 = .ok (.iload_n 2, 1) := by decide +kernel
theorem dX8_countBroken_79 : decode cX8_countBroken 79 = .ok (.iconst 1, 1) := by decide +kernel
theorem dX8_countBroken_80 : decode cX8_countBroken 80 = .ok (.iadd, 1) := by decide +kernel
theorem dX8_countBroken_81 : decode cX8_countBroken 81 = .ok (.iaload, 1) := by decide +kernel
theorem dX8_countBroken_82 : decode cX8_countBroken 82 = .ok (.iload_n 3, 1) := by decide +kernel
theorem dX8_countBroken_83 : decode cX8_countBroken 83 = .ok (.iadd, 1) := by decide +kernel
theorem dX8_countBroken_84 : decode cX8_countBroken 84 = .ok (.iastore, 1) := by decide +kernel
theorem dX8_countBroken_85 : decode cX8_countBroken 85 = .ok (.iinc 2 (-1), 3) := by decide +kernel
theorem dX8_countBroken_88 : decode cX8_countBroken 88 = .ok (.goto (-79), 3) := by decide +kernel
theorem dX8_countBroken_91 : decode cX8_countBroken 91 = .ok (.return_, 1) := by decide +kernel
theorem dX8_brokenOn_0 : decode cX8_brokenOn 0 = .ok (.iconst 0, 1) := by decide +kernel
theorem dX8_brokenOn_1 : decode cX8_brokenOn 1 = .ok (.istore 4, 2) := by decide +kernel
theorem dX8_brokenOn_3 : decode cX8_brokenOn 3 = .ok (.iconst 0, 1) := by decide +kernel
theorem dX8_brokenOn_4 : decode cX8_brokenOn 4 = .ok (.istore 5, 2) := by decide +kernel
theorem dX8_brokenOn_6 : decode cX8_brokenOn 6 = .ok (.iload 5, 2) := by decide +kernel
theorem dX8_brokenOn_8 : decode cX8_brokenOn 8 = .ok (.iconst 4, 1) := by decide +kernel
theorem dX8_brokenOn_9 : decode cX8_brokenOn 9 = .ok (.if_icmp .ge 50, 3) := by decide +kernel
theorem dX8_brokenOn_12 : decode cX8_brokenOn 12 = .ok (.iload_n 3, 1) := by decide +kernel
theorem dX8_brokenOn_13 : decode cX8_brokenOn 13 = .ok (.iload 5, 2) := by decide +kernel
theorem dX8_brokenOn_15 : decode cX8_brokenOn 15 = .ok (.invokestatic 88, 3) := by decide +kernel
theorem dX8_brokenOn_18 : decode cX8_brokenOn 18 = .ok (.istore 6, 2) := by decide +kernel
theorem dX8_brokenOn_20 : decode cX8_brokenOn 20 = .ok (.iload 4, 2) := by decide +kernel
theorem dX8_brokenOn_22 : decode cX8_brokenOn 22 = .ok (.iload 6, 2) := by decide +kernel
theorem dX8_brokenOn_24 : decode cX8_brokenOn 24 = .ok (.iconst 3, 1) := by decide +kernel
theorem dX8_brokenOn_25 : decode cX8_brokenOn 25 = .ok (.if_icmp .eq 24, 3) := by decide +kernel
theorem dX8_brokenOn_28 : decode cX8_brokenOn 28 = .ok (.aload_n 1, 1) := by decide +kernel
theorem dX8_brokenOn_29 : decode cX8_brokenOn 29 = .ok (.aload_n 0, 1) := by decide +kernel
theorem dX8_brokenOn_30 : decode cX8_brokenOn 30 = .ok (.getfield 15, 3) := by decide +kernel
theorem dX8_brokenOn_33 : decode cX8_brokenOn 33 = .ok (.iload 5, 2) := by decide +kernel
theorem dX8_brokenOn_35 : decode cX8_brokenOn 35 = .ok (.iaload, 1) := by decide +kernel
theorem dX8_brokenOn_36 : decode cX8_brokenOn 36 = .ok (.iload_n 2, 1) := by decide +kernel
theorem dX8_brokenOn_37 : decode cX8_brokenOn 37 = .ok (.iload 6, 2) := by decide +kernel
theorem dX8_brokenOn_39 : decode cX8_brokenOn 39 = .ok (.invokevirtual 121, 3) := by decide +kernel
theorem dX8_brokenOn_42 : decode cX8_brokenOn 42 = .ok (.ifCond .eq 7, 3) := by decide +kernel
theorem dX8_brokenOn_45 : decode cX8_brokenOn 45 = .ok (.iconst 1, 1) := by decide +kernel
theorem dX8_brokenOn_46 : decode cX8_brokenOn 46 = .ok (.goto 4, 3) := by decide +kernel
theorem dX8_brokenOn_49 : decode cX8_brokenOn 49 = .ok (.iconst 0, 1) := by decide +kernel
theorem dX8_brokenOn_50 : decode cX8_brokenOn 50 = .ok (.iadd, 1) := by decide +kernel
theorem dX8_brokenOn_51 : decode cX8_brokenOn 51 = .ok (.istore 4, 2) := by decide +kernel
theorem dX8_brokenOn_53 : decode cX8_brokenOn 53 = .ok (.iinc 5 1, 3) := by decide +kernel
theorem dX8_brokenOn_56 : decode cX8_brokenOn 56 = .ok (.goto (-50), 3) := by decide +kernel
theorem dX8_brokenOn_59 : decode cX8_brokenOn 59 = .ok (.iload 4, 2) := by decide +kernel
theorem dX8_brokenOn_61 : decode cX8_brokenOn 61 = .ok (.ireturn, 1) := by decide +kernel
theorem dX8_countNoneBroken_0 : decode cX8_countNoneBroken 0 = .ok (.iconst 0, 1) := by decide +kernel
theorem dX8_countNoneBroken_1 : decode cX8_countNoneBroken 1 = .ok (.istore_n 1, 1) := by decide +kernel
theorem dX8_countNoneBroken_2 : decode cX8_countNoneBroken 2 = .ok (.iload_n 1, 1) := by decide +kernel
theorem dX8_countNoneBroken_3 : decode cX8_countNoneBroken 3 = .ok (.iconst 4, 1) := by decide +kernel
theorem dX8_countNoneBroken_4 : decode cX8_countNoneBroken 4 = .ok (.if_icmp .ge 41, 3) := by decide +kernel
theorem dX8_countNoneBroken_7 : decode cX8_countNoneBroken 7 = .ok (.aload_n 0, 1) := by decide +kernel
theorem dX8_countNoneBroken_8 : decode cX8_countNoneBroken 8 = .ok (.getfield 42, 3) := by decide +kernel
theorem dX8_countNoneBroken_11 : decode cX8_countNoneBroken 11 = .ok (.iload_n 1, 1) := by decide +kernel
theorem dX8_countNoneBroken_12 : decode cX8_countNoneBroken 12 = .ok (.iconst 0, 1) := by decide +kernel
theorem dX8_countNoneBroken_13 : decode cX8_countNoneBroken 13 = .ok (.iastore, 1) := by decide +kernel
theorem dX8_countNoneBroken_14 : decode cX8_countNoneBroken 14 = .ok (.iconst 0, 1) := by decide +kernel
theorem dX8_countNoneBroken_15 : decode cX8_countNoneBroken 15 = .ok (.istore_n 2, 1) := by decide +kernel
theorem dX8_countNoneBroken_16 : decode cX8_countNoneBroken 16 = .ok (.iload_n 2, 1) := by decide +kernel
theorem dX8_countNoneBroken_17 : decode cX8_countNoneBroken 17 = .ok (.aload_n 0, 1) := by decide +kernel
theorem dX8_countNoneBroken_18 : decode cX8_countNoneBroken 18 = .ok (.getfield 25, 3) := by decide +kernel
theorem dX8_countNoneBroken_21 : decode cX8_countNoneBroken 21 = .ok (.if_icmp .ge 18, 3) := by decide +kernel
theorem dX8_countNoneBroken_24 : decode cX8_countNoneBroken 24 = .ok (.aload_n 0, 1) := by decide +kernel
theorem dX8_countNoneBroken_25 : decode cX8_countNoneBroken 25 = .ok (.getfield 39, 3) := by decide +kernel
theorem dX8_countNoneBroken_28 : decode cX8_countNoneBroken 28 = .ok (.iload_n 1, 1) := by decide +kernel
theorem dX8_countNoneBroken_29 : decode cX8_countNoneBroken 29 = .ok (.aaload, 1) := by decide +kernel
theorem dX8_countNoneBroken_30 : decode cX8_countNoneBroken 30 = .ok (.iload_n 2, 1) := by decide +kernel
theorem dX8_countNoneBroken_31 : decode cX8_countNoneBroken 31 = .ok (.iconst 0, 1) := by decide +kernel
theorem dX8_countNoneBroken_32 : decode cX8_countNoneBroken 32 = .ok (.iastore, 1) := by decide +kernel
theorem dX8_countNoneBroken_33 : decode cX8_countNoneBroken 33 = .ok (.iinc 2 1, 3) := by decide +kernel
theorem dX8_countNoneBroken_36 : decode cX8_countNoneBroken 36 = .ok (.goto (-20), 3) := by decide +kernel
theorem dX8_countNoneBroken_39 : decode cX8_countNoneBroken 39 = .ok (.iinc 1 1, 3) := by decide +kernel
theorem dX8_countNoneBroken_42 : decode cX8_countNoneBroken 42 = .ok (.goto (-40), 3) := by decide +kernel
theorem dX8_countNoneBroken_45 : decode cX8_countNoneBroken 45 = .ok (.aload_n 0, 1) := by decide +kernel
theorem dX8_countNoneBroken_46 : decode cX8_countNoneBroken 46 = .ok (.getfield 42, 3) := by decide +kernel
theorem dX8_countNoneBroken_49 : decode cX8_countNoneBroken 49 = .ok (.iconst 4, 1) := by decide +kernel
theorem dX8_countNoneBroken_50 : decode cX8_countNoneBroken 50 = .ok (.iconst 0, 1) := by decide +kernel
theorem dX8_countNoneBroken_51 : decode cX8_countNoneBroken 51 = .ok (.iastore, 1) := by decide +kernel
theorem dX8_countNoneBroken_52 : decode cX8_countNoneBroken 52 = .ok (.return_, 1) := by decide +kernel
theorem dX8_search_0 : decode cX8_search 0 = .ok (.aload_n 0, 1) := by decide +kernel
theorem dX8_search_1 : decode cX8_search 1 = .ok (.bipush (-9), 2) := by decide +kernel
theorem dX8_search_3 : decode cX8_search 3 = .ok (.putfield 51, 3) := by decide +kernel
theorem dX8_search_6 : decode cX8_search 6 = .ok (.iconst 0, 1) := by decide +kernel
theorem dX8_search_7 : decode cX8_search 7 = .ok (.istore_n 1, 1) := by decide +kernel
theorem dX8_search_8 : decode cX8_search 8 = .ok (.iload_n 1, 1) := by decide +kernel
theorem dX8_search_9 : decode cX8_search 9 = .ok (.sipush 1024, 3) := by decide +kernel
theorem dX8_search_12 : decode cX8_search 12 = .ok (.if_icmp .ge 18, 3) := by decide +kernel
theorem dX8_search_15 : decode cX8_search 15 = .ok (.aload_n 0, 1) := by decide +kernel
theorem dX8_search_16 : decode cX8_search 16 = .ok (.getfield 54, 3) := by decide +kernel
theorem dX8_search_19 : decode cX8_search 19 = .ok (.iload_n 1, 1) := by decide +kernel
theorem dX8_search_20 : decode cX8_search 20 = .ok (.ldc2_w 125, 3) := by decide +kernel
theorem dX8_search_23 : decode cX8_search 23 = .ok (.lastore, 1) := by decide +kernel
theorem dX8_search_24 : decode cX8_search 24 = .ok (.iinc 1 1, 3) := by decide +kernel
theorem dX8_search_27 : decode cX8_search 27 = .ok (.goto (-19), 3) := by decide +kernel
theorem dX8_search_30 : decode cX8_search 30 = .ok (.aload_n 0, 1) := by decide +kernel
theorem dX8_search_31 : decode cX8_search 31 = .ok (.iconst 0, 1) := by decide +kernel
theorem dX8_search_32 : decode cX8_search 32 = .ok (.iconst 0, 1) := by decide +kernel
theorem dX8_search_33 : decode cX8_search 33 = .ok (.iconst 0, 1) := by decide +kernel
theorem dX8_search_34 : decode cX8_search 34 = .ok (.iconst 0, 1) := by decide +kernel
theorem dX8_search_35 : decode cX8_search 35 = .ok (.invokevirtual 127, 3) := by decide +kernel
theorem dX8_search_38 : decode cX8_search 38 = .ok (.return_, 1) := by decide +kernel
theorem dX8_searchFrom_0 : decode cX8_searchFrom 0 = .ok (.iload_n 1, 1) := by decide +kernel
theorem dX8_searchFrom_1 : decode cX8_searchFrom 1 = .ok (.iconst 4, 1) := by decide +kernel
theorem dX8_searchFrom_2 : decode cX8_searchFrom 2 = .ok (.if_icmp .gt 28, 3) := by decide +kernel
theorem dX8_searchFrom_5 : decode cX8_searchFrom 5 = .ok (.aload_n 0, 1) := by decide +kernel
theorem dX8_searchFrom_6 : decode cX8_searchFrom 6 = .ok (.getfield 51, 3) := by decide +kernel
theorem dX8_searchFrom_9 : decode cX8_searchFrom 9 = .ok (.bipush (-9), 2) := by decide +kernel
theorem dX8_searchFrom_11 : decode cX8_searchFrom 11 = .ok (.if_icmp .eq 20, 3) := by decide +kernel
theorem dX8_searchFrom_14 : decode cX8_searchFrom 14 = .ok (.iload 4, 2) := by decide +kernel
theorem dX8_searchFrom_16 : decode cX8_searchFrom 16 = .ok (.aload_n 0, 1) := by decide +kernel
theorem dX8_searchFrom_17 : decode cX8_searchFrom 17 = .ok (.getfield 42, 3) := by decide +kernel
theorem dX8_searchFrom_20 : decode cX8_searchFrom 20 = .ok (.iload_n 1, 1) := by decide +kernel
theorem dX8_searchFrom_21 : decode cX8_searchFrom 21 = .ok (.iaload, 1) := by decide +kernel
theorem dX8_searchFrom_22 : decode cX8_searchFrom 22 = .ok (.iadd, 1) := by decide +kernel
theorem dX8_searchFrom_23 : decode cX8_searchFrom 23 = .ok (.aload_n 0, 1) := by decide +kernel
theorem dX8_searchFrom_24 : decode cX8_searchFrom 24 = .ok (.getfield 51, 3) := by decide +kernel
theorem dX8_searchFrom_27 : decode cX8_searchFrom 27 = .ok (.if_icmp .lt 4, 3) := by decide +kernel
theorem dX8_searchFrom_30 : decode cX8_searchFrom 30 = .ok (.return_, 1) := by decide +kernel
theorem dX8_searchFrom_31 : decode cX8_searchFrom 31 = .ok (.iload_n 1, 1) := by decide +kernel
theorem dX8_searchFrom_32 : decode cX8_searchFrom 32 = .ok (.iconst 4, 1) := by decide +kernel
theorem dX8_searchFrom_33 : decode cX8_searchFrom 33 = .ok (.if_icmp .ne 12, 3) := by decide +kernel
theorem dX8_searchFrom_36 : decode cX8_searchFrom 36 = .ok (.aload_n 0, 1) := by decide +kernel
theorem dX8_searchFrom_37 : decode cX8_searchFrom 37 = .ok (.iload 4, 2) := by decide +kernel
theorem dX8_searchFrom_39 : decode cX8_searchFrom 39 = .ok (.invokevirtual 131, 3) := by decide +kernel
theorem dX8_searchFrom_42 : decode cX8_searchFrom 42 = .ok (.goto 36, 3) := by decide +kernel
theorem dX8_searchFrom_45 : decode cX8_searchFrom 45 = .ok (.aload_n 0, 1) := by decide +kernel
theorem dX8_searchFrom_46 : decode cX8_searchFrom 46 = .ok (.iload_n 3, 1) := by decide +kernel
theorem dX8_searchFrom_47 : decode cX8_searchFrom 47 = .ok (.i2l, 1) := by decide +kernel
theorem dX8_searchFrom_48 : decode cX8_searchFrom 48 = .ok (.bipush 24, 2) := by decide +kernel
theorem dX8_searchFrom_50 : decode cX8_searchFrom 50 = .ok (.lshl, 1) := by decide +kernel
theorem dX8_searchFrom_51 : decode cX8_searchFrom 51 = .ok (.iload_n 2, 1) := by decide +kernel
theorem dX8_searchFrom_52 : decode cX8_searchFrom 52 = .ok (.i2l, 1) := by decide +kernel
theorem dX8_searchFrom_53 : decode cX8_searchFrom 53 = .ok (.lor, 1) := by decide +kernel
theorem dX8_searchFrom_54 : decode cX8_searchFrom 54 = .ok (.ldc2_w 135, 3) := by decide +kernel
theorem dX8_searchFrom_57 : decode cX8_searchFrom 57 = .ok (.lmul, 1) := by decide +kernel
theorem dX8_searchFrom_58 : decode cX8_searchFrom 58 = .ok (.iload_n 1, 1) := by decide +kernel
theorem dX8_searchFrom_59 : decode cX8_searchFrom 59 = .ok (.i2l, 1) := by decide +kernel
theorem dX8_searchFrom_60 : decode cX8_searchFrom 60 = .ok (.ladd, 1) := by decide +kernel
theorem dX8_searchFrom_61 : decode cX8_searchFrom 61 = .ok (.iload 4, 2) := by decide +kernel
theorem dX8_searchFrom_63 : decode cX8_searchFrom 63 = .ok (.invokevirtual 137, 3) := by decide +kernel
theorem dX8_searchFrom_66 : decode cX8_searchFrom 66 = .ok (.ifCond .ne 12, 3) := by decide +kernel
theorem dX8_searchFrom_69 : decode cX8_searchFrom 69 = .ok (.aload_n 0, 1) := by decide +kernel
theorem dX8_searchFrom_70 : decode cX8_searchFrom 70 = .ok (.iload_n 1, 1) := by decide +kernel
theorem dX8_searchFrom_71 : decode cX8_searchFrom 71 = .ok (.iload_n 2, 1) := by decide +kernel
theorem dX8_searchFrom_72 : decode cX8_searchFrom 72 = .ok (.iload_n 3, 1) := by decide +kernel
theorem dX8_searchFrom_73 : decode cX8_searchFrom 73 = .ok (.iload 4, 2) := by decide +kernel
theorem dX8_searchFrom_75 : decode cX8_searchFrom 75 = .ok (.invokevirtual 141, 3) := by decide +kernel
theorem dX8_searchFrom_78 : decode cX8_searchFrom 78 = .ok (.return_, 1) := by decide +kernel
theorem dX8_searchOn_0 : decode cX8_searchOn 0 = .ok (.iconst 0, 1) := by decide +kernel
theorem dX8_searchOn_1 : decode cX8_searchOn 1 = .ok (.istore 5, 2) := by decide +kernel
theorem dX8_searchOn_3 : decode cX8_searchOn 3 = .ok (.iload 5, 2) := by decide +kernel
theorem dX8_searchOn_5 : decode cX8_searchOn 5 = .ok (.aload_n 0, 1) := by decide +kernel
theorem dX8_searchOn_6 : decode cX8_searchOn 6 = .ok (.getfield 25, 3) := by decide +kernel
theorem dX8_searchOn_9 : decode cX8_searchOn 9 = .ok (.if_icmp .ge 110, 3) := by decide +kernel
theorem dX8_searchOn_12 : decode cX8_searchOn 12 = .ok (.iload_n 3, 1) := by decide +kernel
theorem dX8_searchOn_13 : decode cX8_searchOn 13 = .ok (.aload_n 0, 1) := by decide +kernel
theorem dX8_searchOn_14 : decode cX8_searchOn 14 = .ok (.getfield 34, 3) := by decide +kernel
theorem dX8_searchOn_17 : decode cX8_searchOn 17 = .ok (.iload 5, 2) := by decide +kernel
theorem dX8_searchOn_19 : decode cX8_searchOn 19 = .ok (.iaload, 1) := by decide +kernel
theorem dX8_searchOn_20 : decode cX8_searchOn 20 = .ok (.iand, 1) := by decide +kernel
theorem dX8_searchOn_21 : decode cX8_searchOn 21 = .ok (.ifCond .eq 6, 3) := by decide +kernel
theorem dX8_searchOn_24 : decode cX8_searchOn 24 = .ok (.goto 89, 3) := by decide +kernel
theorem dX8_searchOn_27 : decode cX8_searchOn 27 = .ok (.iload_n 2, 1) := by decide +kernel
theorem dX8_searchOn_28 : decode cX8_searchOn 28 = .ok (.aload_n 0, 1) := by decide +kernel
theorem dX8_searchOn_29 : decode cX8_searchOn 29 = .ok (.iload 5, 2) := by decide +kernel
theorem dX8_searchOn_31 : decode cX8_searchOn 31 = .ok (.invokevirtual 144, 3) := by decide +kernel
theorem dX8_searchOn_34 : decode cX8_searchOn 34 = .ok (.iadd, 1) := by decide +kernel
theorem dX8_searchOn_35 : decode cX8_searchOn 35 = .ok (.istore 6, 2) := by decide +kernel
theorem dX8_searchOn_37 : decode cX8_searchOn 37 = .ok (.aload_n 0, 1) := by decide +kernel
theorem dX8_searchOn_38 : decode cX8_searchOn 38 = .ok (.iload 6, 2) := by decide +kernel
theorem dX8_searchOn_40 : decode cX8_searchOn 40 = .ok (.invokevirtual 148, 3) := by decide +kernel
theorem dX8_searchOn_43 : decode cX8_searchOn 43 = .ok (.ifCond .ne 70, 3) := by decide +kernel
theorem dX8_searchOn_46 : decode cX8_searchOn 46 = .ok (.iload 6, 2) := by decide +kernel
theorem dX8_searchOn_48 : decode cX8_searchOn 48 = .ok (.iconst 3, 1) := by decide +kernel
theorem dX8_searchOn_49 : decode cX8_searchOn 49 = .ok (.iload_n 1, 1) := by decide +kernel
theorem dX8_searchOn_50 : decode cX8_searchOn 50 = .ok (.isub, 1) := by decide +kernel
theorem dX8_searchOn_51 : decode cX8_searchOn 51 = .ok (.invokestatic 151, 3) := by decide +kernel
theorem dX8_searchOn_54 : decode cX8_searchOn 54 = .ok (.ifCond .eq 6, 3) := by decide +kernel
theorem dX8_searchOn_57 : decode cX8_searchOn 57 = .ok (.goto 56, 3) := by decide +kernel
theorem dX8_searchOn_60 : decode cX8_searchOn 60 = .ok (.aload_n 0, 1) := by decide +kernel
theorem dX8_searchOn_61 : decode cX8_searchOn 61 = .ok (.getfield 45, 3) := by decide +kernel
theorem dX8_searchOn_64 : decode cX8_searchOn 64 = .ok (.iload_n 1, 1) := by decide +kernel
theorem dX8_searchOn_65 : decode cX8_searchOn 65 = .ok (.iload 5, 2) := by decide +kernel
theorem dX8_searchOn_67 : decode cX8_searchOn 67 = .ok (.iastore, 1) := by decide +kernel
theorem dX8_searchOn_68 : decode cX8_searchOn 68 = .ok (.aload_n 0, 1) := by decide +kernel
theorem dX8_searchOn_69 : decode cX8_searchOn 69 = .ok (.getfield 18, 3) := by decide +kernel
theorem dX8_searchOn_72 : decode cX8_searchOn 72 = .ok (.iconst 1, 1) := by decide +kernel
theorem dX8_searchOn_73 : decode cX8_searchOn 73 = .ok (.iand, 1) := by decide +kernel
theorem dX8_searchOn_74 : decode cX8_searchOn 74 = .ok (.ifCond .eq 13, 3) := by decide +kernel
theorem dX8_searchOn_77 : decode cX8_searchOn 77 = .ok (.aload_n 0, 1) := by decide +kernel
theorem dX8_searchOn_78 : decode cX8_searchOn 78 = .ok (.getfield 31, 3) := by decide +kernel
theorem dX8_searchOn_81 : decode cX8_searchOn 81 = .ok (.iload 5, 2) := by decide +kernel
theorem dX8_searchOn_83 : decode cX8_searchOn 83 = .ok (.iaload, 1) := by decide +kernel
theorem dX8_searchOn_84 : decode cX8_searchOn 84 = .ok (.goto 4, 3) := by decide +kernel
theorem dX8_searchOn_87 : decode cX8_searchOn 87 = .ok (.iconst 0, 1) := by decide +kernel
theorem dX8_searchOn_88 : decode cX8_searchOn 88 = .ok (.istore 7, 2) := by decide +kernel
theorem dX8_searchOn_90 : decode cX8_searchOn 90 = .ok (.aload_n 0, 1) := by decide +kernel
theorem dX8_searchOn_91 : decode cX8_searchOn 91 = .ok (.iload_n 1, 1) := by decide +kernel
theorem dX8_searchOn_92 : decode cX8_searchOn 92 = .ok (.iconst 1, 1) := by decide +kernel
theorem dX8_searchOn_93 : decode cX8_searchOn 93 = .ok (.iadd, 1) := by decide +kernel
theorem dX8_searchOn_94 : decode cX8_searchOn 94 = .ok (.iload 6, 2) := by decide +kernel
theorem dX8_searchOn_96 : decode cX8_searchOn 96 = .ok (.iload 7, 2) := by decide +kernel
theorem dX8_searchOn_98 : decode cX8_searchOn 98 = .ok (.iload 4, 2) := by decide +kernel
theorem dX8_searchOn_100 : decode cX8_searchOn 100 = .ok (.aload_n 0, 1) := by decide +kernel
theorem dX8_searchOn_101 : decode cX8_searchOn 101 = .ok (.getfield 39, 3) := by decide +kernel
theorem dX8_searchOn_104 : decode cX8_searchOn 104 = .ok (.iload_n 1, 1) := by decide +kernel
theorem dX8_searchOn_105 : decode cX8_searchOn 105 = .ok (.aaload, 1) := by decide +kernel
theorem dX8_searchOn_106 : decode cX8_searchOn 106 = .ok (.iload 5, 2) := by decide +kernel
theorem dX8_searchOn_108 : decode cX8_searchOn 108 = .ok (.iaload, 1) := by decide +kernel
theorem dX8_searchOn_109 : decode cX8_searchOn 109 = .ok (.iadd, 1) := by decide +kernel
theorem dX8_searchOn_110 : decode cX8_searchOn 110 = .ok (.invokevirtual 127, 3) := by decide +kernel
theorem dX8_searchOn_113 : decode cX8_searchOn 113 = .ok (.iinc 5 1, 3) := by decide +kernel
theorem dX8_searchOn_116 : decode cX8_searchOn 116 = .ok (.goto (-113), 3) := by decide +kernel
theorem dX8_searchOn_119 : decode cX8_searchOn 119 = .ok (.return_, 1) := by decide +kernel
theorem dX8_countedBy_0 : decode cX8_countedBy 0 = .ok (.aload_n 0, 1) := by decide +kernel
theorem dX8_countedBy_1 : decode cX8_countedBy 1 = .ok (.getfield 18, 3) := by decide +kernel
theorem dX8_countedBy_4 : decode cX8_countedBy 4 = .ok (.iconst 4, 1) := by decide +kernel
theorem dX8_countedBy_5 : decode cX8_countedBy 5 = .ok (.iand, 1) := by decide +kernel
theorem dX8_countedBy_6 : decode cX8_countedBy 6 = .ok (.ifCond .eq 12, 3) := by decide +kernel
theorem dX8_countedBy_9 : decode cX8_countedBy 9 = .ok (.aload_n 0, 1) := by decide +kernel
theorem dX8_countedBy_10 : decode cX8_countedBy 10 = .ok (.getfield 31, 3) := by decide +kernel
theorem dX8_countedBy_13 : decode cX8_countedBy 13 = .ok (.iload_n 1, 1) := by decide +kernel
theorem dX8_countedBy_14 : decode cX8_countedBy 14 = .ok (.iaload, 1) := by decide +kernel
theorem dX8_countedBy_15 : decode cX8_countedBy 15 = .ok (.goto 4, 3) := by decide +kernel
theorem dX8_countedBy_18 : decode cX8_countedBy 18 = .ok (.iconst 0, 1) := by decide +kernel
theorem dX8_countedBy_19 : decode cX8_countedBy 19 = .ok (.istore_n 2, 1) := by decide +kernel
theorem dX8_countedBy_20 : decode cX8_countedBy 20 = .ok (.aload_n 0, 1) := by decide +kernel
theorem dX8_countedBy_21 : decode cX8_countedBy 21 = .ok (.getfield 18, 3) := by decide +kernel
theorem dX8_countedBy_24 : decode cX8_countedBy 24 = .ok (.iconst 2, 1) := by decide +kernel
theorem dX8_countedBy_25 : decode cX8_countedBy 25 = .ok (.iand, 1) := by decide +kernel
theorem dX8_countedBy_26 : decode cX8_countedBy 26 = .ok (.ifCond .eq 24, 3) := by decide +kernel
theorem dX8_countedBy_29 : decode cX8_countedBy 29 = .ok (.iload_n 2, 1) := by decide +kernel
theorem dX8_countedBy_30 : decode cX8_countedBy 30 = .ok (.aload_n 0, 1) := by decide +kernel
theorem dX8_countedBy_31 : decode cX8_countedBy 31 = .ok (.getfield 31, 3) := by decide +kernel
theorem dX8_countedBy_34 : decode cX8_countedBy 34 = .ok (.iload_n 1, 1) := by decide +kernel
theorem dX8_countedBy_35 : decode cX8_countedBy 35 = .ok (.iaload, 1) := by decide +kernel
theorem dX8_countedBy_36 : decode cX8_countedBy 36 = .ok (.aload_n 0, 1) := by decide +kernel
theorem dX8_countedBy_37 : decode cX8_countedBy 37 = .ok (.getfield 34, 3) := by decide +kernel
theorem dX8_countedBy_40 : decode cX8_countedBy 40 = .ok (.iload_n 1, 1) := by decide +kernel
theorem dX8_countedBy_41 : decode cX8_countedBy 41 = .ok (.iaload, 1) := by decide +kernel
theorem dX8_countedBy_42 : decode cX8_countedBy 42 = .ok (.ior, 1) := by decide +kernel
theorem dX8_countedBy_43 : decode cX8_countedBy 43 = .ok (.bipush 12, 2) := by decide +kernel
theorem dX8_countedBy_45 : decode cX8_countedBy 45 = .ok (.ishl, 1) := by decide +kernel
theorem dX8_countedBy_46 : decode cX8_countedBy 46 = .ok (.ior, 1) := by decide +kernel
theorem dX8_countedBy_47 : decode cX8_countedBy 47 = .ok (.goto 4, 3) := by decide +kernel
theorem dX8_countedBy_50 : decode cX8_countedBy 50 = .ok (.iload_n 2, 1) := by decide +kernel
theorem dX8_countedBy_51 : decode cX8_countedBy 51 = .ok (.ireturn, 1) := by decide +kernel
theorem dX8_hasTooMany_0 : decode cX8_hasTooMany 0 = .ok (.iconst 0, 1) := by decide +kernel
theorem dX8_hasTooMany_1 : decode cX8_hasTooMany 1 = .ok (.istore_n 2, 1) := by decide +kernel
theorem dX8_hasTooMany_2 : decode cX8_hasTooMany 2 = .ok (.iload_n 2, 1) := by decide +kernel
theorem dX8_hasTooMany_3 : decode cX8_hasTooMany 3 = .ok (.iconst 4, 1) := by decide +kernel
theorem dX8_hasTooMany_4 : decode cX8_hasTooMany 4 = .ok (.if_icmp .ge 29, 3) := by decide +kernel
theorem dX8_hasTooMany_7 : decode cX8_hasTooMany 7 = .ok (.iload_n 1, 1) := by decide +kernel
theorem dX8_hasTooMany_8 : decode cX8_hasTooMany 8 = .ok (.bipush 12, 2) := by decide +kernel
theorem dX8_hasTooMany_10 : decode cX8_hasTooMany 10 = .ok (.iconst 3, 1) := by decide +kernel
theorem dX8_hasTooMany_11 : decode cX8_hasTooMany 11 = .ok (.iload_n 2, 1) := by decide +kernel
theorem dX8_hasTooMany_12 : decode cX8_hasTooMany 12 = .ok (.imul, 1) := by decide +kernel
theorem dX8_hasTooMany_13 : decode cX8_hasTooMany 13 = .ok (.iadd, 1) := by decide +kernel
theorem dX8_hasTooMany_14 : decode cX8_hasTooMany 14 = .ok (.ishr, 1) := by decide +kernel
theorem dX8_hasTooMany_15 : decode cX8_hasTooMany 15 = .ok (.bipush 7, 2) := by decide +kernel
theorem dX8_hasTooMany_17 : decode cX8_hasTooMany 17 = .ok (.iand, 1) := by decide +kernel
theorem dX8_hasTooMany_18 : decode cX8_hasTooMany 18 = .ok (.aload_n 0, 1) := by decide +kernel
theorem dX8_hasTooMany_19 : decode cX8_hasTooMany 19 = .ok (.getfield 22, 3) := by decide +kernel
theorem dX8_hasTooMany_22 : decode cX8_hasTooMany 22 = .ok (.if_icmp .le 5, 3) := by decide +kernel
theorem dX8_hasTooMany_25 : decode cX8_hasTooMany 25 = .ok (.iconst 1, 1) := by decide +kernel
theorem dX8_hasTooMany_26 : decode cX8_hasTooMany 26 = .ok (.ireturn, 1) := by decide +kernel
theorem dX8_hasTooMany_27 : decode cX8_hasTooMany 27 = .ok (.iinc 2 1, 3) := by decide +kernel
theorem dX8_hasTooMany_30 : decode cX8_hasTooMany 30 = .ok (.goto (-28), 3) := by decide +kernel
theorem dX8_hasTooMany_33 : decode cX8_hasTooMany 33 = .ok (.iconst 0, 1) := by decide +kernel
theorem dX8_hasTooMany_34 : decode cX8_hasTooMany 34 = .ok (.ireturn, 1) := by decide +kernel
theorem dX8_isUnfair_0 : decode cX8_isUnfair 0 = .ok (.iload_n 0, 1) := by decide +kernel
theorem dX8_isUnfair_1 : decode cX8_isUnfair 1 = .ok (.bipush 7, 2) := by decide +kernel
theorem dX8_isUnfair_3 : decode cX8_isUnfair 3 = .ok (.iand, 1) := by decide +kernel
theorem dX8_isUnfair_4 : decode cX8_isUnfair 4 = .ok (.istore_n 2, 1) := by decide +kernel
theorem dX8_isUnfair_5 : decode cX8_isUnfair 5 = .ok (.iload_n 2, 1) := by decide +kernel
theorem dX8_isUnfair_6 : decode cX8_isUnfair 6 = .ok (.istore_n 3, 1) := by decide +kernel
theorem dX8_isUnfair_7 : decode cX8_isUnfair 7 = .ok (.iconst 1, 1) := by decide +kernel
theorem dX8_isUnfair_8 : decode cX8_isUnfair 8 = .ok (.istore 4, 2) := by decide +kernel
theorem dX8_isUnfair_10 : decode cX8_isUnfair 10 = .ok (.iload 4, 2) := by decide +kernel
theorem dX8_isUnfair_12 : decode cX8_isUnfair 12 = .ok (.iconst 4, 1) := by decide +kernel
theorem dX8_isUnfair_13 : decode cX8_isUnfair 13 = .ok (.if_icmp .ge 34, 3) := by decide +kernel
theorem dX8_isUnfair_16 : decode cX8_isUnfair 16 = .ok (.iload_n 0, 1) := by decide +kernel
theorem dX8_isUnfair_17 : decode cX8_isUnfair 17 = .ok (.iconst 3, 1) := by decide +kernel
theorem dX8_isUnfair_18 : decode cX8_isUnfair 18 = .ok (.iload 4, 2) := by decide +kernel
theorem dX8_isUnfair_20 : decode cX8_isUnfair 20 = .ok (.imul, 1) := by decide +kernel
theorem dX8_isUnfair_21 : decode cX8_isUnfair 21 = .ok (.ishr, 1) := by decide +kernel
theorem dX8_isUnfair_22 : decode cX8_isUnfair 22 = .ok (.bipush 7, 2) := by decide +kernel
theorem dX8_isUnfair_24 : decode cX8_isUnfair 24 = .ok (.iand, 1) := by decide +kernel
theorem dX8_isUnfair_25 : decode cX8_isUnfair 25 = .ok (.istore 5, 2) := by decide +kernel
theorem dX8_isUnfair_27 : decode cX8_isUnfair 27 = .ok (.iload_n 2, 1) := by decide +kernel
theorem dX8_isUnfair_28 : decode cX8_isUnfair 28 = .ok (.iload 5, 2) := by decide +kernel
theorem dX8_isUnfair_30 : decode cX8_isUnfair 30 = .ok (.invokestatic 116, 3) := by decide +kernel
theorem dX8_isUnfair_33 : decode cX8_isUnfair 33 = .ok (.istore_n 2, 1) := by decide +kernel
theorem dX8_isUnfair_34 : decode cX8_isUnfair 34 = .ok (.iload_n 3, 1) := by decide +kernel
theorem dX8_isUnfair_35 : decode cX8_isUnfair 35 = .ok (.iload 5, 2) := by decide +kernel
theorem dX8_isUnfair_37 : decode cX8_isUnfair 37 = .ok (.invokestatic 155, 3) := by decide +kernel
theorem dX8_isUnfair_40 : decode cX8_isUnfair 40 = .ok (.istore_n 3, 1) := by decide +kernel
theorem dX8_isUnfair_41 : decode cX8_isUnfair 41 = .ok (.iinc 4 1, 3) := by decide +kernel
theorem dX8_isUnfair_44 : decode cX8_isUnfair 44 = .ok (.goto (-34), 3) := by decide +kernel
theorem dX8_isUnfair_47 : decode cX8_isUnfair 47 = .ok (.iload_n 3, 1) := by decide +kernel
theorem dX8_isUnfair_48 : decode cX8_isUnfair 48 = .ok (.iload_n 2, 1) := by decide +kernel
theorem dX8_isUnfair_49 : decode cX8_isUnfair 49 = .ok (.isub, 1) := by decide +kernel
theorem dX8_isUnfair_50 : decode cX8_isUnfair 50 = .ok (.iconst 2, 1) := by decide +kernel
theorem dX8_isUnfair_51 : decode cX8_isUnfair 51 = .ok (.iload_n 1, 1) := by decide +kernel
theorem dX8_isUnfair_52 : decode cX8_isUnfair 52 = .ok (.iadd, 1) := by decide +kernel
theorem dX8_isUnfair_53 : decode cX8_isUnfair 53 = .ok (.if_icmp .lt 7, 3) := by decide +kernel
theorem dX8_isUnfair_56 : decode cX8_isUnfair 56 = .ok (.iconst 1, 1) := by decide +kernel
theorem dX8_isUnfair_57 : decode cX8_isUnfair 57 = .ok (.goto 4, 3) := by decide +kernel
theorem dX8_isUnfair_60 : decode cX8_isUnfair 60 = .ok (.iconst 0, 1) := by decide +kernel
theorem dX8_isUnfair_61 : decode cX8_isUnfair 61 = .ok (.ireturn, 1) := by decide +kernel
theorem dX8_keepChosen_0 : decode cX8_keepChosen 0 = .ok (.aload_n 0, 1) := by decide +kernel
theorem dX8_keepChosen_1 : decode cX8_keepChosen 1 = .ok (.iload_n 1, 1) := by decide +kernel
theorem dX8_keepChosen_2 : decode cX8_keepChosen 2 = .ok (.putfield 51, 3) := by decide +kernel
theorem dX8_keepChosen_5 : decode cX8_keepChosen 5 = .ok (.iconst 0, 1) := by decide +kernel
theorem dX8_keepChosen_6 : decode cX8_keepChosen 6 = .ok (.istore_n 2, 1) := by decide +kernel
theorem dX8_keepChosen_7 : decode cX8_keepChosen 7 = .ok (.iload_n 2, 1) := by decide +kernel
theorem dX8_keepChosen_8 : decode cX8_keepChosen 8 = .ok (.iconst 4, 1) := by decide +kernel
theorem dX8_keepChosen_9 : decode cX8_keepChosen 9 = .ok (.if_icmp .ge 21, 3) := by decide +kernel
theorem dX8_keepChosen_12 : decode cX8_keepChosen 12 = .ok (.aload_n 0, 1) := by decide +kernel
theorem dX8_keepChosen_13 : decode cX8_keepChosen 13 = .ok (.getfield 48, 3) := by decide +kernel
theorem dX8_keepChosen_16 : decode cX8_keepChosen 16 = .ok (.iload_n 2, 1) := by decide +kernel
theorem dX8_keepChosen_17 : decode cX8_keepChosen 17 = .ok (.aload_n 0, 1) := by decide +kernel
theorem dX8_keepChosen_18 : decode cX8_keepChosen 18 = .ok (.getfield 45, 3) := by decide +kernel
theorem dX8_keepChosen_21 : decode cX8_keepChosen 21 = .ok (.iload_n 2, 1) := by decide +kernel
theorem dX8_keepChosen_22 : decode cX8_keepChosen 22 = .ok (.iaload, 1) := by decide +kernel
theorem dX8_keepChosen_23 : decode cX8_keepChosen 23 = .ok (.iastore, 1) := by decide +kernel
theorem dX8_keepChosen_24 : decode cX8_keepChosen 24 = .ok (.iinc 2 1, 3) := by decide +kernel
theorem dX8_keepChosen_27 : decode cX8_keepChosen 27 = .ok (.goto (-20), 3) := by decide +kernel
theorem dX8_keepChosen_30 : decode cX8_keepChosen 30 = .ok (.return_, 1) := by decide +kernel
theorem dX8_isSeen_0 : decode cX8_isSeen 0 = .ok (.lload_n 1, 1) := by decide +kernel
theorem dX8_isSeen_1 : decode cX8_isSeen 1 = .ok (.ldc2_w 158, 3) := by decide +kernel
theorem dX8_isSeen_4 : decode cX8_isSeen 4 = .ok (.lmul, 1) := by decide +kernel
theorem dX8_isSeen_5 : decode cX8_isSeen 5 = .ok (.bipush 40, 2) := by decide +kernel
theorem dX8_isSeen_7 : decode cX8_isSeen 7 = .ok (.lushr, 1) := by decide +kernel
theorem dX8_isSeen_8 : decode cX8_isSeen 8 = .ok (.ldc2_w 160, 3) := by decide +kernel
theorem dX8_isSeen_11 : decode cX8_isSeen 11 = .ok (.land, 1) := by decide +kernel
theorem dX8_isSeen_12 : decode cX8_isSeen 12 = .ok (.l2i, 1) := by decide +kernel
theorem dX8_isSeen_13 : decode cX8_isSeen 13 = .ok (.istore 4, 2) := by decide +kernel
theorem dX8_isSeen_15 : decode cX8_isSeen 15 = .ok (.iconst 0, 1) := by decide +kernel
theorem dX8_isSeen_16 : decode cX8_isSeen 16 = .ok (.istore 5, 2) := by decide +kernel
theorem dX8_isSeen_18 : decode cX8_isSeen 18 = .ok (.iload 5, 2) := by decide +kernel
theorem dX8_isSeen_20 : decode cX8_isSeen 20 = .ok (.sipush 1024, 3) := by decide +kernel
theorem dX8_isSeen_23 : decode cX8_isSeen 23 = .ok (.if_icmp .ge 88, 3) := by decide +kernel
theorem dX8_isSeen_26 : decode cX8_isSeen 26 = .ok (.aload_n 0, 1) := by decide +kernel
theorem dX8_isSeen_27 : decode cX8_isSeen 27 = .ok (.getfield 54, 3) := by decide +kernel
theorem dX8_isSeen_30 : decode cX8_isSeen 30 = .ok (.iload 4, 2) := by decide +kernel
theorem dX8_isSeen_32 : decode cX8_isSeen 32 = .ok (.laload, 1) := by decide +kernel
theorem dX8_isSeen_33 : decode cX8_isSeen 33 = .ok (.lload_n 1, 1) := by decide +kernel
theorem dX8_isSeen_34 : decode cX8_isSeen 34 = .ok (.lcmp, 1) := by decide +kernel
theorem dX8_isSeen_35 : decode cX8_isSeen 35 = .ok (.ifCond .ne 16, 3) := by decide +kernel
theorem dX8_isSeen_38 : decode cX8_isSeen 38 = .ok (.aload_n 0, 1) := by decide +kernel
theorem dX8_isSeen_39 : decode cX8_isSeen 39 = .ok (.getfield 58, 3) := by decide +kernel
theorem dX8_isSeen_42 : decode cX8_isSeen 42 = .ok (.iload 4, 2) := by decide +kernel
theorem dX8_isSeen_44 : decode cX8_isSeen 44 = .ok (.iaload, 1) := by decide +kernel
theorem dX8_isSeen_45 : decode cX8_isSeen 45 = .ok (.iload_n 3, 1) := by decide +kernel
theorem dX8_isSeen_46 : decode cX8_isSeen 46 = .ok (.if_icmp .gt 5, 3) := by decide +kernel
theorem dX8_isSeen_49 : decode cX8_isSeen 49 = .ok (.iconst 1, 1) := by decide +kernel
theorem dX8_isSeen_50 : decode cX8_isSeen 50 = .ok (.ireturn, 1) := by decide +kernel
theorem dX8_isSeen_51 : decode cX8_isSeen 51 = .ok (.aload_n 0, 1) := by decide +kernel
theorem dX8_isSeen_52 : decode cX8_isSeen 52 = .ok (.getfield 54, 3) := by decide +kernel
theorem dX8_isSeen_55 : decode cX8_isSeen 55 = .ok (.iload 4, 2) := by decide +kernel
theorem dX8_isSeen_57 : decode cX8_isSeen 57 = .ok (.laload, 1) := by decide +kernel
theorem dX8_isSeen_58 : decode cX8_isSeen 58 = .ok (.lload_n 1, 1) := by decide +kernel
theorem dX8_isSeen_59 : decode cX8_isSeen 59 = .ok (.lcmp, 1) := by decide +kernel
theorem dX8_isSeen_60 : decode cX8_isSeen 60 = .ok (.ifCond .eq 17, 3) := by decide +kernel
theorem dX8_isSeen_63 : decode cX8_isSeen 63 = .ok (.aload_n 0, 1) := by decide +kernel
theorem dX8_isSeen_64 : decode cX8_isSeen 64 = .ok (.getfield 54, 3) := by decide +kernel
theorem dX8_isSeen_67 : decode cX8_isSeen 67 = .ok (.iload 4, 2) := by decide +kernel
theorem dX8_isSeen_69 : decode cX8_isSeen 69 = .ok (.laload, 1) := by decide +kernel
theorem dX8_isSeen_70 : decode cX8_isSeen 70 = .ok (.ldc2_w 125, 3) := by decide +kernel
theorem dX8_isSeen_73 : decode cX8_isSeen 73 = .ok (.lcmp, 1) := by decide +kernel
theorem dX8_isSeen_74 : decode cX8_isSeen 74 = .ok (.ifCond .ne 21, 3) := by decide +kernel
theorem dX8_isSeen_77 : decode cX8_isSeen 77 = .ok (.aload_n 0, 1) := by decide +kernel
theorem dX8_isSeen_78 : decode cX8_isSeen 78 = .ok (.getfield 54, 3) := by decide +kernel
theorem dX8_isSeen_81 : decode cX8_isSeen 81 = .ok (.iload 4, 2) := by decide +kernel
theorem dX8_isSeen_83 : decode cX8_isSeen 83 = .ok (.lload_n 1, 1) := by decide +kernel
theorem dX8_isSeen_84 : decode cX8_isSeen 84 = .ok (.lastore, 1) := by decide +kernel
theorem dX8_isSeen_85 : decode cX8_isSeen 85 = .ok (.aload_n 0, 1) := by decide +kernel
theorem dX8_isSeen_86 : decode cX8_isSeen 86 = .ok (.getfield 58, 3) := by decide +kernel
theorem dX8_isSeen_89 : decode cX8_isSeen 89 = .ok (.iload 4, 2) := by decide +kernel
theorem dX8_isSeen_91 : decode cX8_isSeen 91 = .ok (.iload_n 3, 1) := by decide +kernel
theorem dX8_isSeen_92 : decode cX8_isSeen 92 = .ok (.iastore, 1) := by decide +kernel
theorem dX8_isSeen_93 : decode cX8_isSeen 93 = .ok (.iconst 0, 1) := by decide +kernel
theorem dX8_isSeen_94 : decode cX8_isSeen 94 = .ok (.ireturn, 1) := by decide +kernel
theorem dX8_isSeen_95 : decode cX8_isSeen 95 = .ok (.iload 4, 2) := by decide +kernel
theorem dX8_isSeen_97 : decode cX8_isSeen 97 = .ok (.iconst 1, 1) := by decide +kernel
theorem dX8_isSeen_98 : decode cX8_isSeen 98 = .ok (.iadd, 1) := by decide +kernel
theorem dX8_isSeen_99 : decode cX8_isSeen 99 = .ok (.sipush 1023, 3) := by decide +kernel
theorem dX8_isSeen_102 : decode cX8_isSeen 102 = .ok (.iand, 1) := by decide +kernel
theorem dX8_isSeen_103 : decode cX8_isSeen 103 = .ok (.istore 4, 2) := by decide +kernel
theorem dX8_isSeen_105 : decode cX8_isSeen 105 = .ok (.iinc 5 1, 3) := by decide +kernel
theorem dX8_isSeen_108 : decode cX8_isSeen 108 = .ok (.goto (-90), 3) := by decide +kernel
theorem dX8_isSeen_111 : decode cX8_isSeen 111 = .ok (.iconst 0, 1) := by decide +kernel
theorem dX8_isSeen_112 : decode cX8_isSeen 112 = .ok (.ireturn, 1) := by decide +kernel
theorem dX9_init_0 : decode cX9_init 0 = .ok (.aload_n 0, 1) := by decide +kernel
theorem dX9_init_1 : decode cX9_init 1 = .ok (.invokespecial 3, 3) := by decide +kernel
theorem dX9_init_4 : decode cX9_init 4 = .ok (.aload_n 0, 1) := by decide +kernel
theorem dX9_init_5 : decode cX9_init 5 = .ok (.iconst 0, 1) := by decide +kernel
theorem dX9_init_6 : decode cX9_init 6 = .ok (.putfield 9, 3) := by decide +kernel
theorem dX9_init_9 : decode cX9_init 9 = .ok (.aload_n 0, 1) := by decide +kernel
theorem dX9_init_10 : decode cX9_init 10 = .ok (.bipush 24, 2) := by decide +kernel
theorem dX9_init_12 : decode cX9_init 12 = .ok (.newarray .int, 2) := by decide +kernel
theorem dX9_init_14 : decode cX9_init 14 = .ok (.putfield 15, 3) := by decide +kernel
theorem dX9_init_17 : decode cX9_init 17 = .ok (.aload_n 0, 1) := by decide +kernel
theorem dX9_init_18 : decode cX9_init 18 = .ok (.bipush 24, 2) := by decide +kernel
theorem dX9_init_20 : decode cX9_init 20 = .ok (.newarray .boolean, 2) := by decide +kernel
theorem dX9_init_22 : decode cX9_init 22 = .ok (.putfield 19, 3) := by decide +kernel
theorem dX9_init_25 : decode cX9_init 25 = .ok (.aload_n 0, 1) := by decide +kernel
theorem dX9_init_26 : decode cX9_init 26 = .ok (.bipush 24, 2) := by decide +kernel
theorem dX9_init_28 : decode cX9_init 28 = .ok (.newarray .int, 2) := by decide +kernel
theorem dX9_init_30 : decode cX9_init 30 = .ok (.putfield 23, 3) := by decide +kernel
theorem dX9_init_33 : decode cX9_init 33 = .ok (.aload_n 0, 1) := by decide +kernel
theorem dX9_init_34 : decode cX9_init 34 = .ok (.bipush 24, 2) := by decide +kernel
theorem dX9_init_36 : decode cX9_init 36 = .ok (.newarray .int, 2) := by decide +kernel
theorem dX9_init_38 : decode cX9_init 38 = .ok (.putfield 26, 3) := by decide +kernel
theorem dX9_init_41 : decode cX9_init 41 = .ok (.aload_n 0, 1) := by decide +kernel
theorem dX9_init_42 : decode cX9_init 42 = .ok (.bipush 24, 2) := by decide +kernel
theorem dX9_init_44 : decode cX9_init 44 = .ok (.newarray .int, 2) := by decide +kernel
theorem dX9_init_46 : decode cX9_init 46 = .ok (.putfield 29, 3) := by decide +kernel
theorem dX9_init_49 : decode cX9_init 49 = .ok (.aload_n 0, 1) := by decide +kernel
theorem dX9_init_50 : decode cX9_init 50 = .ok (.bipush 24, 2) := by decide +kernel
theorem dX9_init_52 : decode cX9_init 52 = .ok (.newarray .int, 2) := by decide +kernel
theorem dX9_init_54 : decode cX9_init 54 = .ok (.putfield 32, 3) := by decide +kernel
theorem dX9_init_57 : decode cX9_init 57 = .ok (.aload_n 0, 1) := by decide +kernel
theorem dX9_init_58 : decode cX9_init 58 = .ok (.bipush 24, 2) := by decide +kernel
theorem dX9_init_60 : decode cX9_init 60 = .ok (.newarray .int, 2) := by decide +kernel
theorem dX9_init_62 : decode cX9_init 62 = .ok (.putfield 35, 3) := by decide +kernel
theorem dX9_init_65 : decode cX9_init 65 = .ok (.aload_n 0, 1) := by decide +kernel
theorem dX9_init_66 : decode cX9_init 66 = .ok (.bipush 24, 2) := by decide +kernel
theorem dX9_init_68 : decode cX9_init 68 = .ok (.newarray .int, 2) := by decide +kernel
theorem dX9_init_70 : decode cX9_init 70 = .ok (.putfield 38, 3) := by decide +kernel
theorem dX9_init_73 : decode cX9_init 73 = .ok (.aload_n 0, 1) := by decide +kernel
theorem dX9_init_74 : decode cX9_init 74 = .ok (.bipush 24, 2) := by decide +kernel
theorem dX9_init_76 : decode cX9_init 76 = .ok (.newarray .int, 2) := by decide +kernel
theorem dX9_init_78 : decode cX9_init 78 = .ok (.putfield 41, 3) := by decide +kernel
theorem dX9_init_81 : decode cX9_init 81 = .ok (.aload_n 0, 1) := by decide +kernel
theorem dX9_init_82 : decode cX9_init 82 = .ok (.iconst 4, 1) := by decide +kernel
theorem dX9_init_83 : decode cX9_init 83 = .ok (.newarray .int, 2) := by decide +kernel
theorem dX9_init_85 : decode cX9_init 85 = .ok (.dup, 1) := by decide +kernel
theorem dX9_init_86 : decode cX9_init 86 = .ok (.iconst 0, 1) := by decide +kernel
theorem dX9_init_87 : decode cX9_init 87 = .ok (.iconst 1, 1) := by decide +kernel
theorem dX9_init_88 : decode cX9_init 88 = .ok (.iastore, 1) := by decide +kernel
theorem dX9_init_89 : decode cX9_init 89 = .ok (.dup, 1) := by decide +kernel
theorem dX9_init_90 : decode cX9_init 90 = .ok (.iconst 1, 1) := by decide +kernel
theorem dX9_init_91 : decode cX9_init 91 = .ok (.iconst 1, 1) := by decide +kernel
theorem dX9_init_92 : decode cX9_init 92 = .ok (.iastore, 1) := by decide +kernel
theorem dX9_init_93 : decode cX9_init 93 = .ok (.dup, 1) := by decide +kernel
theorem dX9_init_94 : decode cX9_init 94 = .ok (.iconst 2, 1) := by decide +kernel
theorem dX9_init_95 : decode cX9_init 95 = .ok (.iconst 1, 1) := by decide +kernel
theorem dX9_init_96 : decode cX9_init 96 = .ok (.iastore, 1) := by decide +kernel
theorem dX9_init_97 : decode cX9_init 97 = .ok (.dup, 1) := by decide +kernel
theorem dX9_init_98 : decode cX9_init 98 = .ok (.iconst 3, 1) := by decide +kernel
theorem dX9_init_99 : decode cX9_init 99 = .ok (.iconst 1, 1) := by decide +kernel
theorem dX9_init_100 : decode cX9_init 100 = .ok (.iastore, 1) := by decide +kernel
theorem dX9_init_101 : decode cX9_init 101 = .ok (.putfield 44, 3) := by decide +kernel
theorem dX9_init_104 : decode cX9_init 104 = .ok (.aload_n 0, 1) := by decide +kernel
theorem dX9_init_105 : decode cX9_init 105 = .ok (.bipush (-9), 2) := by decide +kernel
theorem dX9_init_107 : decode cX9_init 107 = .ok (.putfield 47, 3) := by decide +kernel
theorem dX9_init_110 : decode cX9_init 110 = .ok (.return_, 1) := by decide +kernel
theorem dX9_has_0 : decode cX9_has 0 = .ok (.iload_n 1, 1) := by decide +kernel
theorem dX9_has_1 : decode cX9_has 1 = .ok (.ifCond .lt 21, 3) := by decide +kernel
theorem dX9_has_4 : decode cX9_has 4 = .ok (.iload_n 1, 1) := by decide +kernel
theorem dX9_has_5 : decode cX9_has 5 = .ok (.aload_n 0, 1) := by decide +kernel
theorem dX9_has_6 : decode cX9_has 6 = .ok (.getfield 9, 3) := by decide +kernel
theorem dX9_has_9 : decode cX9_has 9 = .ok (.if_icmp .ge 13, 3) := by decide +kernel
theorem dX9_has_12 : decode cX9_has 12 = .ok (.iload_n 1, 1) := by decide +kernel
theorem dX9_has_13 : decode cX9_has 13 = .ok (.bipush 24, 2) := by decide +kernel
theorem dX9_has_15 : decode cX9_has 15 = .ok (.if_icmp .ge 7, 3) := by decide +kernel
theorem dX9_has_18 : decode cX9_has 18 = .ok (.iconst 1, 1) := by decide +kernel
theorem dX9_has_19 : decode cX9_has 19 = .ok (.goto 4, 3) := by decide +kernel
theorem dX9_has_22 : decode cX9_has 22 = .ok (.iconst 0, 1) := by decide +kernel
theorem dX9_has_23 : decode cX9_has 23 = .ok (.ireturn, 1) := by decide +kernel
theorem dX9_add_0 : decode cX9_add 0 = .ok (.aload_n 0, 1) := by decide +kernel
theorem dX9_add_1 : decode cX9_add 1 = .ok (.getfield 9, 3) := by decide +kernel
theorem dX9_add_4 : decode cX9_add 4 = .ok (.bipush 24, 2) := by decide +kernel
theorem dX9_add_6 : decode cX9_add 6 = .ok (.if_icmp .lt 6, 3) := by decide +kernel
theorem dX9_add_9 : decode cX9_add 9 = .ok (.bipush (-6), 2) := by decide +kernel
theorem dX9_add_11 : decode cX9_add 11 = .ok (.ireturn, 1) := by decide +kernel
theorem dX9_add_12 : decode cX9_add 12 = .ok (.aload_n 0, 1) := by decide +kernel
theorem dX9_add_13 : decode cX9_add 13 = .ok (.getfield 15, 3) := by decide +kernel
theorem dX9_add_16 : decode cX9_add 16 = .ok (.aload_n 0, 1) := by decide +kernel
theorem dX9_add_17 : decode cX9_add 17 = .ok (.getfield 9, 3) := by decide +kernel
theorem dX9_add_20 : decode cX9_add 20 = .ok (.iload_n 1, 1) := by decide +kernel
theorem dX9_add_21 : decode cX9_add 21 = .ok (.iastore, 1) := by decide +kernel
theorem dX9_add_22 : decode cX9_add 22 = .ok (.aload_n 0, 1) := by decide +kernel
theorem dX9_add_23 : decode cX9_add 23 = .ok (.getfield 19, 3) := by decide +kernel
theorem dX9_add_26 : decode cX9_add 26 = .ok (.aload_n 0, 1) := by decide +kernel
theorem dX9_add_27 : decode cX9_add 27 = .ok (.getfield 9, 3) := by decide +kernel
theorem dX9_add_30 : decode cX9_add 30 = .ok (.iconst 1, 1) := by decide +kernel
theorem dX9_add_31 : decode cX9_add 31 = .ok (.bastore, 1) := by decide +kernel
theorem dX9_add_32 : decode cX9_add 32 = .ok (.aload_n 0, 1) := by decide +kernel
theorem dX9_add_33 : decode cX9_add 33 = .ok (.getfield 23, 3) := by decide +kernel
theorem dX9_add_36 : decode cX9_add 36 = .ok (.aload_n 0, 1) := by decide +kernel
theorem dX9_add_37 : decode cX9_add 37 = .ok (.getfield 9, 3) := by decide +kernel
theorem dX9_add_40 : decode cX9_add 40 = .ok (.iload_n 2, 1) := by decide +kernel
theorem dX9_add_41 : decode cX9_add 41 = .ok (.iastore, 1) := by decide +kernel
theorem dX9_add_42 : decode cX9_add 42 = .ok (.aload_n 0, 1) := by decide +kernel
theorem dX9_add_43 : decode cX9_add 43 = .ok (.getfield 26, 3) := by decide +kernel
theorem dX9_add_46 : decode cX9_add 46 = .ok (.aload_n 0, 1) := by decide +kernel
theorem dX9_add_47 : decode cX9_add 47 = .ok (.getfield 9, 3) := by decide +kernel
theorem dX9_add_50 : decode cX9_add 50 = .ok (.iload_n 3, 1) := by decide +kernel
theorem dX9_add_51 : decode cX9_add 51 = .ok (.iastore, 1) := by decide +kernel
theorem dX9_add_52 : decode cX9_add 52 = .ok (.aload_n 0, 1) := by decide +kernel
theorem dX9_add_53 : decode cX9_add 53 = .ok (.getfield 29, 3) := by decide +kernel
theorem dX9_add_56 : decode cX9_add 56 = .ok (.aload_n 0, 1) := by decide +kernel
theorem dX9_add_57 : decode cX9_add 57 = .ok (.getfield 9, 3) := by decide +kernel
theorem dX9_add_60 : decode cX9_add 60 = .ok (.iload 4, 2) := by decide +kernel
theorem dX9_add_62 : decode cX9_add 62 = .ok (.iastore, 1) := by decide +kernel
theorem dX9_add_63 : decode cX9_add 63 = .ok (.aload_n 0, 1) := by decide +kernel
theorem dX9_add_64 : decode cX9_add 64 = .ok (.getfield 32, 3) := by decide +kernel
theorem dX9_add_67 : decode cX9_add 67 = .ok (.aload_n 0, 1) := by decide +kernel
theorem dX9_add_68 : decode cX9_add 68 = .ok (.getfield 9, 3) := by decide +kernel
theorem dX9_add_71 : decode cX9_add 71 = .ok (.iload 5, 2) := by decide +kernel
theorem dX9_add_73 : decode cX9_add 73 = .ok (.iastore, 1) := by decide +kernel
theorem dX9_add_74 : decode cX9_add 74 = .ok (.aload_n 0, 1) := by decide +kernel
theorem dX9_add_75 : decode cX9_add 75 = .ok (.getfield 35, 3) := by decide +kernel
theorem dX9_add_78 : decode cX9_add 78 = .ok (.aload_n 0, 1) := by decide +kernel
theorem dX9_add_79 : decode cX9_add 79 = .ok (.getfield 9, 3) := by decide +kernel
theorem dX9_add_82 : decode cX9_add 82 = .ok (.iload 4, 2) := by decide +kernel
theorem dX9_add_84 : decode cX9_add 84 = .ok (.iastore, 1) := by decide +kernel
theorem dX9_add_85 : decode cX9_add 85 = .ok (.aload_n 0, 1) := by decide +kernel
theorem dX9_add_86 : decode cX9_add 86 = .ok (.getfield 38, 3) := by decide +kernel
theorem dX9_add_89 : decode cX9_add 89 = .ok (.aload_n 0, 1) := by decide +kernel
theorem dX9_add_90 : decode cX9_add 90 = .ok (.getfield 9, 3) := by decide +kernel
theorem dX9_add_93 : decode cX9_add 93 = .ok (.iload 5, 2) := by decide +kernel
theorem dX9_add_95 : decode cX9_add 95 = .ok (.iastore, 1) := by decide +kernel
theorem dX9_add_96 : decode cX9_add 96 = .ok (.aload_n 0, 1) := by decide +kernel
theorem dX9_add_97 : decode cX9_add 97 = .ok (.dup, 1) := by decide +kernel
theorem dX9_add_98 : decode cX9_add 98 = .ok (.getfield 9, 3) := by decide +kernel
theorem dX9_add_101 : decode cX9_add 101 = .ok (.iconst 1, 1) := by decide +kernel
theorem dX9_add_102 : decode cX9_add 102 = .ok (.iadd, 1) := by decide +kernel
theorem dX9_add_103 : decode cX9_add 103 = .ok (.putfield 9, 3) := by decide +kernel
theorem dX9_add_106 : decode cX9_add 106 = .ok (.aload_n 0, 1) := by decide +kernel
theorem dX9_add_107 : decode cX9_add 107 = .ok (.getfield 9, 3) := by decide +kernel
theorem dX9_add_110 : decode cX9_add 110 = .ok (.iconst 1, 1) := by decide +kernel
theorem dX9_add_111 : decode cX9_add 111 = .ok (.isub, 1) := by decide +kernel
theorem dX9_add_112 : decode cX9_add 112 = .ok (.ireturn, 1) := by decide +kernel
theorem dX9_hereIn_0 : decode cX9_hereIn 0 = .ok (.iconst 0, 1) := by decide +kernel
theorem dX9_hereIn_1 : decode cX9_hereIn 1 = .ok (.istore_n 2, 1) := by decide +kernel
theorem dX9_hereIn_2 : decode cX9_hereIn 2 = .ok (.iconst 0, 1) := by decide +kernel
theorem dX9_hereIn_3 : decode cX9_hereIn 3 = .ok (.istore_n 3, 1) := by decide +kernel
theorem dX9_hereIn_4 : decode cX9_hereIn 4 = .ok (.iload_n 3, 1) := by decide +kernel
theorem dX9_hereIn_5 : decode cX9_hereIn 5 = .ok (.aload_n 0, 1) := by decide +kernel
theorem dX9_hereIn_6 : decode cX9_hereIn 6 = .ok (.getfield 9, 3) := by decide +kernel
theorem dX9_hereIn_9 : decode cX9_hereIn 9 = .ok (.if_icmp .ge 35, 3) := by decide +kernel
theorem dX9_hereIn_12 : decode cX9_hereIn 12 = .ok (.aload_n 0, 1) := by decide +kernel
theorem dX9_hereIn_13 : decode cX9_hereIn 13 = .ok (.getfield 19, 3) := by decide +kernel
theorem dX9_hereIn_16 : decode cX9_hereIn 16 = .ok (.iload_n 3, 1) := by decide +kernel
theorem dX9_hereIn_17 : decode cX9_hereIn 17 = .ok (.baload, 1) := by decide +kernel
theorem dX9_hereIn_18 : decode cX9_hereIn 18 = .ok (.ifCond .eq 20, 3) := by decide +kernel
theorem dX9_hereIn_21 : decode cX9_hereIn 21 = .ok (.iload_n 1, 1) := by decide +kernel
theorem dX9_hereIn_22 : decode cX9_hereIn 22 = .ok (.aload_n 0, 1) := by decide +kernel
theorem dX9_hereIn_23 : decode cX9_hereIn 23 = .ok (.getfield 15, 3) := by decide +kernel
theorem dX9_hereIn_26 : decode cX9_hereIn 26 = .ok (.iload_n 3, 1) := by decide +kernel
theorem dX9_hereIn_27 : decode cX9_hereIn 27 = .ok (.iaload, 1) := by decide +kernel
theorem dX9_hereIn_28 : decode cX9_hereIn 28 = .ok (.ishr, 1) := by decide +kernel
theorem dX9_hereIn_29 : decode cX9_hereIn 29 = .ok (.iconst 1, 1) := by decide +kernel
theorem dX9_hereIn_30 : decode cX9_hereIn 30 = .ok (.iand, 1) := by decide +kernel
theorem dX9_hereIn_31 : decode cX9_hereIn 31 = .ok (.iconst 1, 1) := by decide +kernel
theorem dX9_hereIn_32 : decode cX9_hereIn 32 = .ok (.if_icmp .ne 6, 3) := by decide +kernel
theorem dX9_hereIn_35 : decode cX9_hereIn 35 = .ok (.iinc 2 1, 3) := by decide +kernel
theorem dX9_hereIn_38 : decode cX9_hereIn 38 = .ok (.iinc 3 1, 3) := by decide +kernel
theorem dX9_hereIn_41 : decode cX9_hereIn 41 = .ok (.goto (-37), 3) := by decide +kernel
theorem dX9_hereIn_44 : decode cX9_hereIn 44 = .ok (.iload_n 2, 1) := by decide +kernel
theorem dX9_hereIn_45 : decode cX9_hereIn 45 = .ok (.ireturn, 1) := by decide +kernel
theorem dX9_wishesAgainst_0 : decode cX9_wishesAgainst 0 = .ok (.aload_n 0, 1) := by decide +kernel
theorem dX9_wishesAgainst_1 : decode cX9_wishesAgainst 1 = .ok (.getfield 41, 3) := by decide +kernel
theorem dX9_wishesAgainst_4 : decode cX9_wishesAgainst 4 = .ok (.iload_n 1, 1) := by decide +kernel
theorem dX9_wishesAgainst_5 : decode cX9_wishesAgainst 5 = .ok (.iaload, 1) := by decide +kernel
theorem dX9_wishesAgainst_6 : decode cX9_wishesAgainst 6 = .ok (.iconst 3, 1) := by decide +kernel
theorem dX9_wishesAgainst_7 : decode cX9_wishesAgainst 7 = .ok (.iload_n 2, 1) := by decide +kernel
theorem dX9_wishesAgainst_8 : decode cX9_wishesAgainst 8 = .ok (.imul, 1) := by decide +kernel
theorem dX9_wishesAgainst_9 : decode cX9_wishesAgainst 9 = .ok (.iload_n 3, 1) := by decide +kernel
theorem dX9_wishesAgainst_10 : decode cX9_wishesAgainst 10 = .ok (.iadd, 1) := by decide +kernel
theorem dX9_wishesAgainst_11 : decode cX9_wishesAgainst 11 = .ok (.ishr, 1) := by decide +kernel
theorem dX9_wishesAgainst_12 : decode cX9_wishesAgainst 12 = .ok (.iconst 1, 1) := by decide +kernel
theorem dX9_wishesAgainst_13 : decode cX9_wishesAgainst 13 = .ok (.iand, 1) := by decide +kernel
theorem dX9_wishesAgainst_14 : decode cX9_wishesAgainst 14 = .ok (.iconst 1, 1) := by decide +kernel
theorem dX9_wishesAgainst_15 : decode cX9_wishesAgainst 15 = .ok (.if_icmp .ne 7, 3) := by decide +kernel
theorem dX9_wishesAgainst_18 : decode cX9_wishesAgainst 18 = .ok (.iconst 1, 1) := by decide +kernel
theorem dX9_wishesAgainst_19 : decode cX9_wishesAgainst 19 = .ok (.goto 4, 3) := by decide +kernel
theorem dX9_wishesAgainst_22 : decode cX9_wishesAgainst 22 = .ok (.iconst 0, 1) := by decide +kernel
theorem dX9_wishesAgainst_23 : decode cX9_wishesAgainst 23 = .ok (.ireturn, 1) := by decide +kernel
theorem dX9_turnWish_0 : decode cX9_turnWish 0 = .ok (.aload_n 0, 1) := by decide +kernel
theorem dX9_turnWish_1 : decode cX9_turnWish 1 = .ok (.getfield 41, 3) := by decide +kernel
theorem dX9_turnWish_4 : decode cX9_turnWish 4 = .ok (.iload_n 1, 1) := by decide +kernel
theorem dX9_turnWish_5 : decode cX9_turnWish 5 = .ok (.dup2, 1) := by decide +kernel
theorem dX9_turnWish_6 : decode cX9_turnWish 6 = .ok (.iaload, 1) := by decide +kernel
theorem dX9_turnWish_7 : decode cX9_turnWish 7 = .ok (.iconst 1, 1) := by decide +kernel
theorem dX9_turnWish_8 : decode cX9_turnWish 8 = .ok (.iconst 3, 1) := by decide +kernel
theorem dX9_turnWish_9 : decode cX9_turnWish 9 = .ok (.iload_n 2, 1) := by decide +kernel
theorem dX9_turnWish_10 : decode cX9_turnWish 10 = .ok (.imul, 1) := by decide +kernel
theorem dX9_turnWish_11 : decode cX9_turnWish 11 = .ok (.iload_n 3, 1) := by decide +kernel
theorem dX9_turnWish_12 : decode cX9_turnWish 12 = .ok (.iadd, 1) := by decide +kernel
theorem dX9_turnWish_13 : decode cX9_turnWish 13 = .ok (.ishl, 1) := by decide +kernel
theorem dX9_turnWish_14 : decode cX9_turnWish 14 = .ok (.ixor, 1) := by decide +kernel
theorem dX9_turnWish_15 : decode cX9_turnWish 15 = .ok (.iastore, 1) := by decide +kernel
theorem dX9_turnWish_16 : decode cX9_turnWish 16 = .ok (.return_, 1) := by decide +kernel
theorem dX9_tellList_0 : decode cX9_tellList 0 = .ok (.aload_n 0, 1) := by decide +kernel
theorem dX9_tellList_1 : decode cX9_tellList 1 = .ok (.iload_n 1, 1) := by decide +kernel
theorem dX9_tellList_2 : decode cX9_tellList 2 = .ok (.putfield 47, 3) := by decide +kernel
theorem dX9_tellList_5 : decode cX9_tellList 5 = .ok (.iconst 0, 1) := by decide +kernel
theorem dX9_tellList_6 : decode cX9_tellList 6 = .ok (.istore_n 2, 1) := by decide +kernel
theorem dX9_tellList_7 : decode cX9_tellList 7 = .ok (.iload_n 2, 1) := by decide +kernel
theorem dX9_tellList_8 : decode cX9_tellList 8 = .ok (.aload_n 0, 1) := by decide +kernel
theorem dX9_tellList_9 : decode cX9_tellList 9 = .ok (.getfield 9, 3) := by decide +kernel
theorem dX9_tellList_12 : decode cX9_tellList 12 = .ok (.if_icmp .ge 33, 3) := by decide +kernel
theorem dX9_tellList_15 : decode cX9_tellList 15 = .ok (.aload_n 0, 1) := by decide +kernel
theorem dX9_tellList_16 : decode cX9_tellList 16 = .ok (.getfield 35, 3) := by decide +kernel
theorem dX9_tellList_19 : decode cX9_tellList 19 = .ok (.iload_n 2, 1) := by decide +kernel
theorem dX9_tellList_20 : decode cX9_tellList 20 = .ok (.aload_n 0, 1) := by decide +kernel
theorem dX9_tellList_21 : decode cX9_tellList 21 = .ok (.getfield 29, 3) := by decide +kernel
theorem dX9_tellList_24 : decode cX9_tellList 24 = .ok (.iload_n 2, 1) := by decide +kernel
theorem dX9_tellList_25 : decode cX9_tellList 25 = .ok (.iaload, 1) := by decide +kernel
theorem dX9_tellList_26 : decode cX9_tellList 26 = .ok (.iastore, 1) := by decide +kernel
theorem dX9_tellList_27 : decode cX9_tellList 27 = .ok (.aload_n 0, 1) := by decide +kernel
theorem dX9_tellList_28 : decode cX9_tellList 28 = .ok (.getfield 38, 3) := by decide +kernel
theorem dX9_tellList_31 : decode cX9_tellList 31 = .ok (.iload_n 2, 1) := by decide +kernel
theorem dX9_tellList_32 : decode cX9_tellList 32 = .ok (.aload_n 0, 1) := by decide +kernel
theorem dX9_tellList_33 : decode cX9_tellList 33 = .ok (.getfield 32, 3) := by decide +kernel
theorem dX9_tellList_36 : decode cX9_tellList 36 = .ok (.iload_n 2, 1) := by decide +kernel
theorem dX9_tellList_37 : decode cX9_tellList 37 = .ok (.iaload, 1) := by decide +kernel
theorem dX9_tellList_38 : decode cX9_tellList 38 = .ok (.iastore, 1) := by decide +kernel
theorem dX9_tellList_39 : decode cX9_tellList 39 = .ok (.iinc 2 1, 3) := by decide +kernel
theorem dX9_tellList_42 : decode cX9_tellList 42 = .ok (.goto (-35), 3) := by decide +kernel
theorem dX9_tellList_45 : decode cX9_tellList 45 = .ok (.return_, 1) := by decide +kernel
theorem dX9_rightChildren_0 : decode cX9_rightChildren 0 = .ok (.aload_n 0, 1) := by decide +kernel
theorem dX9_rightChildren_1 : decode cX9_rightChildren 1 = .ok (.getfield 29, 3) := by decide +kernel
theorem dX9_rightChildren_4 : decode cX9_rightChildren 4 = .ok (.iload_n 1, 1) := by decide +kernel
theorem dX9_rightChildren_5 : decode cX9_rightChildren 5 = .ok (.iaload, 1) := by decide +kernel
theorem dX9_rightChildren_6 : decode cX9_rightChildren 6 = .ok (.istore 4, 2) := by decide +kernel
theorem dX9_rightChildren_8 : decode cX9_rightChildren 8 = .ok (.aload_n 0, 1) := by decide +kernel
theorem dX9_rightChildren_9 : decode cX9_rightChildren 9 = .ok (.getfield 29, 3) := by decide +kernel
theorem dX9_rightChildren_12 : decode cX9_rightChildren 12 = .ok (.iload_n 1, 1) := by decide +kernel
theorem dX9_rightChildren_13 : decode cX9_rightChildren 13 = .ok (.iload_n 2, 1) := by decide +kernel
theorem dX9_rightChildren_14 : decode cX9_rightChildren 14 = .ok (.iastore, 1) := by decide +kernel
theorem dX9_rightChildren_15 : decode cX9_rightChildren 15 = .ok (.iload_n 3, 1) := by decide +kernel
theorem dX9_rightChildren_16 : decode cX9_rightChildren 16 = .ok (.ifCond .eq 10, 3) := by decide +kernel
theorem dX9_rightChildren_19 : decode cX9_rightChildren 19 = .ok (.aload_n 0, 1) := by decide +kernel
theorem dX9_rightChildren_20 : decode cX9_rightChildren 20 = .ok (.getfield 35, 3) := by decide +kernel
theorem dX9_rightChildren_23 : decode cX9_rightChildren 23 = .ok (.iload_n 1, 1) := by decide +kernel
theorem dX9_rightChildren_24 : decode cX9_rightChildren 24 = .ok (.iload_n 2, 1) := by decide +kernel
theorem dX9_rightChildren_25 : decode cX9_rightChildren 25 = .ok (.iastore, 1) := by decide +kernel
theorem dX9_rightChildren_26 : decode cX9_rightChildren 26 = .ok (.iload 4, 2) := by decide +kernel
theorem dX9_rightChildren_28 : decode cX9_rightChildren 28 = .ok (.ireturn, 1) := by decide +kernel
theorem dX9_rightHurt_0 : decode cX9_rightHurt 0 = .ok (.aload_n 0, 1) := by decide +kernel
theorem dX9_rightHurt_1 : decode cX9_rightHurt 1 = .ok (.getfield 32, 3) := by decide +kernel
theorem dX9_rightHurt_4 : decode cX9_rightHurt 4 = .ok (.iload_n 1, 1) := by decide +kernel
theorem dX9_rightHurt_5 : decode cX9_rightHurt 5 = .ok (.iaload, 1) := by decide +kernel
theorem dX9_rightHurt_6 : decode cX9_rightHurt 6 = .ok (.istore 4, 2) := by decide +kernel
theorem dX9_rightHurt_8 : decode cX9_rightHurt 8 = .ok (.aload_n 0, 1) := by decide +kernel
theorem dX9_rightHurt_9 : decode cX9_rightHurt 9 = .ok (.getfield 32, 3) := by decide +kernel
theorem dX9_rightHurt_12 : decode cX9_rightHurt 12 = .ok (.iload_n 1, 1) := by decide +kernel
theorem dX9_rightHurt_13 : decode cX9_rightHurt 13 = .ok (.iload_n 2, 1) := by decide +kernel
theorem dX9_rightHurt_14 : decode cX9_rightHurt 14 = .ok (.iastore, 1) := by decide +kernel
theorem dX9_rightHurt_15 : decode cX9_rightHurt 15 = .ok (.iload_n 3, 1) := by decide +kernel
theorem dX9_rightHurt_16 : decode cX9_rightHurt 16 = .ok (.ifCond .eq 10, 3) := by decide +kernel
theorem dX9_rightHurt_19 : decode cX9_rightHurt 19 = .ok (.aload_n 0, 1) := by decide +kernel
theorem dX9_rightHurt_20 : decode cX9_rightHurt 20 = .ok (.getfield 38, 3) := by decide +kernel
theorem dX9_rightHurt_23 : decode cX9_rightHurt 23 = .ok (.iload_n 1, 1) := by decide +kernel
theorem dX9_rightHurt_24 : decode cX9_rightHurt 24 = .ok (.iload_n 2, 1) := by decide +kernel
theorem dX9_rightHurt_25 : decode cX9_rightHurt 25 = .ok (.iastore, 1) := by decide +kernel
theorem dX9_rightHurt_26 : decode cX9_rightHurt 26 = .ok (.iload 4, 2) := by decide +kernel
theorem dX9_rightHurt_28 : decode cX9_rightHurt 28 = .ok (.ireturn, 1) := by decide +kernel
theorem dX9_pointsOf_0 : decode cX9_pointsOf 0 = .ok (.aload_n 0, 1) := by decide +kernel
theorem dX9_pointsOf_1 : decode cX9_pointsOf 1 = .ok (.getfield 47, 3) := by decide +kernel
theorem dX9_pointsOf_4 : decode cX9_pointsOf 4 = .ok (.bipush (-9), 2) := by decide +kernel
theorem dX9_pointsOf_6 : decode cX9_pointsOf 6 = .ok (.if_icmp .eq 7, 3) := by decide +kernel
theorem dX9_pointsOf_9 : decode cX9_pointsOf 9 = .ok (.iconst 1, 1) := by decide +kernel
theorem dX9_pointsOf_10 : decode cX9_pointsOf 10 = .ok (.goto 4, 3) := by decide +kernel
theorem dX9_pointsOf_13 : decode cX9_pointsOf 13 = .ok (.iconst 0, 1) := by decide +kernel
theorem dX9_pointsOf_14 : decode cX9_pointsOf 14 = .ok (.istore_n 3, 1) := by decide +kernel
theorem dX9_pointsOf_15 : decode cX9_pointsOf 15 = .ok (.iload_n 2, 1) := by decide +kernel
theorem dX9_pointsOf_16 : decode cX9_pointsOf 16 = .ok (.aload_n 0, 1) := by decide +kernel
theorem dX9_pointsOf_17 : decode cX9_pointsOf 17 = .ok (.getfield 23, 3) := by decide +kernel
theorem dX9_pointsOf_20 : decode cX9_pointsOf 20 = .ok (.iload_n 1, 1) := by decide +kernel
theorem dX9_pointsOf_21 : decode cX9_pointsOf 21 = .ok (.iaload, 1) := by decide +kernel
theorem dX9_pointsOf_22 : decode cX9_pointsOf 22 = .ok (.isub, 1) := by decide +kernel
theorem dX9_pointsOf_23 : decode cX9_pointsOf 23 = .ok (.sipush 365, 3) := by decide +kernel
theorem dX9_pointsOf_26 : decode cX9_pointsOf 26 = .ok (.idiv, 1) := by decide +kernel
theorem dX9_pointsOf_27 : decode cX9_pointsOf 27 = .ok (.aload_n 0, 1) := by decide +kernel
theorem dX9_pointsOf_28 : decode cX9_pointsOf 28 = .ok (.getfield 44, 3) := by decide +kernel
theorem dX9_pointsOf_31 : decode cX9_pointsOf 31 = .ok (.iconst 0, 1) := by decide +kernel
theorem dX9_pointsOf_32 : decode cX9_pointsOf 32 = .ok (.iaload, 1) := by decide +kernel
theorem dX9_pointsOf_33 : decode cX9_pointsOf 33 = .ok (.imul, 1) := by decide +kernel
theorem dX9_pointsOf_34 : decode cX9_pointsOf 34 = .ok (.iload_n 2, 1) := by decide +kernel
theorem dX9_pointsOf_35 : decode cX9_pointsOf 35 = .ok (.aload_n 0, 1) := by decide +kernel
theorem dX9_pointsOf_36 : decode cX9_pointsOf 36 = .ok (.getfield 26, 3) := by decide +kernel
theorem dX9_pointsOf_39 : decode cX9_pointsOf 39 = .ok (.iload_n 1, 1) := by decide +kernel
theorem dX9_pointsOf_40 : decode cX9_pointsOf 40 = .ok (.iaload, 1) := by decide +kernel
theorem dX9_pointsOf_41 : decode cX9_pointsOf 41 = .ok (.isub, 1) := by decide +kernel
theorem dX9_pointsOf_42 : decode cX9_pointsOf 42 = .ok (.sipush 365, 3) := by decide +kernel
theorem dX9_pointsOf_45 : decode cX9_pointsOf 45 = .ok (.idiv, 1) := by decide +kernel
theorem dX9_pointsOf_46 : decode cX9_pointsOf 46 = .ok (.aload_n 0, 1) := by decide +kernel
theorem dX9_pointsOf_47 : decode cX9_pointsOf 47 = .ok (.getfield 44, 3) := by decide +kernel
theorem dX9_pointsOf_50 : decode cX9_pointsOf 50 = .ok (.iconst 1, 1) := by decide +kernel
theorem dX9_pointsOf_51 : decode cX9_pointsOf 51 = .ok (.iaload, 1) := by decide +kernel
theorem dX9_pointsOf_52 : decode cX9_pointsOf 52 = .ok (.imul, 1) := by decide +kernel
theorem dX9_pointsOf_53 : decode cX9_pointsOf 53 = .ok (.iadd, 1) := by decide +kernel
theorem dX9_pointsOf_54 : decode cX9_pointsOf 54 = .ok (.iload_n 3, 1) := by decide +kernel
theorem dX9_pointsOf_55 : decode cX9_pointsOf 55 = .ok (.ifCond .eq 12, 3) := by decide +kernel
theorem dX9_pointsOf_58 : decode cX9_pointsOf 58 = .ok (.aload_n 0, 1) := by decide +kernel
theorem dX9_pointsOf_59 : decode cX9_pointsOf 59 = .ok (.getfield 35, 3) := by decide +kernel
theorem dX9_pointsOf_62 : decode cX9_pointsOf 62 = .ok (.iload_n 1, 1) := by decide +kernel
theorem dX9_pointsOf_63 : decode cX9_pointsOf 63 = .ok (.iaload, 1) := by decide +kernel
theorem dX9_pointsOf_64 : decode cX9_pointsOf 64 = .ok (.goto 9, 3) := by decide +kernel
theorem dX9_pointsOf_67 : decode cX9_pointsOf 67 = .ok (.aload_n 0, 1) := by decide +kernel
theorem dX9_pointsOf_68 : decode cX9_pointsOf 68 = .ok (.getfield 29, 3) := by decide +kernel
theorem dX9_pointsOf_71 : decode cX9_pointsOf 71 = .ok (.iload_n 1, 1) := by decide +kernel
theorem dX9_pointsOf_72 : decode cX9_pointsOf 72 = .ok (.iaload, 1) := by decide +kernel
theorem dX9_pointsOf_73 : decode cX9_pointsOf 73 = .ok (.aload_n 0, 1) := by decide +kernel
theorem dX9_pointsOf_74 : decode cX9_pointsOf 74 = .ok (.getfield 44, 3) := by decide +kernel
theorem dX9_pointsOf_77 : decode cX9_pointsOf 77 = .ok (.iconst 2, 1) := by decide +kernel
theorem dX9_pointsOf_78 : decode cX9_pointsOf 78 = .ok (.iaload, 1) := by decide +kernel
theorem dX9_pointsOf_79 : decode cX9_pointsOf 79 = .ok (.imul, 1) := by decide +kernel
theorem dX9_pointsOf_80 : decode cX9_pointsOf 80 = .ok (.iadd, 1) := by decide +kernel
theorem dX9_pointsOf_81 : decode cX9_pointsOf 81 = .ok (.iload_n 3, 1) := by decide +kernel
theorem dX9_pointsOf_82 : decode cX9_pointsOf 82 = .ok (.ifCond .eq 12, 3) := by decide +kernel
theorem dX9_pointsOf_85 : decode cX9_pointsOf 85 = .ok (.aload_n 0, 1) := by decide +kernel
theorem dX9_pointsOf_86 : decode cX9_pointsOf 86 = .ok (.getfield 38, 3) := by decide +kernel
theorem dX9_pointsOf_89 : decode cX9_pointsOf 89 = .ok (.iload_n 1, 1) := by decide +kernel
theorem dX9_pointsOf_90 : decode cX9_pointsOf 90 = .ok (.iaload, 1) := by decide +kernel
theorem dX9_pointsOf_91 : decode cX9_pointsOf 91 = .ok (.goto 9, 3) := by decide +kernel
theorem dX9_pointsOf_94 : decode cX9_pointsOf 94 = .ok (.aload_n 0, 1) := by decide +kernel
theorem dX9_pointsOf_95 : decode cX9_pointsOf 95 = .ok (.getfield 32, 3) := by decide +kernel
theorem dX9_pointsOf_98 : decode cX9_pointsOf 98 = .ok (.iload_n 1, 1) := by decide +kernel
theorem dX9_pointsOf_99 : decode cX9_pointsOf 99 = .ok (.iaload, 1) := by decide +kernel
theorem dX9_pointsOf_100 : decode cX9_pointsOf 100 = .ok (.aload_n 0, 1) := by decide +kernel
theorem dX9_pointsOf_101 : decode cX9_pointsOf 101 = .ok (.getfield 44, 3) := by decide +kernel
theorem dX9_pointsOf_104 : decode cX9_pointsOf 104 = .ok (.iconst 3, 1) := by decide +kernel
theorem dX9_pointsOf_105 : decode cX9_pointsOf 105 = .ok (.iaload, 1) := by decide +kernel
theorem dX9_pointsOf_106 : decode cX9_pointsOf 106 = .ok (.imul, 1) := by decide +kernel
theorem dX9_pointsOf_107 : decode cX9_pointsOf 107 = .ok (.iadd, 1) := by decide +kernel
theorem dX9_pointsOf_108 : decode cX9_pointsOf 108 = .ok (.ireturn, 1) := by decide +kernel
theorem dX9_goingAt_0 : decode cX9_goingAt 0 = .ok (.iconst 0, 1) := by decide +kernel
theorem dX9_goingAt_1 : decode cX9_goingAt 1 = .ok (.istore 4, 2) := by decide +kernel
theorem dX9_goingAt_3 : decode cX9_goingAt 3 = .ok (.iload 4, 2) := by decide +kernel
theorem dX9_goingAt_5 : decode cX9_goingAt 5 = .ok (.aload_n 0, 1) := by decide +kernel
theorem dX9_goingAt_6 : decode cX9_goingAt 6 = .ok (.getfield 9, 3) := by decide +kernel
theorem dX9_goingAt_9 : decode cX9_goingAt 9 = .ok (.if_icmp .ge 44, 3) := by decide +kernel
theorem dX9_goingAt_12 : decode cX9_goingAt 12 = .ok (.aload_n 0, 1) := by decide +kernel
theorem dX9_goingAt_13 : decode cX9_goingAt 13 = .ok (.getfield 19, 3) := by decide +kernel
theorem dX9_goingAt_16 : decode cX9_goingAt 16 = .ok (.iload 4, 2) := by decide +kernel
theorem dX9_goingAt_18 : decode cX9_goingAt 18 = .ok (.baload, 1) := by decide +kernel
theorem dX9_goingAt_19 : decode cX9_goingAt 19 = .ok (.ifCond .eq 28, 3) := by decide +kernel
theorem dX9_goingAt_22 : decode cX9_goingAt 22 = .ok (.aload_n 0, 1) := by decide +kernel
theorem dX9_goingAt_23 : decode cX9_goingAt 23 = .ok (.getfield 15, 3) := by decide +kernel
theorem dX9_goingAt_26 : decode cX9_goingAt 26 = .ok (.iload 4, 2) := by decide +kernel
theorem dX9_goingAt_28 : decode cX9_goingAt 28 = .ok (.iaload, 1) := by decide +kernel
theorem dX9_goingAt_29 : decode cX9_goingAt 29 = .ok (.iload_n 1, 1) := by decide +kernel
theorem dX9_goingAt_30 : decode cX9_goingAt 30 = .ok (.if_icmp .ne 17, 3) := by decide +kernel
theorem dX9_goingAt_33 : decode cX9_goingAt 33 = .ok (.aload_n 0, 1) := by decide +kernel
theorem dX9_goingAt_34 : decode cX9_goingAt 34 = .ok (.iload 4, 2) := by decide +kernel
theorem dX9_goingAt_36 : decode cX9_goingAt 36 = .ok (.iload_n 3, 1) := by decide +kernel
theorem dX9_goingAt_37 : decode cX9_goingAt 37 = .ok (.invokevirtual 50, 3) := by decide +kernel
theorem dX9_goingAt_40 : decode cX9_goingAt 40 = .ok (.iload_n 2, 1) := by decide +kernel
theorem dX9_goingAt_41 : decode cX9_goingAt 41 = .ok (.if_icmp .ne 6, 3) := by decide +kernel
theorem dX9_goingAt_44 : decode cX9_goingAt 44 = .ok (.iload 4, 2) := by decide +kernel
theorem dX9_goingAt_46 : decode cX9_goingAt 46 = .ok (.ireturn, 1) := by decide +kernel
theorem dX9_goingAt_47 : decode cX9_goingAt 47 = .ok (.iinc 4 1, 3) := by decide +kernel
theorem dX9_goingAt_50 : decode cX9_goingAt 50 = .ok (.goto (-47), 3) := by decide +kernel
theorem dX9_goingAt_53 : decode cX9_goingAt 53 = .ok (.bipush (-9), 2) := by decide +kernel
theorem dX9_goingAt_55 : decode cX9_goingAt 55 = .ok (.ireturn, 1) := by decide +kernel
theorem dX9_countAhead_0 : decode cX9_countAhead 0 = .ok (.iconst 0, 1) := by decide +kernel
theorem dX9_countAhead_1 : decode cX9_countAhead 1 = .ok (.istore_n 3, 1) := by decide +kernel
theorem dX9_countAhead_2 : decode cX9_countAhead 2 = .ok (.iconst 0, 1) := by decide +kernel
theorem dX9_countAhead_3 : decode cX9_countAhead 3 = .ok (.istore 4, 2) := by decide +kernel
theorem dX9_countAhead_5 : decode cX9_countAhead 5 = .ok (.iload 4, 2) := by decide +kernel
theorem dX9_countAhead_7 : decode cX9_countAhead 7 = .ok (.aload_n 0, 1) := by decide +kernel
theorem dX9_countAhead_8 : decode cX9_countAhead 8 = .ok (.getfield 9, 3) := by decide +kernel
theorem dX9_countAhead_11 : decode cX9_countAhead 11 = .ok (.if_icmp .ge 55, 3) := by decide +kernel
theorem dX9_countAhead_14 : decode cX9_countAhead 14 = .ok (.iload 4, 2) := by decide +kernel
theorem dX9_countAhead_16 : decode cX9_countAhead 16 = .ok (.iload_n 1, 1) := by decide +kernel
theorem dX9_countAhead_17 : decode cX9_countAhead 17 = .ok (.if_icmp .eq 43, 3) := by decide +kernel
theorem dX9_countAhead_20 : decode cX9_countAhead 20 = .ok (.aload_n 0, 1) := by decide +kernel
theorem dX9_countAhead_21 : decode cX9_countAhead 21 = .ok (.getfield 19, 3) := by decide +kernel
theorem dX9_countAhead_24 : decode cX9_countAhead 24 = .ok (.iload 4, 2) := by decide +kernel
theorem dX9_countAhead_26 : decode cX9_countAhead 26 = .ok (.baload, 1) := by decide +kernel
theorem dX9_countAhead_27 : decode cX9_countAhead 27 = .ok (.ifCond .eq 33, 3) := by decide +kernel
theorem dX9_countAhead_30 : decode cX9_countAhead 30 = .ok (.aload_n 0, 1) := by decide +kernel
theorem dX9_countAhead_31 : decode cX9_countAhead 31 = .ok (.getfield 15, 3) := by decide +kernel
theorem dX9_countAhead_34 : decode cX9_countAhead 34 = .ok (.iload 4, 2) := by decide +kernel
theorem dX9_countAhead_36 : decode cX9_countAhead 36 = .ok (.iaload, 1) := by decide +kernel
theorem dX9_countAhead_37 : decode cX9_countAhead 37 = .ok (.aload_n 0, 1) := by decide +kernel
theorem dX9_countAhead_38 : decode cX9_countAhead 38 = .ok (.getfield 15, 3) := by decide +kernel
theorem dX9_countAhead_41 : decode cX9_countAhead 41 = .ok (.iload_n 1, 1) := by decide +kernel
theorem dX9_countAhead_42 : decode cX9_countAhead 42 = .ok (.iaload, 1) := by decide +kernel
theorem dX9_countAhead_43 : decode cX9_countAhead 43 = .ok (.if_icmp .ne 17, 3) := by decide +kernel
theorem dX9_countAhead_46 : decode cX9_countAhead 46 = .ok (.aload_n 0, 1) := by decide +kernel
theorem dX9_countAhead_47 : decode cX9_countAhead 47 = .ok (.iload 4, 2) := by decide +kernel
theorem dX9_countAhead_49 : decode cX9_countAhead 49 = .ok (.iload_n 1, 1) := by decide +kernel
theorem dX9_countAhead_50 : decode cX9_countAhead 50 = .ok (.iload_n 2, 1) := by decide +kernel
theorem dX9_countAhead_51 : decode cX9_countAhead 51 = .ok (.invokevirtual 54, 3) := by decide +kernel
theorem dX9_countAhead_54 : decode cX9_countAhead 54 = .ok (.ifCond .eq 6, 3) := by decide +kernel
theorem dX9_countAhead_57 : decode cX9_countAhead 57 = .ok (.iinc 3 1, 3) := by decide +kernel
theorem dX9_countAhead_60 : decode cX9_countAhead 60 = .ok (.iinc 4 1, 3) := by decide +kernel
theorem dX9_countAhead_63 : decode cX9_countAhead 63 = .ok (.goto (-58), 3) := by decide +kernel
theorem dX9_countAhead_66 : decode cX9_countAhead 66 = .ok (.iload_n 3, 1) := by decide +kernel
theorem dX9_countAhead_67 : decode cX9_countAhead 67 = .ok (.ireturn, 1) := by decide +kernel
theorem dX9_goesAhead_0 : decode cX9_goesAhead 0 = .ok (.aload_n 0, 1) := by decide +kernel
theorem dX9_goesAhead_1 : decode cX9_goesAhead 1 = .ok (.iload_n 1, 1) := by decide +kernel
theorem dX9_goesAhead_2 : decode cX9_goesAhead 2 = .ok (.iload_n 3, 1) := by decide +kernel
theorem dX9_goesAhead_3 : decode cX9_goesAhead 3 = .ok (.invokevirtual 58, 3) := by decide +kernel
theorem dX9_goesAhead_6 : decode cX9_goesAhead 6 = .ok (.aload_n 0, 1) := by decide +kernel
theorem dX9_goesAhead_7 : decode cX9_goesAhead 7 = .ok (.iload_n 2, 1) := by decide +kernel
theorem dX9_goesAhead_8 : decode cX9_goesAhead 8 = .ok (.iload_n 3, 1) := by decide +kernel
theorem dX9_goesAhead_9 : decode cX9_goesAhead 9 = .ok (.invokevirtual 58, 3) := by decide +kernel
theorem dX9_goesAhead_12 : decode cX9_goesAhead 12 = .ok (.isub, 1) := by decide +kernel
theorem dX9_goesAhead_13 : decode cX9_goesAhead 13 = .ok (.istore 4, 2) := by decide +kernel
theorem dX9_goesAhead_15 : decode cX9_goesAhead 15 = .ok (.iload 4, 2) := by decide +kernel
theorem dX9_goesAhead_17 : decode cX9_goesAhead 17 = .ok (.ifCond .eq 14, 3) := by decide +kernel
theorem dX9_goesAhead_20 : decode cX9_goesAhead 20 = .ok (.iload 4, 2) := by decide +kernel
theorem dX9_goesAhead_22 : decode cX9_goesAhead 22 = .ok (.ifCond .ge 7, 3) := by decide +kernel
theorem dX9_goesAhead_25 : decode cX9_goesAhead 25 = .ok (.iconst 1, 1) := by decide +kernel
theorem dX9_goesAhead_26 : decode cX9_goesAhead 26 = .ok (.goto 4, 3) := by decide +kernel
theorem dX9_goesAhead_29 : decode cX9_goesAhead 29 = .ok (.iconst 0, 1) := by decide +kernel
theorem dX9_goesAhead_30 : decode cX9_goesAhead 30 = .ok (.ireturn, 1) := by decide +kernel
theorem dX9_goesAhead_31 : decode cX9_goesAhead 31 = .ok (.aload_n 0, 1) := by decide +kernel
theorem dX9_goesAhead_32 : decode cX9_goesAhead 32 = .ok (.getfield 26, 3) := by decide +kernel
theorem dX9_goesAhead_35 : decode cX9_goesAhead 35 = .ok (.iload_n 1, 1) := by decide +kernel
theorem dX9_goesAhead_36 : decode cX9_goesAhead 36 = .ok (.iaload, 1) := by decide +kernel
theorem dX9_goesAhead_37 : decode cX9_goesAhead 37 = .ok (.aload_n 0, 1) := by decide +kernel
theorem dX9_goesAhead_38 : decode cX9_goesAhead 38 = .ok (.getfield 26, 3) := by decide +kernel
theorem dX9_goesAhead_41 : decode cX9_goesAhead 41 = .ok (.iload_n 2, 1) := by decide +kernel
theorem dX9_goesAhead_42 : decode cX9_goesAhead 42 = .ok (.iaload, 1) := by decide +kernel
theorem dX9_goesAhead_43 : decode cX9_goesAhead 43 = .ok (.if_icmp .eq 26, 3) := by decide +kernel
theorem dX9_goesAhead_46 : decode cX9_goesAhead 46 = .ok (.aload_n 0, 1) := by decide +kernel
theorem dX9_goesAhead_47 : decode cX9_goesAhead 47 = .ok (.getfield 26, 3) := by decide +kernel
theorem dX9_goesAhead_50 : decode cX9_goesAhead 50 = .ok (.iload_n 1, 1) := by decide +kernel
theorem dX9_goesAhead_51 : decode cX9_goesAhead 51 = .ok (.iaload, 1) := by decide +kernel
theorem dX9_goesAhead_52 : decode cX9_goesAhead 52 = .ok (.aload_n 0, 1) := by decide +kernel
theorem dX9_goesAhead_53 : decode cX9_goesAhead 53 = .ok (.getfield 26, 3) := by decide +kernel
theorem dX9_goesAhead_56 : decode cX9_goesAhead 56 = .ok (.iload_n 2, 1) := by decide +kernel
theorem dX9_goesAhead_57 : decode cX9_goesAhead 57 = .ok (.iaload, 1) := by decide +kernel
theorem dX9_goesAhead_58 : decode cX9_goesAhead 58 = .ok (.if_icmp .le 7, 3) := by decide +kernel
theorem dX9_goesAhead_61 : decode cX9_goesAhead 61 = .ok (.iconst 1, 1) := by decide +kernel
theorem dX9_goesAhead_62 : decode cX9_goesAhead 62 = .ok (.goto 17, 3) := by decide +kernel
theorem dX9_goesAhead_65 : decode cX9_goesAhead 65 = .ok (.iconst 0, 1) := by decide +kernel
theorem dX9_goesAhead_66 : decode cX9_goesAhead 66 = .ok (.goto 13, 3) := by decide +kernel
theorem dX9_goesAhead_69 : decode cX9_goesAhead 69 = .ok (.iload_n 1, 1) := by decide +kernel
theorem dX9_goesAhead_70 : decode cX9_goesAhead 70 = .ok (.iload_n 2, 1) := by decide +kernel
theorem dX9_goesAhead_71 : decode cX9_goesAhead 71 = .ok (.if_icmp .le 7, 3) := by decide +kernel
theorem dX9_goesAhead_74 : decode cX9_goesAhead 74 = .ok (.iconst 1, 1) := by decide +kernel
theorem dX9_goesAhead_75 : decode cX9_goesAhead 75 = .ok (.goto 4, 3) := by decide +kernel
theorem dX9_goesAhead_78 : decode cX9_goesAhead 78 = .ok (.iconst 0, 1) := by decide +kernel
theorem dX9_goesAhead_79 : decode cX9_goesAhead 79 = .ok (.ireturn, 1) := by decide +kernel
theorem dX10_init_0 : decode cX10_init 0 = .ok (.aload_n 0, 1) := by decide +kernel
theorem dX10_init_1 : decode cX10_init 1 = .ok (.invokespecial 3, 3) := by decide +kernel
theorem dX10_init_4 : decode cX10_init 4 = .ok (.aload_n 0, 1) := by decide +kernel
theorem dX10_init_5 : decode cX10_init 5 = .ok (.iconst 5, 1) := by decide +kernel
theorem dX10_init_6 : decode cX10_init 6 = .ok (.newarray .int, 2) := by decide +kernel
theorem dX10_init_8 : decode cX10_init 8 = .ok (.putfield 9, 3) := by decide +kernel
theorem dX10_init_11 : decode cX10_init 11 = .ok (.aload_n 0, 1) := by decide +kernel
theorem dX10_init_12 : decode cX10_init 12 = .ok (.iconst 5, 1) := by decide +kernel
theorem dX10_init_13 : decode cX10_init 13 = .ok (.bipush 12, 2) := by decide +kernel
theorem dX10_init_15 : decode cX10_init 15 = .ok (.multianewarray 15 2, 4) := by decide +kernel
theorem dX10_init_19 : decode cX10_init 19 = .ok (.putfield 17, 3) := by decide +kernel
theorem dX10_init_22 : decode cX10_init 22 = .ok (.aload_n 0, 1) := by decide +kernel
theorem dX10_init_23 : decode cX10_init 23 = .ok (.iconst 5, 1) := by decide +kernel
theorem dX10_init_24 : decode cX10_init 24 = .ok (.bipush 12, 2) := by decide +kernel
theorem dX10_init_26 : decode cX10_init 26 = .ok (.multianewarray 15 2, 4) := by decide +kernel
theorem dX10_init_30 : decode cX10_init 30 = .ok (.putfield 20, 3) := by decide +kernel
theorem dX10_init_33 : decode cX10_init 33 = .ok (.return_, 1) := by decide +kernel
theorem dX10_add_0 : decode cX10_add 0 = .ok (.aload_n 0, 1) := by decide +kernel
theorem dX10_add_1 : decode cX10_add 1 = .ok (.getfield 9, 3) := by decide +kernel
theorem dX10_add_4 : decode cX10_add 4 = .ok (.iload_n 1, 1) := by decide +kernel
theorem dX10_add_5 : decode cX10_add 5 = .ok (.iaload, 1) := by decide +kernel
theorem dX10_add_6 : decode cX10_add 6 = .ok (.bipush 12, 2) := by decide +kernel
theorem dX10_add_8 : decode cX10_add 8 = .ok (.if_icmp .lt 6, 3) := by decide +kernel
theorem dX10_add_11 : decode cX10_add 11 = .ok (.bipush (-6), 2) := by decide +kernel
theorem dX10_add_13 : decode cX10_add 13 = .ok (.ireturn, 1) := by decide +kernel
theorem dX10_add_14 : decode cX10_add 14 = .ok (.aload_n 0, 1) := by decide +kernel
theorem dX10_add_15 : decode cX10_add 15 = .ok (.getfield 17, 3) := by decide +kernel
theorem dX10_add_18 : decode cX10_add 18 = .ok (.iload_n 1, 1) := by decide +kernel
theorem dX10_add_19 : decode cX10_add 19 = .ok (.aaload, 1) := by decide +kernel
theorem dX10_add_20 : decode cX10_add 20 = .ok (.aload_n 0, 1) := by decide +kernel
theorem dX10_add_21 : decode cX10_add 21 = .ok (.getfield 9, 3) := by decide +kernel
theorem dX10_add_24 : decode cX10_add 24 = .ok (.iload_n 1, 1) := by decide +kernel
theorem dX10_add_25 : decode cX10_add 25 = .ok (.iaload, 1) := by decide +kernel
theorem dX10_add_26 : decode cX10_add 26 = .ok (.iload_n 2, 1) := by decide +kernel
theorem dX10_add_27 : decode cX10_add 27 = .ok (.iastore, 1) := by decide +kernel
theorem dX10_add_28 : decode cX10_add 28 = .ok (.aload_n 0, 1) := by decide +kernel
theorem dX10_add_29 : decode cX10_add 29 = .ok (.getfield 20, 3) := by decide +kernel
theorem dX10_add_32 : decode cX10_add 32 = .ok (.iload_n 1, 1) := by decide +kernel
theorem dX10_add_33 : decode cX10_add 33 = .ok (.aaload, 1) := by decide +kernel
theorem dX10_add_34 : decode cX10_add 34 = .ok (.aload_n 0, 1) := by decide +kernel
theorem dX10_add_35 : decode cX10_add 35 = .ok (.getfield 9, 3) := by decide +kernel
theorem dX10_add_38 : decode cX10_add 38 = .ok (.iload_n 1, 1) := by decide +kernel
theorem dX10_add_39 : decode cX10_add 39 = .ok (.iaload, 1) := by decide +kernel
theorem dX10_add_40 : decode cX10_add 40 = .ok (.iload_n 3, 1) := by decide +kernel
theorem dX10_add_41 : decode cX10_add 41 = .ok (.iastore, 1) := by decide +kernel
theorem dX10_add_42 : decode cX10_add 42 = .ok (.aload_n 0, 1) := by decide +kernel
theorem dX10_add_43 : decode cX10_add 43 = .ok (.getfield 9, 3) := by decide +kernel
theorem dX10_add_46 : decode cX10_add 46 = .ok (.iload_n 1, 1) := by decide +kernel
theorem dX10_add_47 : decode cX10_add 47 = .ok (.dup2, 1) := by decide +kernel
theorem dX10_add_48 : decode cX10_add 48 = .ok (.iaload, 1) := by decide +kernel
theorem dX10_add_49 : decode cX10_add 49 = .ok (.iconst 1, 1) := by decide +kernel
theorem dX10_add_50 : decode cX10_add 50 = .ok (.iadd, 1) := by decide +kernel
theorem dX10_add_51 : decode cX10_add 51 = .ok (.iastore, 1) := by decide +kernel
theorem dX10_add_52 : decode cX10_add 52 = .ok (.aload_n 0, 1) := by decide +kernel
theorem dX10_add_53 : decode cX10_add 53 = .ok (.getfield 9, 3) := by decide +kernel
theorem dX10_add_56 : decode cX10_add 56 = .ok (.iload_n 1, 1) := by decide +kernel
theorem dX10_add_57 : decode cX10_add 57 = .ok (.iaload, 1) := by decide +kernel
theorem dX10_add_58 : decode cX10_add 58 = .ok (.ireturn, 1) := by decide +kernel
theorem dX10_timeOn_0 : decode cX10_timeOn 0 = .ok (.iconst 0, 1) := by decide +kernel
theorem dX10_timeOn_1 : decode cX10_timeOn 1 = .ok (.istore_n 3, 1) := by decide +kernel
theorem dX10_timeOn_2 : decode cX10_timeOn 2 = .ok (.iconst 0, 1) := by decide +kernel
theorem dX10_timeOn_3 : decode cX10_timeOn 3 = .ok (.istore 4, 2) := by decide +kernel
theorem dX10_timeOn_5 : decode cX10_timeOn 5 = .ok (.ldc 23, 2) := by decide +kernel
theorem dX10_timeOn_7 : decode cX10_timeOn 7 = .ok (.istore 5, 2) := by decide +kernel
theorem dX10_timeOn_9 : decode cX10_timeOn 9 = .ok (.iconst 0, 1) := by decide +kernel
theorem dX10_timeOn_10 : decode cX10_timeOn 10 = .ok (.istore 6, 2) := by decide +kernel
theorem dX10_timeOn_12 : decode cX10_timeOn 12 = .ok (.iconst 0, 1) := by decide +kernel
theorem dX10_timeOn_13 : decode cX10_timeOn 13 = .ok (.istore 7, 2) := by decide +kernel
theorem dX10_timeOn_15 : decode cX10_timeOn 15 = .ok (.iload 7, 2) := by decide +kernel
theorem dX10_timeOn_17 : decode cX10_timeOn 17 = .ok (.aload_n 0, 1) := by decide +kernel
theorem dX10_timeOn_18 : decode cX10_timeOn 18 = .ok (.getfield 9, 3) := by decide +kernel
theorem dX10_timeOn_21 : decode cX10_timeOn 21 = .ok (.iload_n 1, 1) := by decide +kernel
theorem dX10_timeOn_22 : decode cX10_timeOn 22 = .ok (.iaload, 1) := by decide +kernel
theorem dX10_timeOn_23 : decode cX10_timeOn 23 = .ok (.if_icmp .ge 71, 3) := by decide +kernel
theorem dX10_timeOn_26 : decode cX10_timeOn 26 = .ok (.aload_n 0, 1) := by decide +kernel
theorem dX10_timeOn_27 : decode cX10_timeOn 27 = .ok (.getfield 20, 3) := by decide +kernel
theorem dX10_timeOn_30 : decode cX10_timeOn 30 = .ok (.iload_n 1, 1) := by decide +kernel
theorem dX10_timeOn_31 : decode cX10_timeOn 31 = .ok (.aaload, 1) := by decide +kernel
theorem dX10_timeOn_32 : decode cX10_timeOn 32 = .ok (.iload 7, 2) := by decide +kernel
theorem dX10_timeOn_34 : decode cX10_timeOn 34 = .ok (.iaload, 1) := by decide +kernel
theorem dX10_timeOn_35 : decode cX10_timeOn 35 = .ok (.iload_n 2, 1) := by decide +kernel
theorem dX10_timeOn_36 : decode cX10_timeOn 36 = .ok (.if_icmp .gt 52, 3) := by decide +kernel
theorem dX10_timeOn_39 : decode cX10_timeOn 39 = .ok (.iinc 3 1, 3) := by decide +kernel
theorem dX10_timeOn_42 : decode cX10_timeOn 42 = .ok (.iload 4, 2) := by decide +kernel
theorem dX10_timeOn_44 : decode cX10_timeOn 44 = .ok (.aload_n 0, 1) := by decide +kernel
theorem dX10_timeOn_45 : decode cX10_timeOn 45 = .ok (.getfield 17, 3) := by decide +kernel
theorem dX10_timeOn_48 : decode cX10_timeOn 48 = .ok (.iload_n 1, 1) := by decide +kernel
theorem dX10_timeOn_49 : decode cX10_timeOn 49 = .ok (.aaload, 1) := by decide +kernel
theorem dX10_timeOn_50 : decode cX10_timeOn 50 = .ok (.iload 7, 2) := by decide +kernel
theorem dX10_timeOn_52 : decode cX10_timeOn 52 = .ok (.iaload, 1) := by decide +kernel
theorem dX10_timeOn_53 : decode cX10_timeOn 53 = .ok (.iadd, 1) := by decide +kernel
theorem dX10_timeOn_54 : decode cX10_timeOn 54 = .ok (.istore 4, 2) := by decide +kernel
theorem dX10_timeOn_56 : decode cX10_timeOn 56 = .ok (.iload 5, 2) := by decide +kernel
theorem dX10_timeOn_58 : decode cX10_timeOn 58 = .ok (.aload_n 0, 1) := by decide +kernel
theorem dX10_timeOn_59 : decode cX10_timeOn 59 = .ok (.getfield 17, 3) := by decide +kernel
theorem dX10_timeOn_62 : decode cX10_timeOn 62 = .ok (.iload_n 1, 1) := by decide +kernel
theorem dX10_timeOn_63 : decode cX10_timeOn 63 = .ok (.aaload, 1) := by decide +kernel
theorem dX10_timeOn_64 : decode cX10_timeOn 64 = .ok (.iload 7, 2) := by decide +kernel
theorem dX10_timeOn_66 : decode cX10_timeOn 66 = .ok (.iaload, 1) := by decide +kernel
theorem dX10_timeOn_67 : decode cX10_timeOn 67 = .ok (.invokestatic 24, 3) := by decide +kernel
theorem dX10_timeOn_70 : decode cX10_timeOn 70 = .ok (.istore 5, 2) := by decide +kernel
theorem dX10_timeOn_72 : decode cX10_timeOn 72 = .ok (.iload 6, 2) := by decide +kernel
theorem dX10_timeOn_74 : decode cX10_timeOn 74 = .ok (.aload_n 0, 1) := by decide +kernel
theorem dX10_timeOn_75 : decode cX10_timeOn 75 = .ok (.getfield 17, 3) := by decide +kernel
theorem dX10_timeOn_78 : decode cX10_timeOn 78 = .ok (.iload_n 1, 1) := by decide +kernel
theorem dX10_timeOn_79 : decode cX10_timeOn 79 = .ok (.aaload, 1) := by decide +kernel
theorem dX10_timeOn_80 : decode cX10_timeOn 80 = .ok (.iload 7, 2) := by decide +kernel
theorem dX10_timeOn_82 : decode cX10_timeOn 82 = .ok (.iaload, 1) := by decide +kernel
theorem dX10_timeOn_83 : decode cX10_timeOn 83 = .ok (.invokestatic 30, 3) := by decide +kernel
theorem dX10_timeOn_86 : decode cX10_timeOn 86 = .ok (.istore 6, 2) := by decide +kernel
theorem dX10_timeOn_88 : decode cX10_timeOn 88 = .ok (.iinc 7 1, 3) := by decide +kernel
theorem dX10_timeOn_91 : decode cX10_timeOn 91 = .ok (.goto (-76), 3) := by decide +kernel
theorem dX10_timeOn_94 : decode cX10_timeOn 94 = .ok (.iload_n 3, 1) := by decide +kernel
theorem dX10_timeOn_95 : decode cX10_timeOn 95 = .ok (.iconst 3, 1) := by decide +kernel
theorem dX10_timeOn_96 : decode cX10_timeOn 96 = .ok (.if_icmp .ge 8, 3) := by decide +kernel
theorem dX10_timeOn_99 : decode cX10_timeOn 99 = .ok (.bipush (-9), 2) := by decide +kernel
theorem dX10_timeOn_101 : decode cX10_timeOn 101 = .ok (.goto 15, 3) := by decide +kernel
theorem dX10_timeOn_104 : decode cX10_timeOn 104 = .ok (.iload 4, 2) := by decide +kernel
theorem dX10_timeOn_106 : decode cX10_timeOn 106 = .ok (.iload 5, 2) := by decide +kernel
theorem dX10_timeOn_108 : decode cX10_timeOn 108 = .ok (.isub, 1) := by decide +kernel
theorem dX10_timeOn_109 : decode cX10_timeOn 109 = .ok (.iload 6, 2) := by decide +kernel
theorem dX10_timeOn_111 : decode cX10_timeOn 111 = .ok (.isub, 1) := by decide +kernel
theorem dX10_timeOn_112 : decode cX10_timeOn 112 = .ok (.iload_n 3, 1) := by decide +kernel
theorem dX10_timeOn_113 : decode cX10_timeOn 113 = .ok (.iconst 2, 1) := by decide +kernel
theorem dX10_timeOn_114 : decode cX10_timeOn 114 = .ok (.isub, 1) := by decide +kernel
theorem dX10_timeOn_115 : decode cX10_timeOn 115 = .ok (.idiv, 1) := by decide +kernel
theorem dX10_timeOn_116 : decode cX10_timeOn 116 = .ok (.ireturn, 1) := by decide +kernel
theorem dJ6_bitCount_0f7a4_0 : decode cJ6_bitCount_0f7a4 0 = .ok (.iload_n 0, 1) := by decide +kernel
theorem dJ6_bitCount_0f7a4_1 : decode cJ6_bitCount_0f7a4 1 = .ok (.iload_n 0, 1) := by decide +kernel
theorem dJ6_bitCount_0f7a4_2 : decode cJ6_bitCount_0f7a4 2 = .ok (.iconst 1, 1) := by decide +kernel
theorem dJ6_bitCount_0f7a4_3 : decode cJ6_bitCount_0f7a4 3 = .ok (.iushr, 1) := by decide +kernel
theorem dJ6_bitCount_0f7a4_4 : decode cJ6_bitCount_0f7a4 4 = .ok (.ldc_w 265, 3) := by decide +kernel
theorem dJ6_bitCount_0f7a4_7 : decode cJ6_bitCount_0f7a4 7 = .ok (.iand, 1) := by decide +kernel
theorem dJ6_bitCount_0f7a4_8 : decode cJ6_bitCount_0f7a4 8 = .ok (.isub, 1) := by decide +kernel
theorem dJ6_bitCount_0f7a4_9 : decode cJ6_bitCount_0f7a4 9 = .ok (.istore_n 0, 1) := by decide +kernel
theorem dJ6_bitCount_0f7a4_10 : decode cJ6_bitCount_0f7a4 10 = .ok (.iload_n 0, 1) := by decide +kernel
theorem dJ6_bitCount_0f7a4_11 : decode cJ6_bitCount_0f7a4 11 = .ok (.ldc_w 266, 3) := by decide +kernel
theorem dJ6_bitCount_0f7a4_14 : decode cJ6_bitCount_0f7a4 14 = .ok (.iand, 1) := by decide +kernel
theorem dJ6_bitCount_0f7a4_15 : decode cJ6_bitCount_0f7a4 15 = .ok (.iload_n 0, 1) := by decide +kernel
theorem dJ6_bitCount_0f7a4_16 : decode cJ6_bitCount_0f7a4 16 = .ok (.iconst 2, 1) := by decide +kernel
theorem dJ6_bitCount_0f7a4_17 : decode cJ6_bitCount_0f7a4 17 = .ok (.iushr, 1) := by decide +kernel
theorem dJ6_bitCount_0f7a4_18 : decode cJ6_bitCount_0f7a4 18 = .ok (.ldc_w 266, 3) := by decide +kernel
theorem dJ6_bitCount_0f7a4_21 : decode cJ6_bitCount_0f7a4 21 = .ok (.iand, 1) := by decide +kernel
theorem dJ6_bitCount_0f7a4_22 : decode cJ6_bitCount_0f7a4 22 = .ok (.iadd, 1) := by decide +kernel
theorem dJ6_bitCount_0f7a4_23 : decode cJ6_bitCount_0f7a4 23 = .ok (.istore_n 0, 1) := by decide +kernel
theorem dJ6_bitCount_0f7a4_24 : decode cJ6_bitCount_0f7a4 24 = .ok (.iload_n 0, 1) := by decide +kernel
theorem dJ6_bitCount_0f7a4_25 : decode cJ6_bitCount_0f7a4 25 = .ok (.iload_n 0, 1) := by decide +kernel
theorem dJ6_bitCount_0f7a4_26 : decode cJ6_bitCount_0f7a4 26 = .ok (.iconst 4, 1) := by decide +kernel
theorem dJ6_bitCount_0f7a4_27 : decode cJ6_bitCount_0f7a4 27 = .ok (.iushr, 1) := by decide +kernel
theorem dJ6_bitCount_0f7a4_28 : decode cJ6_bitCount_0f7a4 28 = .ok (.iadd, 1) := by decide +kernel
theorem dJ6_bitCount_0f7a4_29 : decode cJ6_bitCount_0f7a4 29 = .ok (.ldc_w 267, 3) := by decide +kernel
theorem dJ6_bitCount_0f7a4_32 : decode cJ6_bitCount_0f7a4 32 = .ok (.iand, 1) := by decide +kernel
theorem dJ6_bitCount_0f7a4_33 : decode cJ6_bitCount_0f7a4 33 = .ok (.istore_n 0, 1) := by decide +kernel
theorem dJ6_bitCount_0f7a4_34 : decode cJ6_bitCount_0f7a4 34 = .ok (.iload_n 0, 1) := by decide +kernel
theorem dJ6_bitCount_0f7a4_35 : decode cJ6_bitCount_0f7a4 35 = .ok (.iload_n 0, 1) := by decide +kernel
theorem dJ6_bitCount_0f7a4_36 : decode cJ6_bitCount_0f7a4 36 = .ok (.bipush 8, 2) := by decide +kernel
theorem dJ6_bitCount_0f7a4_38 : decode cJ6_bitCount_0f7a4 38 = .ok (.iushr, 1) := by decide +kernel
theorem dJ6_bitCount_0f7a4_39 : decode cJ6_bitCount_0f7a4 39 = .ok (.iadd, 1) := by decide +kernel
theorem dJ6_bitCount_0f7a4_40 : decode cJ6_bitCount_0f7a4 40 = .ok (.istore_n 0, 1) := by decide +kernel
theorem dJ6_bitCount_0f7a4_41 : decode cJ6_bitCount_0f7a4 41 = .ok (.iload_n 0, 1) := by decide +kernel
theorem dJ6_bitCount_0f7a4_42 : decode cJ6_bitCount_0f7a4 42 = .ok (.iload_n 0, 1) := by decide +kernel
theorem dJ6_bitCount_0f7a4_43 : decode cJ6_bitCount_0f7a4 43 = .ok (.bipush 16, 2) := by decide +kernel
theorem dJ6_bitCount_0f7a4_45 : decode cJ6_bitCount_0f7a4 45 = .ok (.iushr, 1) := by decide +kernel
theorem dJ6_bitCount_0f7a4_46 : decode cJ6_bitCount_0f7a4 46 = .ok (.iadd, 1) := by decide +kernel
theorem dJ6_bitCount_0f7a4_47 : decode cJ6_bitCount_0f7a4 47 = .ok (.istore_n 0, 1) := by decide +kernel
theorem dJ6_bitCount_0f7a4_48 : decode cJ6_bitCount_0f7a4 48 = .ok (.iload_n 0, 1) := by decide +kernel
theorem dJ6_bitCount_0f7a4_49 : decode cJ6_bitCount_0f7a4 49 = .ok (.bipush 63, 2) := by decide +kernel
theorem dJ6_bitCount_0f7a4_51 : decode cJ6_bitCount_0f7a4 51 = .ok (.iand, 1) := by decide +kernel
theorem dJ6_bitCount_0f7a4_52 : decode cJ6_bitCount_0f7a4 52 = .ok (.ireturn, 1) := by decide +kernel
theorem dJ9_abs_0f7a4_0 : decode cJ9_abs_0f7a4 0 = .ok (.iload_n 0, 1) := by decide +kernel
theorem dJ9_abs_0f7a4_1 : decode cJ9_abs_0f7a4 1 = .ok (.ifCond .ge 8, 3) := by decide +kernel
theorem dJ9_abs_0f7a4_4 : decode cJ9_abs_0f7a4 4 = .ok (.iload_n 0, 1) := by decide +kernel
theorem dJ9_abs_0f7a4_5 : decode cJ9_abs_0f7a4 5 = .ok (.ineg, 1) := by decide +kernel
theorem dJ9_abs_0f7a4_6 : decode cJ9_abs_0f7a4 6 = .ok (.goto 4, 3) := by decide +kernel
theorem dJ9_abs_0f7a4_9 : decode cJ9_abs_0f7a4 9 = .ok (.iload_n 0, 1) := by decide +kernel
theorem dJ9_abs_0f7a4_10 : decode cJ9_abs_0f7a4 10 = .ok (.ireturn, 1) := by decide +kernel
theorem dJ9_max_7cf53_0 : decode cJ9_max_7cf53 0 = .ok (.iload_n 0, 1) := by decide +kernel
theorem dJ9_max_7cf53_1 : decode cJ9_max_7cf53 1 = .ok (.iload_n 1, 1) := by decide +kernel
theorem dJ9_max_7cf53_2 : decode cJ9_max_7cf53 2 = .ok (.if_icmp .lt 7, 3) := by decide +kernel
theorem dJ9_max_7cf53_5 : decode cJ9_max_7cf53 5 = .ok (.iload_n 0, 1) := by decide +kernel
theorem dJ9_max_7cf53_6 : decode cJ9_max_7cf53 6 = .ok (.goto 4, 3) := by decide +kernel
theorem dJ9_max_7cf53_9 : decode cJ9_max_7cf53 9 = .ok (.iload_n 1, 1) := by decide +kernel
theorem dJ9_max_7cf53_10 : decode cJ9_max_7cf53 10 = .ok (.ireturn, 1) := by decide +kernel
theorem dJ9_min_7cf53_0 : decode cJ9_min_7cf53 0 = .ok (.iload_n 0, 1) := by decide +kernel
theorem dJ9_min_7cf53_1 : decode cJ9_min_7cf53 1 = .ok (.iload_n 1, 1) := by decide +kernel
theorem dJ9_min_7cf53_2 : decode cJ9_min_7cf53 2 = .ok (.if_icmp .gt 7, 3) := by decide +kernel
theorem dJ9_min_7cf53_5 : decode cJ9_min_7cf53 5 = .ok (.iload_n 0, 1) := by decide +kernel
theorem dJ9_min_7cf53_6 : decode cJ9_min_7cf53 6 = .ok (.goto 4, 3) := by decide +kernel
theorem dJ9_min_7cf53_9 : decode cJ9_min_7cf53 9 = .ok (.iload_n 1, 1) := by decide +kernel
theorem dJ9_min_7cf53_10 : decode cJ9_min_7cf53 10 = .ok (.ireturn, 1) := by decide +kernel
