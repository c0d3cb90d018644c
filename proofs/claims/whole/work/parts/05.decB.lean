theorem dX9_init_0 : decode cX9_init 0 = .ok (.aload_n 0, 1) := by decide +kernel
theorem dX9_init_1 : decode cX9_init 1 = .ok (.invokespecial 1, 3) := by decide +kernel
theorem dX9_init_4 : decode cX9_init 4 = .ok (.aload_n 0, 1) := by decide +kernel
theorem dX9_init_5 : decode cX9_init 5 = .ok (.new 7, 3) := by decide +kernel
theorem dX9_init_8 : decode cX9_init 8 = .ok (.dup, 1) := by decide +kernel
theorem dX9_init_9 : decode cX9_init 9 = .ok (.invokespecial 9, 3) := by decide +kernel
theorem dX9_init_12 : decode cX9_init 12 = .ok (.putfield 10, 3) := by decide +kernel
theorem dX9_init_15 : decode cX9_init 15 = .ok (.aload_n 0, 1) := by decide +kernel
theorem dX9_init_16 : decode cX9_init 16 = .ok (.new 7, 3) := by decide +kernel
theorem dX9_init_19 : decode cX9_init 19 = .ok (.dup, 1) := by decide +kernel
theorem dX9_init_20 : decode cX9_init 20 = .ok (.invokespecial 9, 3) := by decide +kernel
theorem dX9_init_23 : decode cX9_init 23 = .ok (.putfield 16, 3) := by decide +kernel
theorem dX9_init_26 : decode cX9_init 26 = .ok (.aload_n 0, 1) := by decide +kernel
theorem dX9_init_27 : decode cX9_init 27 = .ok (.new 7, 3) := by decide +kernel
theorem dX9_init_30 : decode cX9_init 30 = .ok (.dup, 1) := by decide +kernel
theorem dX9_init_31 : decode cX9_init 31 = .ok (.invokespecial 9, 3) := by decide +kernel
theorem dX9_init_34 : decode cX9_init 34 = .ok (.putfield 19, 3) := by decide +kernel
theorem dX9_init_37 : decode cX9_init 37 = .ok (.aload_n 0, 1) := by decide +kernel
theorem dX9_init_38 : decode cX9_init 38 = .ok (.iconst 0, 1) := by decide +kernel
theorem dX9_init_39 : decode cX9_init 39 = .ok (.putfield 22, 3) := by decide +kernel
theorem dX9_init_42 : decode cX9_init 42 = .ok (.aload_n 0, 1) := by decide +kernel
theorem dX9_init_43 : decode cX9_init 43 = .ok (.bipush 8, 2) := by decide +kernel
theorem dX9_init_45 : decode cX9_init 45 = .ok (.anewarray 26, 3) := by decide +kernel
theorem dX9_init_48 : decode cX9_init 48 = .ok (.putfield 28, 3) := by decide +kernel
theorem dX9_init_51 : decode cX9_init 51 = .ok (.iconst 0, 1) := by decide +kernel
theorem dX9_init_52 : decode cX9_init 52 = .ok (.istore_n 1, 1) := by decide +kernel
theorem dX9_init_53 : decode cX9_init 53 = .ok (.iload_n 1, 1) := by decide +kernel
theorem dX9_init_54 : decode cX9_init 54 = .ok (.bipush 8, 2) := by decide +kernel
theorem dX9_init_56 : decode cX9_init 56 = .ok (.if_icmp .ge 22, 3) := by decide +kernel
theorem dX9_init_59 : decode cX9_init 59 = .ok (.aload_n 0, 1) := by decide +kernel
theorem dX9_init_60 : decode cX9_init 60 = .ok (.getfield 28, 3) := by decide +kernel
theorem dX9_init_63 : decode cX9_init 63 = .ok (.iload_n 1, 1) := by decide +kernel
theorem dX9_init_64 : decode cX9_init 64 = .ok (.new 26, 3) := by decide +kernel
theorem dX9_init_67 : decode cX9_init 67 = .ok (.dup, 1) := by decide +kernel
theorem dX9_init_68 : decode cX9_init 68 = .ok (.invokespecial 32, 3) := by decide +kernel
theorem dX9_init_71 : decode cX9_init 71 = .ok (.aastore, 1) := by decide +kernel
theorem dX9_init_72 : decode cX9_init 72 = .ok (.iinc 1 1, 3) := by decide +kernel
theorem dX9_init_75 : decode cX9_init 75 = .ok (.goto (-22), 3) := by decide +kernel
theorem dX9_init_78 : decode cX9_init 78 = .ok (.return_, 1) := by decide +kernel
theorem dX9_house_0 : decode cX9_house 0 = .ok (.iload_n 1, 1) := by decide +kernel
theorem dX9_house_1 : decode cX9_house 1 = .ok (.invokestatic 33, 3) := by decide +kernel
theorem dX9_house_4 : decode cX9_house 4 = .ok (.ifCond .ne 5, 3) := by decide +kernel
theorem dX9_house_7 : decode cX9_house 7 = .ok (.iconst (-1), 1) := by decide +kernel
theorem dX9_house_8 : decode cX9_house 8 = .ok (.ireturn, 1) := by decide +kernel
theorem dX9_house_9 : decode cX9_house 9 = .ok (.aload_n 0, 1) := by decide +kernel
theorem dX9_house_10 : decode cX9_house 10 = .ok (.getfield 28, 3) := by decide +kernel
theorem dX9_house_13 : decode cX9_house 13 = .ok (.iload_n 1, 1) := by decide +kernel
theorem dX9_house_14 : decode cX9_house 14 = .ok (.aaload, 1) := by decide +kernel
theorem dX9_house_15 : decode cX9_house 15 = .ok (.astore_n 2, 1) := by decide +kernel
theorem dX9_house_16 : decode cX9_house 16 = .ok (.aload_n 2, 1) := by decide +kernel
theorem dX9_house_17 : decode cX9_house 17 = .ok (.invokevirtual 37, 3) := by decide +kernel
theorem dX9_house_20 : decode cX9_house 20 = .ok (.istore_n 3, 1) := by decide +kernel
theorem dX9_house_21 : decode cX9_house 21 = .ok (.iload_n 3, 1) := by decide +kernel
theorem dX9_house_22 : decode cX9_house 22 = .ok (.ifCond .ge 5, 3) := by decide +kernel
theorem dX9_house_25 : decode cX9_house 25 = .ok (.iload_n 3, 1) := by decide +kernel
theorem dX9_house_26 : decode cX9_house 26 = .ok (.ireturn, 1) := by decide +kernel
theorem dX9_house_27 : decode cX9_house 27 = .ok (.aload_n 2, 1) := by decide +kernel
theorem dX9_house_28 : decode cX9_house 28 = .ok (.getfield 41, 3) := by decide +kernel
theorem dX9_house_31 : decode cX9_house 31 = .ok (.ifCond .eq 6, 3) := by decide +kernel
theorem dX9_house_34 : decode cX9_house 34 = .ok (.bipush (-12), 2) := by decide +kernel
theorem dX9_house_36 : decode cX9_house 36 = .ok (.ireturn, 1) := by decide +kernel
theorem dX9_house_37 : decode cX9_house 37 = .ok (.aload_n 2, 1) := by decide +kernel
theorem dX9_house_38 : decode cX9_house 38 = .ok (.invokestatic 45, 3) := by decide +kernel
theorem dX9_house_41 : decode cX9_house 41 = .ok (.istore 4, 2) := by decide +kernel
theorem dX9_house_43 : decode cX9_house 43 = .ok (.iload 4, 2) := by decide +kernel
theorem dX9_house_45 : decode cX9_house 45 = .ok (.ifCond .lt 10, 3) := by decide +kernel
theorem dX9_house_48 : decode cX9_house 48 = .ok (.sipush (-1000), 3) := by decide +kernel
theorem dX9_house_51 : decode cX9_house 51 = .ok (.iload 4, 2) := by decide +kernel
theorem dX9_house_53 : decode cX9_house 53 = .ok (.isub, 1) := by decide +kernel
theorem dX9_house_54 : decode cX9_house 54 = .ok (.ireturn, 1) := by decide +kernel
theorem dX9_house_55 : decode cX9_house 55 = .ok (.aload_n 0, 1) := by decide +kernel
theorem dX9_house_56 : decode cX9_house 56 = .ok (.getfield 19, 3) := by decide +kernel
theorem dX9_house_59 : decode cX9_house 59 = .ok (.aload_n 0, 1) := by decide +kernel
theorem dX9_house_60 : decode cX9_house 60 = .ok (.getfield 10, 3) := by decide +kernel
theorem dX9_house_63 : decode cX9_house 63 = .ok (.invokevirtual 51, 3) := by decide +kernel
theorem dX9_house_66 : decode cX9_house 66 = .ok (.aload_n 2, 1) := by decide +kernel
theorem dX9_house_67 : decode cX9_house 67 = .ok (.aload_n 0, 1) := by decide +kernel
theorem dX9_house_68 : decode cX9_house 68 = .ok (.getfield 19, 3) := by decide +kernel
theorem dX9_house_71 : decode cX9_house 71 = .ok (.invokestatic 55, 3) := by decide +kernel
theorem dX9_house_74 : decode cX9_house 74 = .ok (.istore 5, 2) := by decide +kernel
theorem dX9_house_76 : decode cX9_house 76 = .ok (.iload 5, 2) := by decide +kernel
theorem dX9_house_78 : decode cX9_house 78 = .ok (.ifCond .lt 14, 3) := by decide +kernel
theorem dX9_house_81 : decode cX9_house 81 = .ok (.aload_n 0, 1) := by decide +kernel
theorem dX9_house_82 : decode cX9_house 82 = .ok (.getfield 10, 3) := by decide +kernel
theorem dX9_house_85 : decode cX9_house 85 = .ok (.aload_n 0, 1) := by decide +kernel
theorem dX9_house_86 : decode cX9_house 86 = .ok (.getfield 19, 3) := by decide +kernel
theorem dX9_house_89 : decode cX9_house 89 = .ok (.invokevirtual 51, 3) := by decide +kernel
theorem dX9_house_92 : decode cX9_house 92 = .ok (.iload 5, 2) := by decide +kernel
theorem dX9_house_94 : decode cX9_house 94 = .ok (.ireturn, 1) := by decide +kernel
theorem dX9_window_0 : decode cX9_window 0 = .ok (.aload_n 0, 1) := by decide +kernel
theorem dX9_window_1 : decode cX9_window 1 = .ok (.getfield 10, 3) := by decide +kernel
theorem dX9_window_4 : decode cX9_window 4 = .ok (.iload_n 1, 1) := by decide +kernel
theorem dX9_window_5 : decode cX9_window 5 = .ok (.invokevirtual 59, 3) := by decide +kernel
theorem dX9_window_8 : decode cX9_window 8 = .ok (.ifCond .ne 5, 3) := by decide +kernel
theorem dX9_window_11 : decode cX9_window 11 = .ok (.iconst (-1), 1) := by decide +kernel
theorem dX9_window_12 : decode cX9_window 12 = .ok (.ireturn, 1) := by decide +kernel
theorem dX9_window_13 : decode cX9_window 13 = .ok (.iload_n 2, 1) := by decide +kernel
theorem dX9_window_14 : decode cX9_window 14 = .ok (.tableswitch 117 0 5 #[38, 48, 58, 68, 78, 95], 38) := by decide +kernel
theorem dX9_window_52 : decode cX9_window 52 = .ok (.aload_n 0, 1) := by decide +kernel
theorem dX9_window_53 : decode cX9_window 53 = .ok (.getfield 10, 3) := by decide +kernel
theorem dX9_window_56 : decode cX9_window 56 = .ok (.getfield 62, 3) := by decide +kernel
theorem dX9_window_59 : decode cX9_window 59 = .ok (.iload_n 1, 1) := by decide +kernel
theorem dX9_window_60 : decode cX9_window 60 = .ok (.iaload, 1) := by decide +kernel
theorem dX9_window_61 : decode cX9_window 61 = .ok (.ireturn, 1) := by decide +kernel
theorem dX9_window_62 : decode cX9_window 62 = .ok (.aload_n 0, 1) := by decide +kernel
theorem dX9_window_63 : decode cX9_window 63 = .ok (.getfield 10, 3) := by decide +kernel
theorem dX9_window_66 : decode cX9_window 66 = .ok (.getfield 66, 3) := by decide +kernel
theorem dX9_window_69 : decode cX9_window 69 = .ok (.iload_n 1, 1) := by decide +kernel
theorem dX9_window_70 : decode cX9_window 70 = .ok (.iaload, 1) := by decide +kernel
theorem dX9_window_71 : decode cX9_window 71 = .ok (.ireturn, 1) := by decide +kernel
theorem dX9_window_72 : decode cX9_window 72 = .ok (.aload_n 0, 1) := by decide +kernel
theorem dX9_window_73 : decode cX9_window 73 = .ok (.getfield 10, 3) := by decide +kernel
theorem dX9_window_76 : decode cX9_window 76 = .ok (.getfield 69, 3) := by decide +kernel
theorem dX9_window_79 : decode cX9_window 79 = .ok (.iload_n 1, 1) := by decide +kernel
theorem dX9_window_80 : decode cX9_window 80 = .ok (.iaload, 1) := by decide +kernel
theorem dX9_window_81 : decode cX9_window 81 = .ok (.ireturn, 1) := by decide +kernel
theorem dX9_window_82 : decode cX9_window 82 = .ok (.aload_n 0, 1) := by decide +kernel
theorem dX9_window_83 : decode cX9_window 83 = .ok (.getfield 10, 3) := by decide +kernel
theorem dX9_window_86 : decode cX9_window 86 = .ok (.getfield 72, 3) := by decide +kernel
theorem dX9_window_89 : decode cX9_window 89 = .ok (.iload_n 1, 1) := by decide +kernel
theorem dX9_window_90 : decode cX9_window 90 = .ok (.iaload, 1) := by decide +kernel
theorem dX9_window_91 : decode cX9_window 91 = .ok (.ireturn, 1) := by decide +kernel
theorem dX9_window_92 : decode cX9_window 92 = .ok (.aload_n 0, 1) := by decide +kernel
theorem dX9_window_93 : decode cX9_window 93 = .ok (.getfield 10, 3) := by decide +kernel
theorem dX9_window_96 : decode cX9_window 96 = .ok (.iload_n 1, 1) := by decide +kernel
theorem dX9_window_97 : decode cX9_window 97 = .ok (.invokevirtual 75, 3) := by decide +kernel
theorem dX9_window_100 : decode cX9_window 100 = .ok (.ifCond .eq 7, 3) := by decide +kernel
theorem dX9_window_103 : decode cX9_window 103 = .ok (.iconst 1, 1) := by decide +kernel
theorem dX9_window_104 : decode cX9_window 104 = .ok (.goto 4, 3) := by decide +kernel
theorem dX9_window_107 : decode cX9_window 107 = .ok (.iconst 0, 1) := by decide +kernel
theorem dX9_window_108 : decode cX9_window 108 = .ok (.ireturn, 1) := by decide +kernel
theorem dX9_window_109 : decode cX9_window 109 = .ok (.aload_n 0, 1) := by decide +kernel
theorem dX9_window_110 : decode cX9_window 110 = .ok (.getfield 10, 3) := by decide +kernel
theorem dX9_window_113 : decode cX9_window 113 = .ok (.getfield 62, 3) := by decide +kernel
theorem dX9_window_116 : decode cX9_window 116 = .ok (.iload_n 1, 1) := by decide +kernel
theorem dX9_window_117 : decode cX9_window 117 = .ok (.iaload, 1) := by decide +kernel
theorem dX9_window_118 : decode cX9_window 118 = .ok (.aload_n 0, 1) := by decide +kernel
theorem dX9_window_119 : decode cX9_window 119 = .ok (.getfield 10, 3) := by decide +kernel
theorem dX9_window_122 : decode cX9_window 122 = .ok (.getfield 66, 3) := by decide +kernel
theorem dX9_window_125 : decode cX9_window 125 = .ok (.iload_n 1, 1) := by decide +kernel
theorem dX9_window_126 : decode cX9_window 126 = .ok (.iaload, 1) := by decide +kernel
theorem dX9_window_127 : decode cX9_window 127 = .ok (.invokestatic 78, 3) := by decide +kernel
theorem dX9_window_130 : decode cX9_window 130 = .ok (.ireturn, 1) := by decide +kernel
theorem dX9_window_131 : decode cX9_window 131 = .ok (.iconst (-1), 1) := by decide +kernel
theorem dX9_window_132 : decode cX9_window 132 = .ok (.ireturn, 1) := by decide +kernel
theorem dX9_at_0 : decode cX9_at 0 = .ok (.aload_n 0, 1) := by decide +kernel
theorem dX9_at_1 : decode cX9_at 1 = .ok (.getfield 10, 3) := by decide +kernel
theorem dX9_at_4 : decode cX9_at 4 = .ok (.iload_n 1, 1) := by decide +kernel
theorem dX9_at_5 : decode cX9_at 5 = .ok (.invokevirtual 59, 3) := by decide +kernel
theorem dX9_at_8 : decode cX9_at 8 = .ok (.ifCond .eq 10, 3) := by decide +kernel
theorem dX9_at_11 : decode cX9_at 11 = .ok (.iload_n 2, 1) := by decide +kernel
theorem dX9_at_12 : decode cX9_at 12 = .ok (.invokestatic 84, 3) := by decide +kernel
theorem dX9_at_15 : decode cX9_at 15 = .ok (.ifCond .ne 5, 3) := by decide +kernel
theorem dX9_at_18 : decode cX9_at 18 = .ok (.iconst (-1), 1) := by decide +kernel
theorem dX9_at_19 : decode cX9_at 19 = .ok (.ireturn, 1) := by decide +kernel
theorem dX9_at_20 : decode cX9_at 20 = .ok (.iload_n 3, 1) := by decide +kernel
theorem dX9_at_21 : decode cX9_at 21 = .ok (.tableswitch 65 0 2 #[27, 37, 55], 27) := by decide +kernel
theorem dX9_at_48 : decode cX9_at 48 = .ok (.aload_n 0, 1) := by decide +kernel
theorem dX9_at_49 : decode cX9_at 49 = .ok (.getfield 10, 3) := by decide +kernel
theorem dX9_at_52 : decode cX9_at 52 = .ok (.iload_n 1, 1) := by decide +kernel
theorem dX9_at_53 : decode cX9_at 53 = .ok (.iload_n 2, 1) := by decide +kernel
theorem dX9_at_54 : decode cX9_at 54 = .ok (.invokevirtual 87, 3) := by decide +kernel
theorem dX9_at_57 : decode cX9_at 57 = .ok (.ireturn, 1) := by decide +kernel
theorem dX9_at_58 : decode cX9_at 58 = .ok (.aload_n 0, 1) := by decide +kernel
theorem dX9_at_59 : decode cX9_at 59 = .ok (.getfield 10, 3) := by decide +kernel
theorem dX9_at_62 : decode cX9_at 62 = .ok (.iload_n 1, 1) := by decide +kernel
theorem dX9_at_63 : decode cX9_at 63 = .ok (.iload_n 2, 1) := by decide +kernel
theorem dX9_at_64 : decode cX9_at 64 = .ok (.invokevirtual 90, 3) := by decide +kernel
theorem dX9_at_67 : decode cX9_at 67 = .ok (.ifCond .eq 7, 3) := by decide +kernel
theorem dX9_at_70 : decode cX9_at 70 = .ok (.iconst 1, 1) := by decide +kernel
theorem dX9_at_71 : decode cX9_at 71 = .ok (.goto 4, 3) := by decide +kernel
theorem dX9_at_74 : decode cX9_at 74 = .ok (.iconst 0, 1) := by decide +kernel
theorem dX9_at_75 : decode cX9_at 75 = .ok (.ireturn, 1) := by decide +kernel
theorem dX9_at_76 : decode cX9_at 76 = .ok (.aload_n 0, 1) := by decide +kernel
theorem dX9_at_77 : decode cX9_at 77 = .ok (.getfield 10, 3) := by decide +kernel
theorem dX9_at_80 : decode cX9_at 80 = .ok (.iload_n 1, 1) := by decide +kernel
theorem dX9_at_81 : decode cX9_at 81 = .ok (.iload_n 2, 1) := by decide +kernel
theorem dX9_at_82 : decode cX9_at 82 = .ok (.invokevirtual 94, 3) := by decide +kernel
theorem dX9_at_85 : decode cX9_at 85 = .ok (.ireturn, 1) := by decide +kernel
theorem dX9_at_86 : decode cX9_at 86 = .ok (.iconst (-1), 1) := by decide +kernel
theorem dX9_at_87 : decode cX9_at 87 = .ok (.ireturn, 1) := by decide +kernel
theorem dX9_builds_0 : decode cX9_builds 0 = .ok (.iload_n 1, 1) := by decide +kernel
theorem dX9_builds_1 : decode cX9_builds 1 = .ok (.invokestatic 33, 3) := by decide +kernel
theorem dX9_builds_4 : decode cX9_builds 4 = .ok (.ifCond .eq 17, 3) := by decide +kernel
theorem dX9_builds_7 : decode cX9_builds 7 = .ok (.iload_n 2, 1) := by decide +kernel
theorem dX9_builds_8 : decode cX9_builds 8 = .ok (.invokestatic 97, 3) := by decide +kernel
theorem dX9_builds_11 : decode cX9_builds 11 = .ok (.ifCond .eq 10, 3) := by decide +kernel
theorem dX9_builds_14 : decode cX9_builds 14 = .ok (.iload_n 3, 1) := by decide +kernel
theorem dX9_builds_15 : decode cX9_builds 15 = .ok (.invokestatic 84, 3) := by decide +kernel
theorem dX9_builds_18 : decode cX9_builds 18 = .ok (.ifCond .ne 5, 3) := by decide +kernel
theorem dX9_builds_21 : decode cX9_builds 21 = .ok (.iconst (-1), 1) := by decide +kernel
theorem dX9_builds_22 : decode cX9_builds 22 = .ok (.ireturn, 1) := by decide +kernel
theorem dX9_builds_23 : decode cX9_builds 23 = .ok (.aload_n 0, 1) := by decide +kernel
theorem dX9_builds_24 : decode cX9_builds 24 = .ok (.getfield 28, 3) := by decide +kernel
theorem dX9_builds_27 : decode cX9_builds 27 = .ok (.iload_n 1, 1) := by decide +kernel
theorem dX9_builds_28 : decode cX9_builds 28 = .ok (.aaload, 1) := by decide +kernel
theorem dX9_builds_29 : decode cX9_builds 29 = .ok (.astore 4, 2) := by decide +kernel
theorem dX9_builds_31 : decode cX9_builds 31 = .ok (.aload 4, 2) := by decide +kernel
theorem dX9_builds_33 : decode cX9_builds 33 = .ok (.invokevirtual 100, 3) := by decide +kernel
theorem dX9_builds_36 : decode cX9_builds 36 = .ok (.istore 5, 2) := by decide +kernel
theorem dX9_builds_38 : decode cX9_builds 38 = .ok (.iload 5, 2) := by decide +kernel
theorem dX9_builds_40 : decode cX9_builds 40 = .ok (.ifCond .ge 6, 3) := by decide +kernel
theorem dX9_builds_43 : decode cX9_builds 43 = .ok (.iload 5, 2) := by decide +kernel
theorem dX9_builds_45 : decode cX9_builds 45 = .ok (.ireturn, 1) := by decide +kernel
theorem dX9_builds_46 : decode cX9_builds 46 = .ok (.aload_n 0, 1) := by decide +kernel
theorem dX9_builds_47 : decode cX9_builds 47 = .ok (.getfield 10, 3) := by decide +kernel
theorem dX9_builds_50 : decode cX9_builds 50 = .ok (.aload 4, 2) := by decide +kernel
theorem dX9_builds_52 : decode cX9_builds 52 = .ok (.getfield 103, 3) := by decide +kernel
theorem dX9_builds_55 : decode cX9_builds 55 = .ok (.aload 4, 2) := by decide +kernel
theorem dX9_builds_57 : decode cX9_builds 57 = .ok (.getfield 106, 3) := by decide +kernel
theorem dX9_builds_60 : decode cX9_builds 60 = .ok (.iload_n 2, 1) := by decide +kernel
theorem dX9_builds_61 : decode cX9_builds 61 = .ok (.iload_n 3, 1) := by decide +kernel
theorem dX9_builds_62 : decode cX9_builds 62 = .ok (.invokevirtual 109, 3) := by decide +kernel
theorem dX9_builds_65 : decode cX9_builds 65 = .ok (.ireturn, 1) := by decide +kernel
theorem dX9_stops_0 : decode cX9_stops 0 = .ok (.aload_n 0, 1) := by decide +kernel
theorem dX9_stops_1 : decode cX9_stops 1 = .ok (.getfield 10, 3) := by decide +kernel
theorem dX9_stops_4 : decode cX9_stops 4 = .ok (.iload_n 1, 1) := by decide +kernel
theorem dX9_stops_5 : decode cX9_stops 5 = .ok (.invokevirtual 113, 3) := by decide +kernel
theorem dX9_stops_8 : decode cX9_stops 8 = .ok (.ireturn, 1) := by decide +kernel
theorem dX9_needs_0 : decode cX9_needs 0 = .ok (.aload_n 0, 1) := by decide +kernel
theorem dX9_needs_1 : decode cX9_needs 1 = .ok (.getfield 10, 3) := by decide +kernel
theorem dX9_needs_4 : decode cX9_needs 4 = .ok (.iload_n 1, 1) := by decide +kernel
theorem dX9_needs_5 : decode cX9_needs 5 = .ok (.iload_n 2, 1) := by decide +kernel
theorem dX9_needs_6 : decode cX9_needs 6 = .ok (.invokevirtual 117, 3) := by decide +kernel
theorem dX9_needs_9 : decode cX9_needs 9 = .ok (.ireturn, 1) := by decide +kernel
theorem dX9_set_0 : decode cX9_set 0 = .ok (.iload_n 1, 1) := by decide +kernel
theorem dX9_set_1 : decode cX9_set 1 = .ok (.lookupswitch 45 #[(0, 27), (1, 36)], 27) := by decide +kernel
theorem dX9_set_28 : decode cX9_set 28 = .ok (.aload_n 0, 1) := by decide +kernel
theorem dX9_set_29 : decode cX9_set 29 = .ok (.getfield 10, 3) := by decide +kernel
theorem dX9_set_32 : decode cX9_set 32 = .ok (.iload_n 2, 1) := by decide +kernel
theorem dX9_set_33 : decode cX9_set 33 = .ok (.invokevirtual 120, 3) := by decide +kernel
theorem dX9_set_36 : decode cX9_set 36 = .ok (.ireturn, 1) := by decide +kernel
theorem dX9_set_37 : decode cX9_set 37 = .ok (.aload_n 0, 1) := by decide +kernel
theorem dX9_set_38 : decode cX9_set 38 = .ok (.getfield 10, 3) := by decide +kernel
theorem dX9_set_41 : decode cX9_set 41 = .ok (.iload_n 2, 1) := by decide +kernel
theorem dX9_set_42 : decode cX9_set 42 = .ok (.invokevirtual 123, 3) := by decide +kernel
theorem dX9_set_45 : decode cX9_set 45 = .ok (.ireturn, 1) := by decide +kernel
theorem dX9_set_46 : decode cX9_set 46 = .ok (.iconst (-1), 1) := by decide +kernel
theorem dX9_set_47 : decode cX9_set 47 = .ok (.ireturn, 1) := by decide +kernel
theorem dX9_years_0 : decode cX9_years 0 = .ok (.aload_n 0, 1) := by decide +kernel
theorem dX9_years_1 : decode cX9_years 1 = .ok (.getfield 10, 3) := by decide +kernel
theorem dX9_years_4 : decode cX9_years 4 = .ok (.iload_n 1, 1) := by decide +kernel
theorem dX9_years_5 : decode cX9_years 5 = .ok (.invokevirtual 126, 3) := by decide +kernel
theorem dX9_years_8 : decode cX9_years 8 = .ok (.ireturn, 1) := by decide +kernel
theorem dX9_pays_0 : decode cX9_pays 0 = .ok (.aload_n 0, 1) := by decide +kernel
theorem dX9_pays_1 : decode cX9_pays 1 = .ok (.getfield 10, 3) := by decide +kernel
theorem dX9_pays_4 : decode cX9_pays 4 = .ok (.iload_n 1, 1) := by decide +kernel
theorem dX9_pays_5 : decode cX9_pays 5 = .ok (.invokevirtual 129, 3) := by decide +kernel
theorem dX9_pays_8 : decode cX9_pays 8 = .ok (.ireturn, 1) := by decide +kernel
theorem dX9_light_0 : decode cX9_light 0 = .ok (.iload_n 1, 1) := by decide +kernel
theorem dX9_light_1 : decode cX9_light 1 = .ok (.invokestatic 97, 3) := by decide +kernel
theorem dX9_light_4 : decode cX9_light 4 = .ok (.ifCond .eq 10, 3) := by decide +kernel
theorem dX9_light_7 : decode cX9_light 7 = .ok (.iload_n 2, 1) := by decide +kernel
theorem dX9_light_8 : decode cX9_light 8 = .ok (.invokestatic 84, 3) := by decide +kernel
theorem dX9_light_11 : decode cX9_light 11 = .ok (.ifCond .ne 5, 3) := by decide +kernel
theorem dX9_light_14 : decode cX9_light 14 = .ok (.iconst (-1), 1) := by decide +kernel
theorem dX9_light_15 : decode cX9_light 15 = .ok (.ireturn, 1) := by decide +kernel
theorem dX9_light_16 : decode cX9_light 16 = .ok (.aload_n 0, 1) := by decide +kernel
theorem dX9_light_17 : decode cX9_light 17 = .ok (.getfield 10, 3) := by decide +kernel
theorem dX9_light_20 : decode cX9_light 20 = .ok (.iload_n 1, 1) := by decide +kernel
theorem dX9_light_21 : decode cX9_light 21 = .ok (.iload_n 2, 1) := by decide +kernel
theorem dX9_light_22 : decode cX9_light 22 = .ok (.invokevirtual 132, 3) := by decide +kernel
theorem dX9_light_25 : decode cX9_light 25 = .ok (.ireturn, 1) := by decide +kernel
theorem dX9_allDue_0 : decode cX9_allDue 0 = .ok (.aload_n 0, 1) := by decide +kernel
theorem dX9_allDue_1 : decode cX9_allDue 1 = .ok (.getfield 10, 3) := by decide +kernel
theorem dX9_allDue_4 : decode cX9_allDue 4 = .ok (.invokevirtual 135, 3) := by decide +kernel
theorem dX9_allDue_7 : decode cX9_allDue 7 = .ok (.ireturn, 1) := by decide +kernel
theorem dX9_stop_0 : decode cX9_stop 0 = .ok (.iload_n 1, 1) := by decide +kernel
theorem dX9_stop_1 : decode cX9_stop 1 = .ok (.invokestatic 138, 3) := by decide +kernel
theorem dX9_stop_4 : decode cX9_stop 4 = .ok (.ifCond .ne 5, 3) := by decide +kernel
theorem dX9_stop_7 : decode cX9_stop 7 = .ok (.iconst (-1), 1) := by decide +kernel
theorem dX9_stop_8 : decode cX9_stop 8 = .ok (.ireturn, 1) := by decide +kernel
theorem dX9_stop_9 : decode cX9_stop 9 = .ok (.aload_n 0, 1) := by decide +kernel
theorem dX9_stop_10 : decode cX9_stop 10 = .ok (.getfield 19, 3) := by decide +kernel
theorem dX9_stop_13 : decode cX9_stop 13 = .ok (.aload_n 0, 1) := by decide +kernel
theorem dX9_stop_14 : decode cX9_stop 14 = .ok (.getfield 10, 3) := by decide +kernel
theorem dX9_stop_17 : decode cX9_stop 17 = .ok (.invokevirtual 51, 3) := by decide +kernel
theorem dX9_stop_20 : decode cX9_stop 20 = .ok (.aload_n 0, 1) := by decide +kernel
theorem dX9_stop_21 : decode cX9_stop 21 = .ok (.getfield 19, 3) := by decide +kernel
theorem dX9_stop_24 : decode cX9_stop 24 = .ok (.invokestatic 141, 3) := by decide +kernel
theorem dX9_stop_27 : decode cX9_stop 27 = .ok (.istore_n 2, 1) := by decide +kernel
theorem dX9_stop_28 : decode cX9_stop 28 = .ok (.iload_n 2, 1) := by decide +kernel
theorem dX9_stop_29 : decode cX9_stop 29 = .ok (.ifCond .lt 7, 3) := by decide +kernel
theorem dX9_stop_32 : decode cX9_stop 32 = .ok (.iload_n 1, 1) := by decide +kernel
theorem dX9_stop_33 : decode cX9_stop 33 = .ok (.ifCond .ne 5, 3) := by decide +kernel
theorem dX9_stop_36 : decode cX9_stop 36 = .ok (.iload_n 2, 1) := by decide +kernel
theorem dX9_stop_37 : decode cX9_stop 37 = .ok (.ireturn, 1) := by decide +kernel
theorem dX9_stop_38 : decode cX9_stop 38 = .ok (.aload_n 0, 1) := by decide +kernel
theorem dX9_stop_39 : decode cX9_stop 39 = .ok (.getfield 19, 3) := by decide +kernel
theorem dX9_stop_42 : decode cX9_stop 42 = .ok (.iload_n 2, 1) := by decide +kernel
theorem dX9_stop_43 : decode cX9_stop 43 = .ok (.putfield 147, 3) := by decide +kernel
theorem dX9_stop_46 : decode cX9_stop 46 = .ok (.aload_n 0, 1) := by decide +kernel
theorem dX9_stop_47 : decode cX9_stop 47 = .ok (.getfield 19, 3) := by decide +kernel
theorem dX9_stop_50 : decode cX9_stop 50 = .ok (.invokevirtual 135, 3) := by decide +kernel
theorem dX9_stop_53 : decode cX9_stop 53 = .ok (.ireturn, 1) := by decide +kernel
theorem dX9_dark_0 : decode cX9_dark 0 = .ok (.aload_n 0, 1) := by decide +kernel
theorem dX9_dark_1 : decode cX9_dark 1 = .ok (.getfield 10, 3) := by decide +kernel
theorem dX9_dark_4 : decode cX9_dark 4 = .ok (.invokestatic 150, 3) := by decide +kernel
theorem dX9_dark_7 : decode cX9_dark 7 = .ok (.ireturn, 1) := by decide +kernel
theorem dX9_darkest_0 : decode cX9_darkest 0 = .ok (.aload_n 0, 1) := by decide +kernel
theorem dX9_darkest_1 : decode cX9_darkest 1 = .ok (.getfield 10, 3) := by decide +kernel
theorem dX9_darkest_4 : decode cX9_darkest 4 = .ok (.invokestatic 153, 3) := by decide +kernel
theorem dX9_darkest_7 : decode cX9_darkest 7 = .ok (.ireturn, 1) := by decide +kernel
theorem dX9_bright_0 : decode cX9_bright 0 = .ok (.iload_n 1, 1) := by decide +kernel
theorem dX9_bright_1 : decode cX9_bright 1 = .ok (.invokestatic 138, 3) := by decide +kernel
theorem dX9_bright_4 : decode cX9_bright 4 = .ok (.ifCond .ne 5, 3) := by decide +kernel
theorem dX9_bright_7 : decode cX9_bright 7 = .ok (.iconst (-1), 1) := by decide +kernel
theorem dX9_bright_8 : decode cX9_bright 8 = .ok (.ireturn, 1) := by decide +kernel
theorem dX9_bright_9 : decode cX9_bright 9 = .ok (.aload_n 0, 1) := by decide +kernel
theorem dX9_bright_10 : decode cX9_bright 10 = .ok (.getfield 10, 3) := by decide +kernel
theorem dX9_bright_13 : decode cX9_bright 13 = .ok (.invokestatic 150, 3) := by decide +kernel
theorem dX9_bright_16 : decode cX9_bright 16 = .ok (.invokestatic 156, 3) := by decide +kernel
theorem dX9_bright_19 : decode cX9_bright 19 = .ok (.istore_n 2, 1) := by decide +kernel
theorem dX9_bright_20 : decode cX9_bright 20 = .ok (.iload_n 1, 1) := by decide +kernel
theorem dX9_bright_21 : decode cX9_bright 21 = .ok (.ifCond .ne 7, 3) := by decide +kernel
theorem dX9_bright_24 : decode cX9_bright 24 = .ok (.iload_n 2, 1) := by decide +kernel
theorem dX9_bright_25 : decode cX9_bright 25 = .ok (.goto 14, 3) := by decide +kernel
theorem dX9_bright_28 : decode cX9_bright 28 = .ok (.aload_n 0, 1) := by decide +kernel
theorem dX9_bright_29 : decode cX9_bright 29 = .ok (.getfield 10, 3) := by decide +kernel
theorem dX9_bright_32 : decode cX9_bright 32 = .ok (.invokestatic 150, 3) := by decide +kernel
theorem dX9_bright_35 : decode cX9_bright 35 = .ok (.iload_n 2, 1) := by decide +kernel
theorem dX9_bright_36 : decode cX9_bright 36 = .ok (.invokestatic 159, 3) := by decide +kernel
theorem dX9_bright_39 : decode cX9_bright 39 = .ok (.ireturn, 1) := by decide +kernel
theorem dX9_mirrors_0 : decode cX9_mirrors 0 = .ok (.aload_n 0, 1) := by decide +kernel
theorem dX9_mirrors_1 : decode cX9_mirrors 1 = .ok (.getfield 10, 3) := by decide +kernel
theorem dX9_mirrors_4 : decode cX9_mirrors 4 = .ok (.invokestatic 162, 3) := by decide +kernel
theorem dX9_mirrors_7 : decode cX9_mirrors 7 = .ok (.ireturn, 1) := by decide +kernel
theorem dX9_mean_0 : decode cX9_mean 0 = .ok (.iload_n 1, 1) := by decide +kernel
theorem dX9_mean_1 : decode cX9_mean 1 = .ok (.invokestatic 97, 3) := by decide +kernel
theorem dX9_mean_4 : decode cX9_mean 4 = .ok (.ifCond .eq 10, 3) := by decide +kernel
theorem dX9_mean_7 : decode cX9_mean 7 = .ok (.iload_n 2, 1) := by decide +kernel
theorem dX9_mean_8 : decode cX9_mean 8 = .ok (.invokestatic 138, 3) := by decide +kernel
theorem dX9_mean_11 : decode cX9_mean 11 = .ok (.ifCond .ne 7, 3) := by decide +kernel
theorem dX9_mean_14 : decode cX9_mean 14 = .ok (.ldc2_w 165, 3) := by decide +kernel
theorem dX9_mean_17 : decode cX9_mean 17 = .ok (.lreturn, 1) := by decide +kernel
theorem dX9_mean_18 : decode cX9_mean 18 = .ok (.aload_n 0, 1) := by decide +kernel
theorem dX9_mean_19 : decode cX9_mean 19 = .ok (.getfield 10, 3) := by decide +kernel
theorem dX9_mean_22 : decode cX9_mean 22 = .ok (.iload_n 1, 1) := by decide +kernel
theorem dX9_mean_23 : decode cX9_mean 23 = .ok (.invokestatic 167, 3) := by decide +kernel
theorem dX9_mean_26 : decode cX9_mean 26 = .ok (.i2l, 1) := by decide +kernel
theorem dX9_mean_27 : decode cX9_mean 27 = .ok (.ldc2_w 171, 3) := by decide +kernel
theorem dX9_mean_30 : decode cX9_mean 30 = .ok (.iload_n 2, 1) := by decide +kernel
theorem dX9_mean_31 : decode cX9_mean 31 = .ok (.invokestatic 173, 3) := by decide +kernel
theorem dX9_mean_34 : decode cX9_mean 34 = .ok (.lreturn, 1) := by decide +kernel
theorem dX9_hidden_0 : decode cX9_hidden 0 = .ok (.aload_n 0, 1) := by decide +kernel
theorem dX9_hidden_1 : decode cX9_hidden 1 = .ok (.getfield 19, 3) := by decide +kernel
theorem dX9_hidden_4 : decode cX9_hidden 4 = .ok (.aload_n 0, 1) := by decide +kernel
theorem dX9_hidden_5 : decode cX9_hidden 5 = .ok (.getfield 10, 3) := by decide +kernel
theorem dX9_hidden_8 : decode cX9_hidden 8 = .ok (.invokevirtual 51, 3) := by decide +kernel
theorem dX9_hidden_11 : decode cX9_hidden 11 = .ok (.aload_n 0, 1) := by decide +kernel
theorem dX9_hidden_12 : decode cX9_hidden 12 = .ok (.getfield 10, 3) := by decide +kernel
theorem dX9_hidden_15 : decode cX9_hidden 15 = .ok (.aload_n 0, 1) := by decide +kernel
theorem dX9_hidden_16 : decode cX9_hidden 16 = .ok (.getfield 19, 3) := by decide +kernel
theorem dX9_hidden_19 : decode cX9_hidden 19 = .ok (.invokestatic 179, 3) := by decide +kernel
theorem dX9_hidden_22 : decode cX9_hidden 22 = .ok (.ireturn, 1) := by decide +kernel
theorem dX9_looks_0 : decode cX9_looks 0 = .ok (.aload_n 0, 1) := by decide +kernel
theorem dX9_looks_1 : decode cX9_looks 1 = .ok (.getfield 10, 3) := by decide +kernel
theorem dX9_looks_4 : decode cX9_looks 4 = .ok (.invokestatic 183, 3) := by decide +kernel
theorem dX9_looks_7 : decode cX9_looks 7 = .ok (.ireturn, 1) := by decide +kernel
theorem dX9_mostMoving_0 : decode cX9_mostMoving 0 = .ok (.iload_n 1, 1) := by decide +kernel
theorem dX9_mostMoving_1 : decode cX9_mostMoving 1 = .ok (.invokestatic 138, 3) := by decide +kernel
theorem dX9_mostMoving_4 : decode cX9_mostMoving 4 = .ok (.ifCond .ne 5, 3) := by decide +kernel
theorem dX9_mostMoving_7 : decode cX9_mostMoving 7 = .ok (.iconst (-1), 1) := by decide +kernel
theorem dX9_mostMoving_8 : decode cX9_mostMoving 8 = .ok (.ireturn, 1) := by decide +kernel
theorem dX9_mostMoving_9 : decode cX9_mostMoving 9 = .ok (.aload_n 0, 1) := by decide +kernel
theorem dX9_mostMoving_10 : decode cX9_mostMoving 10 = .ok (.getfield 10, 3) := by decide +kernel
theorem dX9_mostMoving_13 : decode cX9_mostMoving 13 = .ok (.invokestatic 188, 3) := by decide +kernel
theorem dX9_mostMoving_16 : decode cX9_mostMoving 16 = .ok (.istore_n 2, 1) := by decide +kernel
theorem dX9_mostMoving_17 : decode cX9_mostMoving 17 = .ok (.iload_n 1, 1) := by decide +kernel
theorem dX9_mostMoving_18 : decode cX9_mostMoving 18 = .ok (.ifCond .ne 7, 3) := by decide +kernel
theorem dX9_mostMoving_21 : decode cX9_mostMoving 21 = .ok (.iload_n 2, 1) := by decide +kernel
theorem dX9_mostMoving_22 : decode cX9_mostMoving 22 = .ok (.goto 11, 3) := by decide +kernel
theorem dX9_mostMoving_25 : decode cX9_mostMoving 25 = .ok (.aload_n 0, 1) := by decide +kernel
theorem dX9_mostMoving_26 : decode cX9_mostMoving 26 = .ok (.getfield 10, 3) := by decide +kernel
theorem dX9_mostMoving_29 : decode cX9_mostMoving 29 = .ok (.iload_n 2, 1) := by decide +kernel
theorem dX9_mostMoving_30 : decode cX9_mostMoving 30 = .ok (.invokevirtual 191, 3) := by decide +kernel
theorem dX9_mostMoving_33 : decode cX9_mostMoving 33 = .ok (.ireturn, 1) := by decide +kernel
theorem dX9_taken_0 : decode cX9_taken 0 = .ok (.iload_n 1, 1) := by decide +kernel
theorem dX9_taken_1 : decode cX9_taken 1 = .ok (.iconst 0, 1) := by decide +kernel
theorem dX9_taken_2 : decode cX9_taken 2 = .ok (.bipush 20, 2) := by decide +kernel
theorem dX9_taken_4 : decode cX9_taken 4 = .ok (.invokestatic 194, 3) := by decide +kernel
theorem dX9_taken_7 : decode cX9_taken 7 = .ok (.ifCond .ne 5, 3) := by decide +kernel
theorem dX9_taken_10 : decode cX9_taken 10 = .ok (.iconst (-1), 1) := by decide +kernel
theorem dX9_taken_11 : decode cX9_taken 11 = .ok (.ireturn, 1) := by decide +kernel
theorem dX9_taken_12 : decode cX9_taken 12 = .ok (.aload_n 0, 1) := by decide +kernel
theorem dX9_taken_13 : decode cX9_taken 13 = .ok (.getfield 10, 3) := by decide +kernel
theorem dX9_taken_16 : decode cX9_taken 16 = .ok (.iload_n 1, 1) := by decide +kernel
theorem dX9_taken_17 : decode cX9_taken 17 = .ok (.invokestatic 198, 3) := by decide +kernel
theorem dX9_taken_20 : decode cX9_taken 20 = .ok (.ireturn, 1) := by decide +kernel
theorem dX9_bestHour_0 : decode cX9_bestHour 0 = .ok (.aload_n 0, 1) := by decide +kernel
theorem dX9_bestHour_1 : decode cX9_bestHour 1 = .ok (.getfield 10, 3) := by decide +kernel
theorem dX9_bestHour_4 : decode cX9_bestHour 4 = .ok (.iload_n 1, 1) := by decide +kernel
theorem dX9_bestHour_5 : decode cX9_bestHour 5 = .ok (.invokevirtual 59, 3) := by decide +kernel
theorem dX9_bestHour_8 : decode cX9_bestHour 8 = .ok (.ifCond .ne 5, 3) := by decide +kernel
theorem dX9_bestHour_11 : decode cX9_bestHour 11 = .ok (.iconst (-1), 1) := by decide +kernel
theorem dX9_bestHour_12 : decode cX9_bestHour 12 = .ok (.ireturn, 1) := by decide +kernel
theorem dX9_bestHour_13 : decode cX9_bestHour 13 = .ok (.aload_n 0, 1) := by decide +kernel
theorem dX9_bestHour_14 : decode cX9_bestHour 14 = .ok (.getfield 10, 3) := by decide +kernel
theorem dX9_bestHour_17 : decode cX9_bestHour 17 = .ok (.iload_n 1, 1) := by decide +kernel
theorem dX9_bestHour_18 : decode cX9_bestHour 18 = .ok (.invokestatic 201, 3) := by decide +kernel
theorem dX9_bestHour_21 : decode cX9_bestHour 21 = .ok (.ireturn, 1) := by decide +kernel
theorem dX9_game_0 : decode cX9_game 0 = .ok (.iload_n 1, 1) := by decide +kernel
theorem dX9_game_1 : decode cX9_game 1 = .ok (.iconst 0, 1) := by decide +kernel
theorem dX9_game_2 : decode cX9_game 2 = .ok (.iconst 4, 1) := by decide +kernel
theorem dX9_game_3 : decode cX9_game 3 = .ok (.invokestatic 194, 3) := by decide +kernel
theorem dX9_game_6 : decode cX9_game 6 = .ok (.ifCond .eq 10, 3) := by decide +kernel
theorem dX9_game_9 : decode cX9_game 9 = .ok (.iload_n 2, 1) := by decide +kernel
theorem dX9_game_10 : decode cX9_game 10 = .ok (.invokestatic 138, 3) := by decide +kernel
theorem dX9_game_13 : decode cX9_game 13 = .ok (.ifCond .ne 5, 3) := by decide +kernel
theorem dX9_game_16 : decode cX9_game 16 = .ok (.iconst (-1), 1) := by decide +kernel
theorem dX9_game_17 : decode cX9_game 17 = .ok (.ireturn, 1) := by decide +kernel
theorem dX9_game_18 : decode cX9_game 18 = .ok (.iload_n 2, 1) := by decide +kernel
theorem dX9_game_19 : decode cX9_game 19 = .ok (.ifCond .ne 14, 3) := by decide +kernel
theorem dX9_game_22 : decode cX9_game 22 = .ok (.aload_n 0, 1) := by decide +kernel
theorem dX9_game_23 : decode cX9_game 23 = .ok (.getfield 10, 3) := by decide +kernel
theorem dX9_game_26 : decode cX9_game 26 = .ok (.iload_n 1, 1) := by decide +kernel
theorem dX9_game_27 : decode cX9_game 27 = .ok (.invokestatic 206, 3) := by decide +kernel
theorem dX9_game_30 : decode cX9_game 30 = .ok (.goto 11, 3) := by decide +kernel
theorem dX9_game_33 : decode cX9_game 33 = .ok (.aload_n 0, 1) := by decide +kernel
theorem dX9_game_34 : decode cX9_game 34 = .ok (.getfield 10, 3) := by decide +kernel
theorem dX9_game_37 : decode cX9_game 37 = .ok (.iload_n 1, 1) := by decide +kernel
theorem dX9_game_38 : decode cX9_game 38 = .ok (.invokestatic 209, 3) := by decide +kernel
theorem dX9_game_41 : decode cX9_game 41 = .ok (.ireturn, 1) := by decide +kernel
theorem dX9_suitor_0 : decode cX9_suitor 0 = .ok (.iload_n 1, 1) := by decide +kernel
theorem dX9_suitor_1 : decode cX9_suitor 1 = .ok (.invokestatic 138, 3) := by decide +kernel
theorem dX9_suitor_4 : decode cX9_suitor 4 = .ok (.ifCond .ne 5, 3) := by decide +kernel
theorem dX9_suitor_7 : decode cX9_suitor 7 = .ok (.iconst (-1), 1) := by decide +kernel
theorem dX9_suitor_8 : decode cX9_suitor 8 = .ok (.ireturn, 1) := by decide +kernel
theorem dX9_suitor_9 : decode cX9_suitor 9 = .ok (.iload_n 1, 1) := by decide +kernel
theorem dX9_suitor_10 : decode cX9_suitor 10 = .ok (.ifCond .ne 20, 3) := by decide +kernel
theorem dX9_suitor_13 : decode cX9_suitor 13 = .ok (.aload_n 0, 1) := by decide +kernel
theorem dX9_suitor_14 : decode cX9_suitor 14 = .ok (.getfield 10, 3) := by decide +kernel
theorem dX9_suitor_17 : decode cX9_suitor 17 = .ok (.aload_n 0, 1) := by decide +kernel
theorem dX9_suitor_18 : decode cX9_suitor 18 = .ok (.getfield 10, 3) := by decide +kernel
theorem dX9_suitor_21 : decode cX9_suitor 21 = .ok (.getfield 212, 3) := by decide +kernel
theorem dX9_suitor_24 : decode cX9_suitor 24 = .ok (.invokestatic 215, 3) := by decide +kernel
theorem dX9_suitor_27 : decode cX9_suitor 27 = .ok (.goto 10, 3) := by decide +kernel
theorem dX9_suitor_30 : decode cX9_suitor 30 = .ok (.aload_n 0, 1) := by decide +kernel
theorem dX9_suitor_31 : decode cX9_suitor 31 = .ok (.getfield 10, 3) := by decide +kernel
theorem dX9_suitor_34 : decode cX9_suitor 34 = .ok (.invokestatic 218, 3) := by decide +kernel
theorem dX9_suitor_37 : decode cX9_suitor 37 = .ok (.ireturn, 1) := by decide +kernel
theorem dX9_twins_0 : decode cX9_twins 0 = .ok (.iload_n 1, 1) := by decide +kernel
theorem dX9_twins_1 : decode cX9_twins 1 = .ok (.invokestatic 138, 3) := by decide +kernel
theorem dX9_twins_4 : decode cX9_twins 4 = .ok (.ifCond .ne 5, 3) := by decide +kernel
theorem dX9_twins_7 : decode cX9_twins 7 = .ok (.iconst (-1), 1) := by decide +kernel
theorem dX9_twins_8 : decode cX9_twins 8 = .ok (.ireturn, 1) := by decide +kernel
theorem dX9_twins_9 : decode cX9_twins 9 = .ok (.iload_n 1, 1) := by decide +kernel
theorem dX9_twins_10 : decode cX9_twins 10 = .ok (.ifCond .ne 13, 3) := by decide +kernel
theorem dX9_twins_13 : decode cX9_twins 13 = .ok (.aload_n 0, 1) := by decide +kernel
theorem dX9_twins_14 : decode cX9_twins 14 = .ok (.getfield 10, 3) := by decide +kernel
theorem dX9_twins_17 : decode cX9_twins 17 = .ok (.invokestatic 221, 3) := by decide +kernel
theorem dX9_twins_20 : decode cX9_twins 20 = .ok (.goto 10, 3) := by decide +kernel
theorem dX9_twins_23 : decode cX9_twins 23 = .ok (.aload_n 0, 1) := by decide +kernel
theorem dX9_twins_24 : decode cX9_twins 24 = .ok (.getfield 10, 3) := by decide +kernel
theorem dX9_twins_27 : decode cX9_twins 27 = .ok (.invokestatic 224, 3) := by decide +kernel
theorem dX9_twins_30 : decode cX9_twins 30 = .ok (.ireturn, 1) := by decide +kernel
theorem dX9_whatWas_0 : decode cX9_whatWas 0 = .ok (.iload_n 1, 1) := by decide +kernel
theorem dX9_whatWas_1 : decode cX9_whatWas 1 = .ok (.invokestatic 33, 3) := by decide +kernel
theorem dX9_whatWas_4 : decode cX9_whatWas 4 = .ok (.ifCond .eq 25, 3) := by decide +kernel
theorem dX9_whatWas_7 : decode cX9_whatWas 7 = .ok (.iload_n 2, 1) := by decide +kernel
theorem dX9_whatWas_8 : decode cX9_whatWas 8 = .ok (.invokestatic 227, 3) := by decide +kernel
theorem dX9_whatWas_11 : decode cX9_whatWas 11 = .ok (.ifCond .eq 18, 3) := by decide +kernel
theorem dX9_whatWas_14 : decode cX9_whatWas 14 = .ok (.iload_n 3, 1) := by decide +kernel
theorem dX9_whatWas_15 : decode cX9_whatWas 15 = .ok (.invokestatic 84, 3) := by decide +kernel
theorem dX9_whatWas_18 : decode cX9_whatWas 18 = .ok (.ifCond .eq 11, 3) := by decide +kernel
theorem dX9_whatWas_21 : decode cX9_whatWas 21 = .ok (.iload 4, 2) := by decide +kernel
theorem dX9_whatWas_23 : decode cX9_whatWas 23 = .ok (.invokestatic 138, 3) := by decide +kernel
theorem dX9_whatWas_26 : decode cX9_whatWas 26 = .ok (.ifCond .ne 5, 3) := by decide +kernel
theorem dX9_whatWas_29 : decode cX9_whatWas 29 = .ok (.iconst (-1), 1) := by decide +kernel
theorem dX9_whatWas_30 : decode cX9_whatWas 30 = .ok (.ireturn, 1) := by decide +kernel
theorem dX9_whatWas_31 : decode cX9_whatWas 31 = .ok (.aload_n 0, 1) := by decide +kernel
theorem dX9_whatWas_32 : decode cX9_whatWas 32 = .ok (.getfield 28, 3) := by decide +kernel
theorem dX9_whatWas_35 : decode cX9_whatWas 35 = .ok (.iload_n 1, 1) := by decide +kernel
theorem dX9_whatWas_36 : decode cX9_whatWas 36 = .ok (.aaload, 1) := by decide +kernel
theorem dX9_whatWas_37 : decode cX9_whatWas 37 = .ok (.astore 5, 2) := by decide +kernel
theorem dX9_whatWas_39 : decode cX9_whatWas 39 = .ok (.aload 5, 2) := by decide +kernel
theorem dX9_whatWas_41 : decode cX9_whatWas 41 = .ok (.invokevirtual 37, 3) := by decide +kernel
theorem dX9_whatWas_44 : decode cX9_whatWas 44 = .ok (.istore 6, 2) := by decide +kernel
theorem dX9_whatWas_46 : decode cX9_whatWas 46 = .ok (.iload 6, 2) := by decide +kernel
theorem dX9_whatWas_48 : decode cX9_whatWas 48 = .ok (.ifCond .ge 6, 3) := by decide +kernel
theorem dX9_whatWas_51 : decode cX9_whatWas 51 = .ok (.iload 6, 2) := by decide +kernel
theorem dX9_whatWas_53 : decode cX9_whatWas 53 = .ok (.ireturn, 1) := by decide +kernel
theorem dX9_whatWas_54 : decode cX9_whatWas 54 = .ok (.aload 5, 2) := by decide +kernel
theorem dX9_whatWas_56 : decode cX9_whatWas 56 = .ok (.getfield 230, 3) := by decide +kernel
theorem dX9_whatWas_59 : decode cX9_whatWas 59 = .ok (.bipush 24, 2) := by decide +kernel
theorem dX9_whatWas_61 : decode cX9_whatWas 61 = .ok (.if_icmp .le 6, 3) := by decide +kernel
theorem dX9_whatWas_64 : decode cX9_whatWas 64 = .ok (.bipush (-13), 2) := by decide +kernel
theorem dX9_whatWas_66 : decode cX9_whatWas 66 = .ok (.ireturn, 1) := by decide +kernel
theorem dX9_whatWas_67 : decode cX9_whatWas 67 = .ok (.aload 5, 2) := by decide +kernel
theorem dX9_whatWas_69 : decode cX9_whatWas 69 = .ok (.iload_n 2, 1) := by decide +kernel
theorem dX9_whatWas_70 : decode cX9_whatWas 70 = .ok (.iload_n 3, 1) := by decide +kernel
theorem dX9_whatWas_71 : decode cX9_whatWas 71 = .ok (.invokestatic 233, 3) := by decide +kernel
theorem dX9_whatWas_74 : decode cX9_whatWas 74 = .ok (.istore 7, 2) := by decide +kernel
theorem dX9_whatWas_76 : decode cX9_whatWas 76 = .ok (.iload 4, 2) := by decide +kernel
theorem dX9_whatWas_78 : decode cX9_whatWas 78 = .ok (.ifCond .ne 8, 3) := by decide +kernel
theorem dX9_whatWas_81 : decode cX9_whatWas 81 = .ok (.iload 7, 2) := by decide +kernel
theorem dX9_whatWas_83 : decode cX9_whatWas 83 = .ok (.goto 8, 3) := by decide +kernel
theorem dX9_whatWas_86 : decode cX9_whatWas 86 = .ok (.iload 7, 2) := by decide +kernel
theorem dX9_whatWas_88 : decode cX9_whatWas 88 = .ok (.invokestatic 237, 3) := by decide +kernel
theorem dX9_whatWas_91 : decode cX9_whatWas 91 = .ok (.ireturn, 1) := by decide +kernel
theorem dX9_paidOff_0 : decode cX9_paidOff 0 = .ok (.iload_n 1, 1) := by decide +kernel
theorem dX9_paidOff_1 : decode cX9_paidOff 1 = .ok (.invokestatic 242, 3) := by decide +kernel
theorem dX9_paidOff_4 : decode cX9_paidOff 4 = .ok (.ifCond .ne 5, 3) := by decide +kernel
theorem dX9_paidOff_7 : decode cX9_paidOff 7 = .ok (.iconst (-1), 1) := by decide +kernel
theorem dX9_paidOff_8 : decode cX9_paidOff 8 = .ok (.ireturn, 1) := by decide +kernel
theorem dX9_paidOff_9 : decode cX9_paidOff 9 = .ok (.aload_n 0, 1) := by decide +kernel
theorem dX9_paidOff_10 : decode cX9_paidOff 10 = .ok (.getfield 10, 3) := by decide +kernel
theorem dX9_paidOff_13 : decode cX9_paidOff 13 = .ok (.iload_n 1, 1) := by decide +kernel
theorem dX9_paidOff_14 : decode cX9_paidOff 14 = .ok (.invokestatic 245, 3) := by decide +kernel
theorem dX9_paidOff_17 : decode cX9_paidOff 17 = .ok (.ireturn, 1) := by decide +kernel
theorem dX9_rain_0 : decode cX9_rain 0 = .ok (.iload_n 1, 1) := by decide +kernel
theorem dX9_rain_1 : decode cX9_rain 1 = .ok (.iconst 2, 1) := by decide +kernel
theorem dX9_rain_2 : decode cX9_rain 2 = .ok (.bipush 20, 2) := by decide +kernel
theorem dX9_rain_4 : decode cX9_rain 4 = .ok (.invokestatic 194, 3) := by decide +kernel
theorem dX9_rain_7 : decode cX9_rain 7 = .ok (.ifCond .eq 31, 3) := by decide +kernel
theorem dX9_rain_10 : decode cX9_rain 10 = .ok (.iload_n 2, 1) := by decide +kernel
theorem dX9_rain_11 : decode cX9_rain 11 = .ok (.iconst 0, 1) := by decide +kernel
theorem dX9_rain_12 : decode cX9_rain 12 = .ok (.bipush 8, 2) := by decide +kernel
theorem dX9_rain_14 : decode cX9_rain 14 = .ok (.invokestatic 194, 3) := by decide +kernel
theorem dX9_rain_17 : decode cX9_rain 17 = .ok (.ifCond .eq 21, 3) := by decide +kernel
theorem dX9_rain_20 : decode cX9_rain 20 = .ok (.iload_n 3, 1) := by decide +kernel
theorem dX9_rain_21 : decode cX9_rain 21 = .ok (.iconst 0, 1) := by decide +kernel
theorem dX9_rain_22 : decode cX9_rain 22 = .ok (.bipush 8, 2) := by decide +kernel
theorem dX9_rain_24 : decode cX9_rain 24 = .ok (.invokestatic 194, 3) := by decide +kernel
theorem dX9_rain_27 : decode cX9_rain 27 = .ok (.ifCond .eq 11, 3) := by decide +kernel
theorem dX9_rain_30 : decode cX9_rain 30 = .ok (.iload 4, 2) := by decide +kernel
theorem dX9_rain_32 : decode cX9_rain 32 = .ok (.invokestatic 138, 3) := by decide +kernel
theorem dX9_rain_35 : decode cX9_rain 35 = .ok (.ifCond .ne 7, 3) := by decide +kernel
theorem dX9_rain_38 : decode cX9_rain 38 = .ok (.ldc2_w 165, 3) := by decide +kernel
theorem dX9_rain_41 : decode cX9_rain 41 = .ok (.lreturn, 1) := by decide +kernel
theorem dX9_rain_42 : decode cX9_rain 42 = .ok (.iload_n 1, 1) := by decide +kernel
theorem dX9_rain_43 : decode cX9_rain 43 = .ok (.iload_n 2, 1) := by decide +kernel
theorem dX9_rain_44 : decode cX9_rain 44 = .ok (.iload_n 3, 1) := by decide +kernel
theorem dX9_rain_45 : decode cX9_rain 45 = .ok (.invokestatic 250, 3) := by decide +kernel
theorem dX9_rain_48 : decode cX9_rain 48 = .ok (.iload_n 1, 1) := by decide +kernel
theorem dX9_rain_49 : decode cX9_rain 49 = .ok (.i2l, 1) := by decide +kernel
theorem dX9_rain_50 : decode cX9_rain 50 = .ok (.iload_n 2, 1) := by decide +kernel
theorem dX9_rain_51 : decode cX9_rain 51 = .ok (.invokestatic 254, 3) := by decide +kernel
theorem dX9_rain_54 : decode cX9_rain 54 = .ok (.iload 4, 2) := by decide +kernel
theorem dX9_rain_56 : decode cX9_rain 56 = .ok (.invokestatic 173, 3) := by decide +kernel
theorem dX9_rain_59 : decode cX9_rain 59 = .ok (.lreturn, 1) := by decide +kernel
theorem dX9_loophole_0 : decode cX9_loophole 0 = .ok (.aload_n 0, 1) := by decide +kernel
theorem dX9_loophole_1 : decode cX9_loophole 1 = .ok (.getfield 19, 3) := by decide +kernel
theorem dX9_loophole_4 : decode cX9_loophole 4 = .ok (.aload_n 0, 1) := by decide +kernel
theorem dX9_loophole_5 : decode cX9_loophole 5 = .ok (.getfield 10, 3) := by decide +kernel
theorem dX9_loophole_8 : decode cX9_loophole 8 = .ok (.invokevirtual 51, 3) := by decide +kernel
theorem dX9_loophole_11 : decode cX9_loophole 11 = .ok (.aload_n 0, 1) := by decide +kernel
theorem dX9_loophole_12 : decode cX9_loophole 12 = .ok (.getfield 10, 3) := by decide +kernel
theorem dX9_loophole_15 : decode cX9_loophole 15 = .ok (.aload_n 0, 1) := by decide +kernel
theorem dX9_loophole_16 : decode cX9_loophole 16 = .ok (.getfield 19, 3) := by decide +kernel
theorem dX9_loophole_19 : decode cX9_loophole 19 = .ok (.invokestatic 258, 3) := by decide +kernel
theorem dX9_loophole_22 : decode cX9_loophole 22 = .ok (.ireturn, 1) := by decide +kernel
theorem dX9_forged_0 : decode cX9_forged 0 = .ok (.iload_n 1, 1) := by decide +kernel
theorem dX9_forged_1 : decode cX9_forged 1 = .ok (.invokestatic 33, 3) := by decide +kernel
theorem dX9_forged_4 : decode cX9_forged 4 = .ok (.ifCond .ne 5, 3) := by decide +kernel
theorem dX9_forged_7 : decode cX9_forged 7 = .ok (.iconst (-1), 1) := by decide +kernel
theorem dX9_forged_8 : decode cX9_forged 8 = .ok (.ireturn, 1) := by decide +kernel
theorem dX9_forged_9 : decode cX9_forged 9 = .ok (.aload_n 0, 1) := by decide +kernel
theorem dX9_forged_10 : decode cX9_forged 10 = .ok (.getfield 28, 3) := by decide +kernel
theorem dX9_forged_13 : decode cX9_forged 13 = .ok (.iload_n 1, 1) := by decide +kernel
theorem dX9_forged_14 : decode cX9_forged 14 = .ok (.aaload, 1) := by decide +kernel
theorem dX9_forged_15 : decode cX9_forged 15 = .ok (.invokevirtual 37, 3) := by decide +kernel
theorem dX9_forged_18 : decode cX9_forged 18 = .ok (.istore_n 2, 1) := by decide +kernel
theorem dX9_forged_19 : decode cX9_forged 19 = .ok (.iload_n 2, 1) := by decide +kernel
theorem dX9_forged_20 : decode cX9_forged 20 = .ok (.ifCond .ge 7, 3) := by decide +kernel
theorem dX9_forged_23 : decode cX9_forged 23 = .ok (.iload_n 2, 1) := by decide +kernel
theorem dX9_forged_24 : decode cX9_forged 24 = .ok (.goto 16, 3) := by decide +kernel
theorem dX9_forged_27 : decode cX9_forged 27 = .ok (.aload_n 0, 1) := by decide +kernel
theorem dX9_forged_28 : decode cX9_forged 28 = .ok (.getfield 10, 3) := by decide +kernel
theorem dX9_forged_31 : decode cX9_forged 31 = .ok (.aload_n 0, 1) := by decide +kernel
theorem dX9_forged_32 : decode cX9_forged 32 = .ok (.getfield 28, 3) := by decide +kernel
theorem dX9_forged_35 : decode cX9_forged 35 = .ok (.iload_n 1, 1) := by decide +kernel
theorem dX9_forged_36 : decode cX9_forged 36 = .ok (.aaload, 1) := by decide +kernel
theorem dX9_forged_37 : decode cX9_forged 37 = .ok (.invokestatic 261, 3) := by decide +kernel
theorem dX9_forged_40 : decode cX9_forged 40 = .ok (.ireturn, 1) := by decide +kernel
theorem dX9_judge_0 : decode cX9_judge 0 = .ok (.iload_n 1, 1) := by decide +kernel
theorem dX9_judge_1 : decode cX9_judge 1 = .ok (.invokestatic 33, 3) := by decide +kernel
theorem dX9_judge_4 : decode cX9_judge 4 = .ok (.ifCond .ne 5, 3) := by decide +kernel
theorem dX9_judge_7 : decode cX9_judge 7 = .ok (.iconst (-1), 1) := by decide +kernel
theorem dX9_judge_8 : decode cX9_judge 8 = .ok (.ireturn, 1) := by decide +kernel
theorem dX9_judge_9 : decode cX9_judge 9 = .ok (.aload_n 0, 1) := by decide +kernel
theorem dX9_judge_10 : decode cX9_judge 10 = .ok (.getfield 28, 3) := by decide +kernel
theorem dX9_judge_13 : decode cX9_judge 13 = .ok (.iload_n 1, 1) := by decide +kernel
theorem dX9_judge_14 : decode cX9_judge 14 = .ok (.aaload, 1) := by decide +kernel
theorem dX9_judge_15 : decode cX9_judge 15 = .ok (.invokevirtual 37, 3) := by decide +kernel
theorem dX9_judge_18 : decode cX9_judge 18 = .ok (.istore_n 2, 1) := by decide +kernel
theorem dX9_judge_19 : decode cX9_judge 19 = .ok (.iload_n 2, 1) := by decide +kernel
theorem dX9_judge_20 : decode cX9_judge 20 = .ok (.ifCond .ge 7, 3) := by decide +kernel
theorem dX9_judge_23 : decode cX9_judge 23 = .ok (.iload_n 2, 1) := by decide +kernel
theorem dX9_judge_24 : decode cX9_judge 24 = .ok (.goto 16, 3) := by decide +kernel
theorem dX9_judge_27 : decode cX9_judge 27 = .ok (.aload_n 0, 1) := by decide +kernel
theorem dX9_judge_28 : decode cX9_judge 28 = .ok (.getfield 10, 3) := by decide +kernel
theorem dX9_judge_31 : decode cX9_judge 31 = .ok (.aload_n 0, 1) := by decide +kernel
theorem dX9_judge_32 : decode cX9_judge 32 = .ok (.getfield 28, 3) := by decide +kernel
theorem dX9_judge_35 : decode cX9_judge 35 = .ok (.iload_n 1, 1) := by decide +kernel
theorem dX9_judge_36 : decode cX9_judge 36 = .ok (.aaload, 1) := by decide +kernel
theorem dX9_judge_37 : decode cX9_judge 37 = .ok (.invokestatic 265, 3) := by decide +kernel
theorem dX9_judge_40 : decode cX9_judge 40 = .ok (.ireturn, 1) := by decide +kernel
theorem dX9_lots_0 : decode cX9_lots 0 = .ok (.iload_n 1, 1) := by decide +kernel
theorem dX9_lots_1 : decode cX9_lots 1 = .ok (.iconst 1, 1) := by decide +kernel
theorem dX9_lots_2 : decode cX9_lots 2 = .ok (.bipush 20, 2) := by decide +kernel
theorem dX9_lots_4 : decode cX9_lots 4 = .ok (.invokestatic 194, 3) := by decide +kernel
theorem dX9_lots_7 : decode cX9_lots 7 = .ok (.ifCond .eq 10, 3) := by decide +kernel
theorem dX9_lots_10 : decode cX9_lots 10 = .ok (.iload_n 3, 1) := by decide +kernel
theorem dX9_lots_11 : decode cX9_lots 11 = .ok (.invokestatic 138, 3) := by decide +kernel
theorem dX9_lots_14 : decode cX9_lots 14 = .ok (.ifCond .ne 5, 3) := by decide +kernel
theorem dX9_lots_17 : decode cX9_lots 17 = .ok (.iconst (-1), 1) := by decide +kernel
theorem dX9_lots_18 : decode cX9_lots 18 = .ok (.ireturn, 1) := by decide +kernel
theorem dX9_lots_19 : decode cX9_lots 19 = .ok (.aload_n 0, 1) := by decide +kernel
theorem dX9_lots_20 : decode cX9_lots 20 = .ok (.getfield 10, 3) := by decide +kernel
theorem dX9_lots_23 : decode cX9_lots 23 = .ok (.iload_n 1, 1) := by decide +kernel
theorem dX9_lots_24 : decode cX9_lots 24 = .ok (.iload_n 2, 1) := by decide +kernel
theorem dX9_lots_25 : decode cX9_lots 25 = .ok (.iload_n 3, 1) := by decide +kernel
theorem dX9_lots_26 : decode cX9_lots 26 = .ok (.invokestatic 268, 3) := by decide +kernel
theorem dX9_lots_29 : decode cX9_lots 29 = .ok (.ireturn, 1) := by decide +kernel
theorem dX9_image_0 : decode cX9_image 0 = .ok (.aload_n 0, 1) := by decide +kernel
theorem dX9_image_1 : decode cX9_image 1 = .ok (.getfield 16, 3) := by decide +kernel
theorem dX9_image_4 : decode cX9_image 4 = .ok (.aload_n 0, 1) := by decide +kernel
theorem dX9_image_5 : decode cX9_image 5 = .ok (.getfield 10, 3) := by decide +kernel
theorem dX9_image_8 : decode cX9_image 8 = .ok (.invokevirtual 51, 3) := by decide +kernel
theorem dX9_image_11 : decode cX9_image 11 = .ok (.aload_n 0, 1) := by decide +kernel
theorem dX9_image_12 : decode cX9_image 12 = .ok (.iconst 1, 1) := by decide +kernel
theorem dX9_image_13 : decode cX9_image 13 = .ok (.putfield 22, 3) := by decide +kernel
theorem dX9_image_16 : decode cX9_image 16 = .ok (.aload_n 0, 1) := by decide +kernel
theorem dX9_image_17 : decode cX9_image 17 = .ok (.getfield 10, 3) := by decide +kernel
theorem dX9_image_20 : decode cX9_image 20 = .ok (.getfield 272, 3) := by decide +kernel
theorem dX9_image_23 : decode cX9_image 23 = .ok (.ireturn, 1) := by decide +kernel
theorem dX9_restore_0 : decode cX9_restore 0 = .ok (.aload_n 0, 1) := by decide +kernel
theorem dX9_restore_1 : decode cX9_restore 1 = .ok (.getfield 22, 3) := by decide +kernel
theorem dX9_restore_4 : decode cX9_restore 4 = .ok (.ifCond .ne 6, 3) := by decide +kernel
theorem dX9_restore_7 : decode cX9_restore 7 = .ok (.bipush (-3), 2) := by decide +kernel
theorem dX9_restore_9 : decode cX9_restore 9 = .ok (.ireturn, 1) := by decide +kernel
theorem dX9_restore_10 : decode cX9_restore 10 = .ok (.aload_n 0, 1) := by decide +kernel
theorem dX9_restore_11 : decode cX9_restore 11 = .ok (.getfield 10, 3) := by decide +kernel
theorem dX9_restore_14 : decode cX9_restore 14 = .ok (.aload_n 0, 1) := by decide +kernel
theorem dX9_restore_15 : decode cX9_restore 15 = .ok (.getfield 16, 3) := by decide +kernel
theorem dX9_restore_18 : decode cX9_restore 18 = .ok (.invokevirtual 51, 3) := by decide +kernel
theorem dX9_restore_21 : decode cX9_restore 21 = .ok (.aload_n 0, 1) := by decide +kernel
theorem dX9_restore_22 : decode cX9_restore 22 = .ok (.getfield 10, 3) := by decide +kernel
theorem dX9_restore_25 : decode cX9_restore 25 = .ok (.getfield 272, 3) := by decide +kernel
theorem dX9_restore_28 : decode cX9_restore 28 = .ok (.ireturn, 1) := by decide +kernel
theorem dX9_count_0 : decode cX9_count 0 = .ok (.iload_n 1, 1) := by decide +kernel
theorem dX9_count_1 : decode cX9_count 1 = .ok (.tableswitch 118 0 7 #[47, 55, 63, 71, 79, 87, 95, 103], 47) := by decide +kernel
theorem dX9_count_48 : decode cX9_count 48 = .ok (.aload_n 0, 1) := by decide +kernel
theorem dX9_count_49 : decode cX9_count 49 = .ok (.getfield 10, 3) := by decide +kernel
theorem dX9_count_52 : decode cX9_count 52 = .ok (.getfield 275, 3) := by decide +kernel
theorem dX9_count_55 : decode cX9_count 55 = .ok (.ireturn, 1) := by decide +kernel
theorem dX9_count_56 : decode cX9_count 56 = .ok (.aload_n 0, 1) := by decide +kernel
theorem dX9_count_57 : decode cX9_count 57 = .ok (.getfield 10, 3) := by decide +kernel
theorem dX9_count_60 : decode cX9_count 60 = .ok (.getfield 212, 3) := by decide +kernel
theorem dX9_count_63 : decode cX9_count 63 = .ok (.ireturn, 1) := by decide +kernel
theorem dX9_count_64 : decode cX9_count 64 = .ok (.aload_n 0, 1) := by decide +kernel
theorem dX9_count_65 : decode cX9_count 65 = .ok (.getfield 10, 3) := by decide +kernel
theorem dX9_count_68 : decode cX9_count 68 = .ok (.getfield 272, 3) := by decide +kernel
theorem dX9_count_71 : decode cX9_count 71 = .ok (.ireturn, 1) := by decide +kernel
theorem dX9_count_72 : decode cX9_count 72 = .ok (.aload_n 0, 1) := by decide +kernel
theorem dX9_count_73 : decode cX9_count 73 = .ok (.getfield 10, 3) := by decide +kernel
theorem dX9_count_76 : decode cX9_count 76 = .ok (.getfield 278, 3) := by decide +kernel
theorem dX9_count_79 : decode cX9_count 79 = .ok (.ireturn, 1) := by decide +kernel
theorem dX9_count_80 : decode cX9_count 80 = .ok (.aload_n 0, 1) := by decide +kernel
theorem dX9_count_81 : decode cX9_count 81 = .ok (.getfield 10, 3) := by decide +kernel
theorem dX9_count_84 : decode cX9_count 84 = .ok (.getfield 281, 3) := by decide +kernel
theorem dX9_count_87 : decode cX9_count 87 = .ok (.ireturn, 1) := by decide +kernel
theorem dX9_count_88 : decode cX9_count 88 = .ok (.aload_n 0, 1) := by decide +kernel
theorem dX9_count_89 : decode cX9_count 89 = .ok (.getfield 10, 3) := by decide +kernel
theorem dX9_count_92 : decode cX9_count 92 = .ok (.getfield 147, 3) := by decide +kernel
theorem dX9_count_95 : decode cX9_count 95 = .ok (.ireturn, 1) := by decide +kernel
theorem dX9_count_96 : decode cX9_count 96 = .ok (.aload_n 0, 1) := by decide +kernel
theorem dX9_count_97 : decode cX9_count 97 = .ok (.getfield 10, 3) := by decide +kernel
theorem dX9_count_100 : decode cX9_count 100 = .ok (.invokevirtual 284, 3) := by decide +kernel
theorem dX9_count_103 : decode cX9_count 103 = .ok (.ireturn, 1) := by decide +kernel
theorem dX9_count_104 : decode cX9_count 104 = .ok (.aload_n 0, 1) := by decide +kernel
theorem dX9_count_105 : decode cX9_count 105 = .ok (.getfield 10, 3) := by decide +kernel
theorem dX9_count_108 : decode cX9_count 108 = .ok (.aload_n 0, 1) := by decide +kernel
theorem dX9_count_109 : decode cX9_count 109 = .ok (.getfield 10, 3) := by decide +kernel
theorem dX9_count_112 : decode cX9_count 112 = .ok (.getfield 212, 3) := by decide +kernel
theorem dX9_count_115 : decode cX9_count 115 = .ok (.invokevirtual 287, 3) := by decide +kernel
theorem dX9_count_118 : decode cX9_count 118 = .ok (.ireturn, 1) := by decide +kernel
theorem dX9_count_119 : decode cX9_count 119 = .ok (.iconst (-1), 1) := by decide +kernel
theorem dX9_count_120 : decode cX9_count 120 = .ok (.ireturn, 1) := by decide +kernel
theorem dX9_keep_0 : decode cX9_keep 0 = .ok (.iload_n 1, 1) := by decide +kernel
theorem dX9_keep_1 : decode cX9_keep 1 = .ok (.invokestatic 33, 3) := by decide +kernel
theorem dX9_keep_4 : decode cX9_keep 4 = .ok (.ifCond .eq 10, 3) := by decide +kernel
theorem dX9_keep_7 : decode cX9_keep 7 = .ok (.iload_n 2, 1) := by decide +kernel
theorem dX9_keep_8 : decode cX9_keep 8 = .ok (.invokestatic 138, 3) := by decide +kernel
theorem dX9_keep_11 : decode cX9_keep 11 = .ok (.ifCond .ne 5, 3) := by decide +kernel
theorem dX9_keep_14 : decode cX9_keep 14 = .ok (.iconst (-1), 1) := by decide +kernel
theorem dX9_keep_15 : decode cX9_keep 15 = .ok (.ireturn, 1) := by decide +kernel
theorem dX9_keep_16 : decode cX9_keep 16 = .ok (.iload_n 2, 1) := by decide +kernel
theorem dX9_keep_17 : decode cX9_keep 17 = .ok (.ifCond .ne 14, 3) := by decide +kernel
theorem dX9_keep_20 : decode cX9_keep 20 = .ok (.aload_n 0, 1) := by decide +kernel
theorem dX9_keep_21 : decode cX9_keep 21 = .ok (.getfield 28, 3) := by decide +kernel
theorem dX9_keep_24 : decode cX9_keep 24 = .ok (.iload_n 1, 1) := by decide +kernel
theorem dX9_keep_25 : decode cX9_keep 25 = .ok (.aaload, 1) := by decide +kernel
theorem dX9_keep_26 : decode cX9_keep 26 = .ok (.invokevirtual 290, 3) := by decide +kernel
theorem dX9_keep_29 : decode cX9_keep 29 = .ok (.iconst 0, 1) := by decide +kernel
theorem dX9_keep_30 : decode cX9_keep 30 = .ok (.ireturn, 1) := by decide +kernel
theorem dX9_keep_31 : decode cX9_keep 31 = .ok (.iload_n 3, 1) := by decide +kernel
theorem dX9_keep_32 : decode cX9_keep 32 = .ok (.invokestatic 293, 3) := by decide +kernel
theorem dX9_keep_35 : decode cX9_keep 35 = .ok (.ifCond .eq 11, 3) := by decide +kernel
theorem dX9_keep_38 : decode cX9_keep 38 = .ok (.iload 4, 2) := by decide +kernel
theorem dX9_keep_40 : decode cX9_keep 40 = .ok (.invokestatic 227, 3) := by decide +kernel
theorem dX9_keep_43 : decode cX9_keep 43 = .ok (.ifCond .ne 5, 3) := by decide +kernel
theorem dX9_keep_46 : decode cX9_keep 46 = .ok (.iconst (-1), 1) := by decide +kernel
theorem dX9_keep_47 : decode cX9_keep 47 = .ok (.ireturn, 1) := by decide +kernel
theorem dX9_keep_48 : decode cX9_keep 48 = .ok (.aload_n 0, 1) := by decide +kernel
theorem dX9_keep_49 : decode cX9_keep 49 = .ok (.getfield 28, 3) := by decide +kernel
theorem dX9_keep_52 : decode cX9_keep 52 = .ok (.iload_n 1, 1) := by decide +kernel
theorem dX9_keep_53 : decode cX9_keep 53 = .ok (.aaload, 1) := by decide +kernel
theorem dX9_keep_54 : decode cX9_keep 54 = .ok (.iload_n 3, 1) := by decide +kernel
theorem dX9_keep_55 : decode cX9_keep 55 = .ok (.iload 4, 2) := by decide +kernel
theorem dX9_keep_57 : decode cX9_keep 57 = .ok (.invokevirtual 296, 3) := by decide +kernel
theorem dX9_keep_60 : decode cX9_keep 60 = .ok (.iconst 0, 1) := by decide +kernel
theorem dX9_keep_61 : decode cX9_keep 61 = .ok (.ireturn, 1) := by decide +kernel
theorem dX9_row_0 : decode cX9_row 0 = .ok (.iload_n 1, 1) := by decide +kernel
theorem dX9_row_1 : decode cX9_row 1 = .ok (.invokestatic 33, 3) := by decide +kernel
theorem dX9_row_4 : decode cX9_row 4 = .ok (.ifCond .eq 16, 3) := by decide +kernel
theorem dX9_row_7 : decode cX9_row 7 = .ok (.iload_n 2, 1) := by decide +kernel
theorem dX9_row_8 : decode cX9_row 8 = .ok (.invokestatic 300, 3) := by decide +kernel
theorem dX9_row_11 : decode cX9_row 11 = .ok (.ifCond .eq 9, 3) := by decide +kernel
theorem dX9_row_14 : decode cX9_row 14 = .ok (.iload_n 3, 1) := by decide +kernel
theorem dX9_row_15 : decode cX9_row 15 = .ok (.bipush 100, 2) := by decide +kernel
theorem dX9_row_17 : decode cX9_row 17 = .ok (.if_icmp .le 5, 3) := by decide +kernel
theorem dX9_row_20 : decode cX9_row 20 = .ok (.iconst (-1), 1) := by decide +kernel
theorem dX9_row_21 : decode cX9_row 21 = .ok (.ireturn, 1) := by decide +kernel
theorem dX9_row_22 : decode cX9_row 22 = .ok (.iload_n 3, 1) := by decide +kernel
theorem dX9_row_23 : decode cX9_row 23 = .ok (.ifCond .ge 6, 3) := by decide +kernel
theorem dX9_row_26 : decode cX9_row 26 = .ok (.bipush (-14), 2) := by decide +kernel
theorem dX9_row_28 : decode cX9_row 28 = .ok (.ireturn, 1) := by decide +kernel
theorem dX9_row_29 : decode cX9_row 29 = .ok (.aload_n 0, 1) := by decide +kernel
theorem dX9_row_30 : decode cX9_row 30 = .ok (.getfield 28, 3) := by decide +kernel
theorem dX9_row_33 : decode cX9_row 33 = .ok (.iload_n 1, 1) := by decide +kernel
theorem dX9_row_34 : decode cX9_row 34 = .ok (.aaload, 1) := by decide +kernel
theorem dX9_row_35 : decode cX9_row 35 = .ok (.iload_n 2, 1) := by decide +kernel
theorem dX9_row_36 : decode cX9_row 36 = .ok (.iload_n 3, 1) := by decide +kernel
theorem dX9_row_37 : decode cX9_row 37 = .ok (.invokevirtual 303, 3) := by decide +kernel
theorem dX9_row_40 : decode cX9_row 40 = .ok (.iconst 0, 1) := by decide +kernel
theorem dX9_row_41 : decode cX9_row 41 = .ok (.ireturn, 1) := by decide +kernel
theorem dX9_put_0 : decode cX9_put 0 = .ok (.iload_n 1, 1) := by decide +kernel
theorem dX9_put_1 : decode cX9_put 1 = .ok (.invokestatic 33, 3) := by decide +kernel
theorem dX9_put_4 : decode cX9_put 4 = .ok (.ifCond .ne 5, 3) := by decide +kernel
theorem dX9_put_7 : decode cX9_put 7 = .ok (.iconst (-1), 1) := by decide +kernel
theorem dX9_put_8 : decode cX9_put 8 = .ok (.ireturn, 1) := by decide +kernel
theorem dX9_put_9 : decode cX9_put 9 = .ok (.aload_n 0, 1) := by decide +kernel
theorem dX9_put_10 : decode cX9_put 10 = .ok (.getfield 28, 3) := by decide +kernel
theorem dX9_put_13 : decode cX9_put 13 = .ok (.iload_n 1, 1) := by decide +kernel
theorem dX9_put_14 : decode cX9_put 14 = .ok (.aaload, 1) := by decide +kernel
theorem dX9_put_15 : decode cX9_put 15 = .ok (.astore 4, 2) := by decide +kernel
theorem dX9_put_17 : decode cX9_put 17 = .ok (.aload 4, 2) := by decide +kernel
theorem dX9_put_19 : decode cX9_put 19 = .ok (.invokevirtual 37, 3) := by decide +kernel
theorem dX9_put_22 : decode cX9_put 22 = .ok (.istore 5, 2) := by decide +kernel
theorem dX9_put_24 : decode cX9_put 24 = .ok (.iload 5, 2) := by decide +kernel
theorem dX9_put_26 : decode cX9_put 26 = .ok (.ifCond .ge 6, 3) := by decide +kernel
theorem dX9_put_29 : decode cX9_put 29 = .ok (.iload 5, 2) := by decide +kernel
theorem dX9_put_31 : decode cX9_put 31 = .ok (.ireturn, 1) := by decide +kernel
theorem dX9_put_32 : decode cX9_put 32 = .ok (.aload 4, 2) := by decide +kernel
theorem dX9_put_34 : decode cX9_put 34 = .ok (.iload_n 2, 1) := by decide +kernel
theorem dX9_put_35 : decode cX9_put 35 = .ok (.invokevirtual 306, 3) := by decide +kernel
theorem dX9_put_38 : decode cX9_put 38 = .ok (.ifCond .ne 6, 3) := by decide +kernel
theorem dX9_put_41 : decode cX9_put 41 = .ok (.bipush (-13), 2) := by decide +kernel
theorem dX9_put_43 : decode cX9_put 43 = .ok (.ireturn, 1) := by decide +kernel
theorem dX9_put_44 : decode cX9_put 44 = .ok (.aload 4, 2) := by decide +kernel
theorem dX9_put_46 : decode cX9_put 46 = .ok (.iload_n 2, 1) := by decide +kernel
theorem dX9_put_47 : decode cX9_put 47 = .ok (.iload_n 3, 1) := by decide +kernel
theorem dX9_put_48 : decode cX9_put 48 = .ok (.invokevirtual 309, 3) := by decide +kernel
theorem dX9_put_51 : decode cX9_put 51 = .ok (.iconst 0, 1) := by decide +kernel
theorem dX9_put_52 : decode cX9_put 52 = .ok (.ireturn, 1) := by decide +kernel
theorem dX9_element_0 : decode cX9_element 0 = .ok (.iload_n 1, 1) := by decide +kernel
theorem dX9_element_1 : decode cX9_element 1 = .ok (.invokestatic 33, 3) := by decide +kernel
theorem dX9_element_4 : decode cX9_element 4 = .ok (.ifCond .ne 14, 3) := by decide +kernel
theorem dX9_element_7 : decode cX9_element 7 = .ok (.new 312, 3) := by decide +kernel
theorem dX9_element_10 : decode cX9_element 10 = .ok (.dup, 1) := by decide +kernel
theorem dX9_element_11 : decode cX9_element 11 = .ok (.ldc_w 314, 3) := by decide +kernel
theorem dX9_element_14 : decode cX9_element 14 = .ok (.invokespecial 316, 3) := by decide +kernel
theorem dX9_element_17 : decode cX9_element 17 = .ok (.athrow, 1) := by decide +kernel
theorem dX9_element_18 : decode cX9_element 18 = .ok (.aload_n 0, 1) := by decide +kernel
theorem dX9_element_19 : decode cX9_element 19 = .ok (.getfield 28, 3) := by decide +kernel
theorem dX9_element_22 : decode cX9_element 22 = .ok (.iload_n 1, 1) := by decide +kernel
theorem dX9_element_23 : decode cX9_element 23 = .ok (.aaload, 1) := by decide +kernel
theorem dX9_element_24 : decode cX9_element 24 = .ok (.astore_n 3, 1) := by decide +kernel
theorem dX9_element_25 : decode cX9_element 25 = .ok (.aload_n 3, 1) := by decide +kernel
theorem dX9_element_26 : decode cX9_element 26 = .ok (.invokevirtual 37, 3) := by decide +kernel
theorem dX9_element_29 : decode cX9_element 29 = .ok (.ifCond .ge 14, 3) := by decide +kernel
theorem dX9_element_32 : decode cX9_element 32 = .ok (.new 319, 3) := by decide +kernel
theorem dX9_element_35 : decode cX9_element 35 = .ok (.dup, 1) := by decide +kernel
theorem dX9_element_36 : decode cX9_element 36 = .ok (.ldc_w 321, 3) := by decide +kernel
theorem dX9_element_39 : decode cX9_element 39 = .ok (.invokespecial 323, 3) := by decide +kernel
theorem dX9_element_42 : decode cX9_element 42 = .ok (.athrow, 1) := by decide +kernel
theorem dX9_element_43 : decode cX9_element 43 = .ok (.aload_n 3, 1) := by decide +kernel
theorem dX9_element_44 : decode cX9_element 44 = .ok (.iload_n 2, 1) := by decide +kernel
theorem dX9_element_45 : decode cX9_element 45 = .ok (.invokevirtual 306, 3) := by decide +kernel
theorem dX9_element_48 : decode cX9_element 48 = .ok (.ifCond .ne 14, 3) := by decide +kernel
theorem dX9_element_51 : decode cX9_element 51 = .ok (.new 319, 3) := by decide +kernel
theorem dX9_element_54 : decode cX9_element 54 = .ok (.dup, 1) := by decide +kernel
theorem dX9_element_55 : decode cX9_element 55 = .ok (.ldc_w 324, 3) := by decide +kernel
theorem dX9_element_58 : decode cX9_element 58 = .ok (.invokespecial 323, 3) := by decide +kernel
theorem dX9_element_61 : decode cX9_element 61 = .ok (.athrow, 1) := by decide +kernel
theorem dX9_element_62 : decode cX9_element 62 = .ok (.aload_n 3, 1) := by decide +kernel
theorem dX9_element_63 : decode cX9_element 63 = .ok (.getfield 326, 3) := by decide +kernel
theorem dX9_element_66 : decode cX9_element 66 = .ok (.iload_n 2, 1) := by decide +kernel
theorem dX9_element_67 : decode cX9_element 67 = .ok (.iaload, 1) := by decide +kernel
theorem dX9_element_68 : decode cX9_element 68 = .ok (.i2l, 1) := by decide +kernel
theorem dX9_element_69 : decode cX9_element 69 = .ok (.lreturn, 1) := by decide +kernel
theorem dX9_copy_0 : decode cX9_copy 0 = .ok (.iload_n 1, 1) := by decide +kernel
theorem dX9_copy_1 : decode cX9_copy 1 = .ok (.invokestatic 33, 3) := by decide +kernel
theorem dX9_copy_4 : decode cX9_copy 4 = .ok (.ifCond .eq 10, 3) := by decide +kernel
theorem dX9_copy_7 : decode cX9_copy 7 = .ok (.iload_n 3, 1) := by decide +kernel
theorem dX9_copy_8 : decode cX9_copy 8 = .ok (.invokestatic 33, 3) := by decide +kernel
theorem dX9_copy_11 : decode cX9_copy 11 = .ok (.ifCond .ne 5, 3) := by decide +kernel
theorem dX9_copy_14 : decode cX9_copy 14 = .ok (.iconst (-1), 1) := by decide +kernel
theorem dX9_copy_15 : decode cX9_copy 15 = .ok (.ireturn, 1) := by decide +kernel
theorem dX9_copy_16 : decode cX9_copy 16 = .ok (.aload_n 0, 1) := by decide +kernel
theorem dX9_copy_17 : decode cX9_copy 17 = .ok (.getfield 28, 3) := by decide +kernel
theorem dX9_copy_20 : decode cX9_copy 20 = .ok (.iload_n 1, 1) := by decide +kernel
theorem dX9_copy_21 : decode cX9_copy 21 = .ok (.aaload, 1) := by decide +kernel
theorem dX9_copy_22 : decode cX9_copy 22 = .ok (.astore 6, 2) := by decide +kernel
theorem dX9_copy_24 : decode cX9_copy 24 = .ok (.aload_n 0, 1) := by decide +kernel
theorem dX9_copy_25 : decode cX9_copy 25 = .ok (.getfield 28, 3) := by decide +kernel
theorem dX9_copy_28 : decode cX9_copy 28 = .ok (.iload_n 3, 1) := by decide +kernel
theorem dX9_copy_29 : decode cX9_copy 29 = .ok (.aaload, 1) := by decide +kernel
theorem dX9_copy_30 : decode cX9_copy 30 = .ok (.astore 7, 2) := by decide +kernel
theorem dX9_copy_32 : decode cX9_copy 32 = .ok (.aload 6, 2) := by decide +kernel
theorem dX9_copy_34 : decode cX9_copy 34 = .ok (.getfield 329, 3) := by decide +kernel
theorem dX9_copy_37 : decode cX9_copy 37 = .ok (.ifCond .eq 11, 3) := by decide +kernel
theorem dX9_copy_40 : decode cX9_copy 40 = .ok (.aload 7, 2) := by decide +kernel
theorem dX9_copy_42 : decode cX9_copy 42 = .ok (.getfield 329, 3) := by decide +kernel
theorem dX9_copy_45 : decode cX9_copy 45 = .ok (.ifCond .ne 6, 3) := by decide +kernel
theorem dX9_copy_48 : decode cX9_copy 48 = .ok (.bipush (-11), 2) := by decide +kernel
theorem dX9_copy_50 : decode cX9_copy 50 = .ok (.ireturn, 1) := by decide +kernel
theorem dX9_copy_51 : decode cX9_copy 51 = .ok (.aload 6, 2) := by decide +kernel
theorem dX9_copy_53 : decode cX9_copy 53 = .ok (.getfield 329, 3) := by decide +kernel
theorem dX9_copy_56 : decode cX9_copy 56 = .ok (.iconst 2, 1) := by decide +kernel
theorem dX9_copy_57 : decode cX9_copy 57 = .ok (.if_icmp .ne 25, 3) := by decide +kernel
theorem dX9_copy_60 : decode cX9_copy 60 = .ok (.aload 7, 2) := by decide +kernel
theorem dX9_copy_62 : decode cX9_copy 62 = .ok (.getfield 329, 3) := by decide +kernel
theorem dX9_copy_65 : decode cX9_copy 65 = .ok (.iconst 2, 1) := by decide +kernel
theorem dX9_copy_66 : decode cX9_copy 66 = .ok (.if_icmp .ne 16, 3) := by decide +kernel
theorem dX9_copy_69 : decode cX9_copy 69 = .ok (.aload 6, 2) := by decide +kernel
theorem dX9_copy_71 : decode cX9_copy 71 = .ok (.getfield 41, 3) := by decide +kernel
theorem dX9_copy_74 : decode cX9_copy 74 = .ok (.aload 7, 2) := by decide +kernel
theorem dX9_copy_76 : decode cX9_copy 76 = .ok (.getfield 41, 3) := by decide +kernel
theorem dX9_copy_79 : decode cX9_copy 79 = .ok (.if_icmp .eq 6, 3) := by decide +kernel
theorem dX9_copy_82 : decode cX9_copy 82 = .ok (.bipush (-12), 2) := by decide +kernel
theorem dX9_copy_84 : decode cX9_copy 84 = .ok (.ireturn, 1) := by decide +kernel
theorem dX9_copy_85 : decode cX9_copy 85 = .ok (.aload 6, 2) := by decide +kernel
theorem dX9_copy_87 : decode cX9_copy 87 = .ok (.iload_n 2, 1) := by decide +kernel
theorem dX9_copy_88 : decode cX9_copy 88 = .ok (.iload 5, 2) := by decide +kernel
theorem dX9_copy_90 : decode cX9_copy 90 = .ok (.invokevirtual 332, 3) := by decide +kernel
theorem dX9_copy_93 : decode cX9_copy 93 = .ok (.ifCond .eq 15, 3) := by decide +kernel
theorem dX9_copy_96 : decode cX9_copy 96 = .ok (.aload 7, 2) := by decide +kernel
theorem dX9_copy_98 : decode cX9_copy 98 = .ok (.iload 4, 2) := by decide +kernel
theorem dX9_copy_100 : decode cX9_copy 100 = .ok (.iload 5, 2) := by decide +kernel
theorem dX9_copy_102 : decode cX9_copy 102 = .ok (.invokevirtual 332, 3) := by decide +kernel
theorem dX9_copy_105 : decode cX9_copy 105 = .ok (.ifCond .ne 6, 3) := by decide +kernel
theorem dX9_copy_108 : decode cX9_copy 108 = .ok (.bipush (-13), 2) := by decide +kernel
theorem dX9_copy_110 : decode cX9_copy 110 = .ok (.ireturn, 1) := by decide +kernel
theorem dX9_copy_111 : decode cX9_copy 111 = .ok (.aload 6, 2) := by decide +kernel
theorem dX9_copy_113 : decode cX9_copy 113 = .ok (.getfield 326, 3) := by decide +kernel
theorem dX9_copy_116 : decode cX9_copy 116 = .ok (.iload_n 2, 1) := by decide +kernel
theorem dX9_copy_117 : decode cX9_copy 117 = .ok (.aload 7, 2) := by decide +kernel
theorem dX9_copy_119 : decode cX9_copy 119 = .ok (.getfield 326, 3) := by decide +kernel
theorem dX9_copy_122 : decode cX9_copy 122 = .ok (.iload 4, 2) := by decide +kernel
theorem dX9_copy_124 : decode cX9_copy 124 = .ok (.iload 5, 2) := by decide +kernel
theorem dX9_copy_126 : decode cX9_copy 126 = .ok (.invokestatic 335, 3) := by decide +kernel
theorem dX9_copy_129 : decode cX9_copy 129 = .ok (.iload 5, 2) := by decide +kernel
theorem dX9_copy_131 : decode cX9_copy 131 = .ok (.ireturn, 1) := by decide +kernel
theorem dX9_cost_0 : decode cX9_cost 0 = .ok (.iload_n 1, 1) := by decide +kernel
theorem dX9_cost_1 : decode cX9_cost 1 = .ok (.invokestatic 33, 3) := by decide +kernel
theorem dX9_cost_4 : decode cX9_cost 4 = .ok (.ifCond .ne 5, 3) := by decide +kernel
theorem dX9_cost_7 : decode cX9_cost 7 = .ok (.iconst (-1), 1) := by decide +kernel
theorem dX9_cost_8 : decode cX9_cost 8 = .ok (.ireturn, 1) := by decide +kernel
theorem dX9_cost_9 : decode cX9_cost 9 = .ok (.aload_n 0, 1) := by decide +kernel
theorem dX9_cost_10 : decode cX9_cost 10 = .ok (.getfield 28, 3) := by decide +kernel
theorem dX9_cost_13 : decode cX9_cost 13 = .ok (.iload_n 1, 1) := by decide +kernel
theorem dX9_cost_14 : decode cX9_cost 14 = .ok (.aaload, 1) := by decide +kernel
theorem dX9_cost_15 : decode cX9_cost 15 = .ok (.invokevirtual 100, 3) := by decide +kernel
theorem dX9_cost_18 : decode cX9_cost 18 = .ok (.istore_n 2, 1) := by decide +kernel
theorem dX9_cost_19 : decode cX9_cost 19 = .ok (.iload_n 2, 1) := by decide +kernel
theorem dX9_cost_20 : decode cX9_cost 20 = .ok (.ifCond .ge 7, 3) := by decide +kernel
theorem dX9_cost_23 : decode cX9_cost 23 = .ok (.iload_n 2, 1) := by decide +kernel
theorem dX9_cost_24 : decode cX9_cost 24 = .ok (.goto 24, 3) := by decide +kernel
theorem dX9_cost_27 : decode cX9_cost 27 = .ok (.aload_n 0, 1) := by decide +kernel
theorem dX9_cost_28 : decode cX9_cost 28 = .ok (.getfield 28, 3) := by decide +kernel
theorem dX9_cost_31 : decode cX9_cost 31 = .ok (.iload_n 1, 1) := by decide +kernel
theorem dX9_cost_32 : decode cX9_cost 32 = .ok (.aaload, 1) := by decide +kernel
theorem dX9_cost_33 : decode cX9_cost 33 = .ok (.getfield 103, 3) := by decide +kernel
theorem dX9_cost_36 : decode cX9_cost 36 = .ok (.aload_n 0, 1) := by decide +kernel
theorem dX9_cost_37 : decode cX9_cost 37 = .ok (.getfield 28, 3) := by decide +kernel
theorem dX9_cost_40 : decode cX9_cost 40 = .ok (.iload_n 1, 1) := by decide +kernel
theorem dX9_cost_41 : decode cX9_cost 41 = .ok (.aaload, 1) := by decide +kernel
theorem dX9_cost_42 : decode cX9_cost 42 = .ok (.getfield 106, 3) := by decide +kernel
theorem dX9_cost_45 : decode cX9_cost 45 = .ok (.invokestatic 341, 3) := by decide +kernel
theorem dX9_cost_48 : decode cX9_cost 48 = .ok (.ireturn, 1) := by decide +kernel
theorem dX9_toss_0 : decode cX9_toss 0 = .ok (.iload_n 1, 1) := by decide +kernel
theorem dX9_toss_1 : decode cX9_toss 1 = .ok (.invokestatic 33, 3) := by decide +kernel
theorem dX9_toss_4 : decode cX9_toss 4 = .ok (.ifCond .ne 5, 3) := by decide +kernel
theorem dX9_toss_7 : decode cX9_toss 7 = .ok (.iconst (-1), 1) := by decide +kernel
theorem dX9_toss_8 : decode cX9_toss 8 = .ok (.ireturn, 1) := by decide +kernel
theorem dX9_toss_9 : decode cX9_toss 9 = .ok (.aload_n 0, 1) := by decide +kernel
theorem dX9_toss_10 : decode cX9_toss 10 = .ok (.getfield 28, 3) := by decide +kernel
theorem dX9_toss_13 : decode cX9_toss 13 = .ok (.iload_n 1, 1) := by decide +kernel
theorem dX9_toss_14 : decode cX9_toss 14 = .ok (.aaload, 1) := by decide +kernel
theorem dX9_toss_15 : decode cX9_toss 15 = .ok (.invokevirtual 100, 3) := by decide +kernel
theorem dX9_toss_18 : decode cX9_toss 18 = .ok (.istore_n 2, 1) := by decide +kernel
theorem dX9_toss_19 : decode cX9_toss 19 = .ok (.iload_n 2, 1) := by decide +kernel
theorem dX9_toss_20 : decode cX9_toss 20 = .ok (.ifCond .ge 7, 3) := by decide +kernel
theorem dX9_toss_23 : decode cX9_toss 23 = .ok (.iload_n 2, 1) := by decide +kernel
theorem dX9_toss_24 : decode cX9_toss 24 = .ok (.goto 24, 3) := by decide +kernel
theorem dX9_toss_27 : decode cX9_toss 27 = .ok (.aload_n 0, 1) := by decide +kernel
theorem dX9_toss_28 : decode cX9_toss 28 = .ok (.getfield 28, 3) := by decide +kernel
theorem dX9_toss_31 : decode cX9_toss 31 = .ok (.iload_n 1, 1) := by decide +kernel
theorem dX9_toss_32 : decode cX9_toss 32 = .ok (.aaload, 1) := by decide +kernel
theorem dX9_toss_33 : decode cX9_toss 33 = .ok (.getfield 103, 3) := by decide +kernel
theorem dX9_toss_36 : decode cX9_toss 36 = .ok (.aload_n 0, 1) := by decide +kernel
theorem dX9_toss_37 : decode cX9_toss 37 = .ok (.getfield 28, 3) := by decide +kernel
theorem dX9_toss_40 : decode cX9_toss 40 = .ok (.iload_n 1, 1) := by decide +kernel
theorem dX9_toss_41 : decode cX9_toss 41 = .ok (.aaload, 1) := by decide +kernel
theorem dX9_toss_42 : decode cX9_toss 42 = .ok (.getfield 106, 3) := by decide +kernel
theorem dX9_toss_45 : decode cX9_toss 45 = .ok (.invokestatic 344, 3) := by decide +kernel
theorem dX9_toss_48 : decode cX9_toss 48 = .ok (.ireturn, 1) := by decide +kernel
theorem dX9_isShelf_0 : decode cX9_isShelf 0 = .ok (.iload_n 0, 1) := by decide +kernel
theorem dX9_isShelf_1 : decode cX9_isShelf 1 = .ok (.ifCond .lt 13, 3) := by decide +kernel
theorem dX9_isShelf_4 : decode cX9_isShelf 4 = .ok (.iload_n 0, 1) := by decide +kernel
theorem dX9_isShelf_5 : decode cX9_isShelf 5 = .ok (.bipush 8, 2) := by decide +kernel
theorem dX9_isShelf_7 : decode cX9_isShelf 7 = .ok (.if_icmp .ge 7, 3) := by decide +kernel
theorem dX9_isShelf_10 : decode cX9_isShelf 10 = .ok (.iconst 1, 1) := by decide +kernel
theorem dX9_isShelf_11 : decode cX9_isShelf 11 = .ok (.goto 4, 3) := by decide +kernel
theorem dX9_isShelf_14 : decode cX9_isShelf 14 = .ok (.iconst 0, 1) := by decide +kernel
theorem dX9_isShelf_15 : decode cX9_isShelf 15 = .ok (.ireturn, 1) := by decide +kernel
theorem dX9_isZeroOrOne_0 : decode cX9_isZeroOrOne 0 = .ok (.iload_n 0, 1) := by decide +kernel
theorem dX9_isZeroOrOne_1 : decode cX9_isZeroOrOne 1 = .ok (.ifCond .eq 8, 3) := by decide +kernel
theorem dX9_isZeroOrOne_4 : decode cX9_isZeroOrOne 4 = .ok (.iload_n 0, 1) := by decide +kernel
theorem dX9_isZeroOrOne_5 : decode cX9_isZeroOrOne 5 = .ok (.iconst 1, 1) := by decide +kernel
theorem dX9_isZeroOrOne_6 : decode cX9_isZeroOrOne 6 = .ok (.if_icmp .ne 7, 3) := by decide +kernel
theorem dX9_isZeroOrOne_9 : decode cX9_isZeroOrOne 9 = .ok (.iconst 1, 1) := by decide +kernel
theorem dX9_isZeroOrOne_10 : decode cX9_isZeroOrOne 10 = .ok (.goto 4, 3) := by decide +kernel
theorem dX9_isZeroOrOne_13 : decode cX9_isZeroOrOne 13 = .ok (.iconst 0, 1) := by decide +kernel
theorem dX9_isZeroOrOne_14 : decode cX9_isZeroOrOne 14 = .ok (.ireturn, 1) := by decide +kernel
