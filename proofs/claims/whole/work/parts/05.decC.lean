theorem dX10_init_0 : decode cX10_init 0 = .ok (.aload_n 0, 1) := by decide +kernel
theorem dX10_init_1 : decode cX10_init 1 = .ok (.invokespecial 1, 3) := by decide +kernel
theorem dX10_init_4 : decode cX10_init 4 = .ok (.aload_n 0, 1) := by decide +kernel
theorem dX10_init_5 : decode cX10_init 5 = .ok (.bipush 49, 2) := by decide +kernel
theorem dX10_init_7 : decode cX10_init 7 = .ok (.newarray .int, 2) := by decide +kernel
theorem dX10_init_9 : decode cX10_init 9 = .ok (.putfield 9, 3) := by decide +kernel
theorem dX10_init_12 : decode cX10_init 12 = .ok (.aload_n 0, 1) := by decide +kernel
theorem dX10_init_13 : decode cX10_init 13 = .ok (.bipush 49, 2) := by decide +kernel
theorem dX10_init_15 : decode cX10_init 15 = .ok (.newarray .int, 2) := by decide +kernel
theorem dX10_init_17 : decode cX10_init 17 = .ok (.putfield 13, 3) := by decide +kernel
theorem dX10_init_20 : decode cX10_init 20 = .ok (.aload_n 0, 1) := by decide +kernel
theorem dX10_init_21 : decode cX10_init 21 = .ok (.bipush 49, 2) := by decide +kernel
theorem dX10_init_23 : decode cX10_init 23 = .ok (.newarray .int, 2) := by decide +kernel
theorem dX10_init_25 : decode cX10_init 25 = .ok (.putfield 16, 3) := by decide +kernel
theorem dX10_init_28 : decode cX10_init 28 = .ok (.aload_n 0, 1) := by decide +kernel
theorem dX10_init_29 : decode cX10_init 29 = .ok (.bipush 49, 2) := by decide +kernel
theorem dX10_init_31 : decode cX10_init 31 = .ok (.newarray .int, 2) := by decide +kernel
theorem dX10_init_33 : decode cX10_init 33 = .ok (.putfield 19, 3) := by decide +kernel
theorem dX10_init_36 : decode cX10_init 36 = .ok (.aload_n 0, 1) := by decide +kernel
theorem dX10_init_37 : decode cX10_init 37 = .ok (.iconst 4, 1) := by decide +kernel
theorem dX10_init_38 : decode cX10_init 38 = .ok (.newarray .int, 2) := by decide +kernel
theorem dX10_init_40 : decode cX10_init 40 = .ok (.putfield 22, 3) := by decide +kernel
theorem dX10_init_43 : decode cX10_init 43 = .ok (.aload_n 0, 1) := by decide +kernel
theorem dX10_init_44 : decode cX10_init 44 = .ok (.bipush 8, 2) := by decide +kernel
theorem dX10_init_46 : decode cX10_init 46 = .ok (.newarray .int, 2) := by decide +kernel
theorem dX10_init_48 : decode cX10_init 48 = .ok (.putfield 25, 3) := by decide +kernel
theorem dX10_init_51 : decode cX10_init 51 = .ok (.aload_n 0, 1) := by decide +kernel
theorem dX10_init_52 : decode cX10_init 52 = .ok (.bipush 8, 2) := by decide +kernel
theorem dX10_init_54 : decode cX10_init 54 = .ok (.newarray .int, 2) := by decide +kernel
theorem dX10_init_56 : decode cX10_init 56 = .ok (.putfield 28, 3) := by decide +kernel
theorem dX10_init_59 : decode cX10_init 59 = .ok (.aload_n 0, 1) := by decide +kernel
theorem dX10_init_60 : decode cX10_init 60 = .ok (.bipush 8, 2) := by decide +kernel
theorem dX10_init_62 : decode cX10_init 62 = .ok (.newarray .int, 2) := by decide +kernel
theorem dX10_init_64 : decode cX10_init 64 = .ok (.putfield 31, 3) := by decide +kernel
theorem dX10_init_67 : decode cX10_init 67 = .ok (.aload_n 0, 1) := by decide +kernel
theorem dX10_init_68 : decode cX10_init 68 = .ok (.bipush 8, 2) := by decide +kernel
theorem dX10_init_70 : decode cX10_init 70 = .ok (.newarray .int, 2) := by decide +kernel
theorem dX10_init_72 : decode cX10_init 72 = .ok (.putfield 34, 3) := by decide +kernel
theorem dX10_init_75 : decode cX10_init 75 = .ok (.aload_n 0, 1) := by decide +kernel
theorem dX10_init_76 : decode cX10_init 76 = .ok (.bipush 8, 2) := by decide +kernel
theorem dX10_init_78 : decode cX10_init 78 = .ok (.newarray .int, 2) := by decide +kernel
theorem dX10_init_80 : decode cX10_init 80 = .ok (.putfield 37, 3) := by decide +kernel
theorem dX10_init_83 : decode cX10_init 83 = .ok (.aload_n 0, 1) := by decide +kernel
theorem dX10_init_84 : decode cX10_init 84 = .ok (.bipush 8, 2) := by decide +kernel
theorem dX10_init_86 : decode cX10_init 86 = .ok (.newarray .int, 2) := by decide +kernel
theorem dX10_init_88 : decode cX10_init 88 = .ok (.putfield 40, 3) := by decide +kernel
theorem dX10_init_91 : decode cX10_init 91 = .ok (.aload_n 0, 1) := by decide +kernel
theorem dX10_init_92 : decode cX10_init 92 = .ok (.sipush 800, 3) := by decide +kernel
theorem dX10_init_95 : decode cX10_init 95 = .ok (.newarray .int, 2) := by decide +kernel
theorem dX10_init_97 : decode cX10_init 97 = .ok (.putfield 43, 3) := by decide +kernel
theorem dX10_init_100 : decode cX10_init 100 = .ok (.aload_n 0, 1) := by decide +kernel
theorem dX10_init_101 : decode cX10_init 101 = .ok (.getfield 9, 3) := by decide +kernel
theorem dX10_init_104 : decode cX10_init 104 = .ok (.iconst 1, 1) := by decide +kernel
theorem dX10_init_105 : decode cX10_init 105 = .ok (.bipush 12, 2) := by decide +kernel
theorem dX10_init_107 : decode cX10_init 107 = .ok (.iastore, 1) := by decide +kernel
theorem dX10_init_108 : decode cX10_init 108 = .ok (.aload_n 0, 1) := by decide +kernel
theorem dX10_init_109 : decode cX10_init 109 = .ok (.getfield 9, 3) := by decide +kernel
theorem dX10_init_112 : decode cX10_init 112 = .ok (.iconst 4, 1) := by decide +kernel
theorem dX10_init_113 : decode cX10_init 113 = .ok (.iconst 1, 1) := by decide +kernel
theorem dX10_init_114 : decode cX10_init 114 = .ok (.iastore, 1) := by decide +kernel
theorem dX10_init_115 : decode cX10_init 115 = .ok (.return_, 1) := by decide +kernel
theorem dX10_isIn_0 : decode cX10_isIn 0 = .ok (.iload_n 0, 1) := by decide +kernel
theorem dX10_isIn_1 : decode cX10_isIn 1 = .ok (.iload_n 1, 1) := by decide +kernel
theorem dX10_isIn_2 : decode cX10_isIn 2 = .ok (.if_icmp .lt 12, 3) := by decide +kernel
theorem dX10_isIn_5 : decode cX10_isIn 5 = .ok (.iload_n 0, 1) := by decide +kernel
theorem dX10_isIn_6 : decode cX10_isIn 6 = .ok (.iload_n 2, 1) := by decide +kernel
theorem dX10_isIn_7 : decode cX10_isIn 7 = .ok (.if_icmp .gt 7, 3) := by decide +kernel
theorem dX10_isIn_10 : decode cX10_isIn 10 = .ok (.iconst 1, 1) := by decide +kernel
theorem dX10_isIn_11 : decode cX10_isIn 11 = .ok (.goto 4, 3) := by decide +kernel
theorem dX10_isIn_14 : decode cX10_isIn 14 = .ok (.iconst 0, 1) := by decide +kernel
theorem dX10_isIn_15 : decode cX10_isIn 15 = .ok (.ireturn, 1) := by decide +kernel
theorem dX10_least_0 : decode cX10_least 0 = .ok (.iload_n 0, 1) := by decide +kernel
theorem dX10_least_1 : decode cX10_least 1 = .ok (.iload_n 1, 1) := by decide +kernel
theorem dX10_least_2 : decode cX10_least 2 = .ok (.if_icmp .ge 7, 3) := by decide +kernel
theorem dX10_least_5 : decode cX10_least 5 = .ok (.iload_n 0, 1) := by decide +kernel
theorem dX10_least_6 : decode cX10_least 6 = .ok (.goto 4, 3) := by decide +kernel
theorem dX10_least_9 : decode cX10_least 9 = .ok (.iload_n 1, 1) := by decide +kernel
theorem dX10_least_10 : decode cX10_least 10 = .ok (.ireturn, 1) := by decide +kernel
theorem dX10_most_0 : decode cX10_most 0 = .ok (.iload_n 0, 1) := by decide +kernel
theorem dX10_most_1 : decode cX10_most 1 = .ok (.iload_n 1, 1) := by decide +kernel
theorem dX10_most_2 : decode cX10_most 2 = .ok (.if_icmp .le 7, 3) := by decide +kernel
theorem dX10_most_5 : decode cX10_most 5 = .ok (.iload_n 0, 1) := by decide +kernel
theorem dX10_most_6 : decode cX10_most 6 = .ok (.goto 4, 3) := by decide +kernel
theorem dX10_most_9 : decode cX10_most 9 = .ok (.iload_n 1, 1) := by decide +kernel
theorem dX10_most_10 : decode cX10_most 10 = .ok (.ireturn, 1) := by decide +kernel
theorem dX10_copies_0 : decode cX10_copies 0 = .ok (.iconst 0, 1) := by decide +kernel
theorem dX10_copies_1 : decode cX10_copies 1 = .ok (.istore_n 2, 1) := by decide +kernel
theorem dX10_copies_2 : decode cX10_copies 2 = .ok (.iload_n 2, 1) := by decide +kernel
theorem dX10_copies_3 : decode cX10_copies 3 = .ok (.bipush 49, 2) := by decide +kernel
theorem dX10_copies_5 : decode cX10_copies 5 = .ok (.if_icmp .ge 15, 3) := by decide +kernel
theorem dX10_copies_8 : decode cX10_copies 8 = .ok (.aload_n 1, 1) := by decide +kernel
theorem dX10_copies_9 : decode cX10_copies 9 = .ok (.iload_n 2, 1) := by decide +kernel
theorem dX10_copies_10 : decode cX10_copies 10 = .ok (.aload_n 0, 1) := by decide +kernel
theorem dX10_copies_11 : decode cX10_copies 11 = .ok (.iload_n 2, 1) := by decide +kernel
theorem dX10_copies_12 : decode cX10_copies 12 = .ok (.iaload, 1) := by decide +kernel
theorem dX10_copies_13 : decode cX10_copies 13 = .ok (.iastore, 1) := by decide +kernel
theorem dX10_copies_14 : decode cX10_copies 14 = .ok (.iinc 2 1, 3) := by decide +kernel
theorem dX10_copies_17 : decode cX10_copies 17 = .ok (.goto (-15), 3) := by decide +kernel
theorem dX10_copies_20 : decode cX10_copies 20 = .ok (.return_, 1) := by decide +kernel
theorem dX10_of_0 : decode cX10_of 0 = .ok (.bipush 9, 2) := by decide +kernel
theorem dX10_of_2 : decode cX10_of 2 = .ok (.iconst 5, 1) := by decide +kernel
theorem dX10_of_3 : decode cX10_of 3 = .ok (.iload_n 0, 1) := by decide +kernel
theorem dX10_of_4 : decode cX10_of 4 = .ok (.imul, 1) := by decide +kernel
theorem dX10_of_5 : decode cX10_of 5 = .ok (.iadd, 1) := by decide +kernel
theorem dX10_of_6 : decode cX10_of 6 = .ok (.iload_n 1, 1) := by decide +kernel
theorem dX10_of_7 : decode cX10_of 7 = .ok (.iadd, 1) := by decide +kernel
theorem dX10_of_8 : decode cX10_of 8 = .ok (.ireturn, 1) := by decide +kernel
theorem dX10_has_0 : decode cX10_has 0 = .ok (.iload_n 0, 1) := by decide +kernel
theorem dX10_has_1 : decode cX10_has 1 = .ok (.iload_n 1, 1) := by decide +kernel
theorem dX10_has_2 : decode cX10_has 2 = .ok (.ishr, 1) := by decide +kernel
theorem dX10_has_3 : decode cX10_has 3 = .ok (.iconst 1, 1) := by decide +kernel
theorem dX10_has_4 : decode cX10_has 4 = .ok (.iand, 1) := by decide +kernel
theorem dX10_has_5 : decode cX10_has 5 = .ok (.iconst 1, 1) := by decide +kernel
theorem dX10_has_6 : decode cX10_has 6 = .ok (.if_icmp .ne 7, 3) := by decide +kernel
theorem dX10_has_9 : decode cX10_has 9 = .ok (.iconst 1, 1) := by decide +kernel
theorem dX10_has_10 : decode cX10_has 10 = .ok (.goto 4, 3) := by decide +kernel
theorem dX10_has_13 : decode cX10_has 13 = .ok (.iconst 0, 1) := by decide +kernel
theorem dX10_has_14 : decode cX10_has 14 = .ok (.ireturn, 1) := by decide +kernel
theorem dX10_bits_0 : decode cX10_bits 0 = .ok (.iconst 0, 1) := by decide +kernel
theorem dX10_bits_1 : decode cX10_bits 1 = .ok (.istore_n 1, 1) := by decide +kernel
theorem dX10_bits_2 : decode cX10_bits 2 = .ok (.iconst 0, 1) := by decide +kernel
theorem dX10_bits_3 : decode cX10_bits 3 = .ok (.istore_n 2, 1) := by decide +kernel
theorem dX10_bits_4 : decode cX10_bits 4 = .ok (.iload_n 2, 1) := by decide +kernel
theorem dX10_bits_5 : decode cX10_bits 5 = .ok (.bipush 24, 2) := by decide +kernel
theorem dX10_bits_7 : decode cX10_bits 7 = .ok (.if_icmp .ge 17, 3) := by decide +kernel
theorem dX10_bits_10 : decode cX10_bits 10 = .ok (.iload_n 1, 1) := by decide +kernel
theorem dX10_bits_11 : decode cX10_bits 11 = .ok (.iload_n 0, 1) := by decide +kernel
theorem dX10_bits_12 : decode cX10_bits 12 = .ok (.iload_n 2, 1) := by decide +kernel
theorem dX10_bits_13 : decode cX10_bits 13 = .ok (.ishr, 1) := by decide +kernel
theorem dX10_bits_14 : decode cX10_bits 14 = .ok (.iconst 1, 1) := by decide +kernel
theorem dX10_bits_15 : decode cX10_bits 15 = .ok (.iand, 1) := by decide +kernel
theorem dX10_bits_16 : decode cX10_bits 16 = .ok (.iadd, 1) := by decide +kernel
theorem dX10_bits_17 : decode cX10_bits 17 = .ok (.istore_n 1, 1) := by decide +kernel
theorem dX10_bits_18 : decode cX10_bits 18 = .ok (.iinc 2 1, 3) := by decide +kernel
theorem dX10_bits_21 : decode cX10_bits 21 = .ok (.goto (-17), 3) := by decide +kernel
theorem dX10_bits_24 : decode cX10_bits 24 = .ok (.iload_n 1, 1) := by decide +kernel
theorem dX10_bits_25 : decode cX10_bits 25 = .ok (.ireturn, 1) := by decide +kernel
theorem dX10_isWindow_0 : decode cX10_isWindow 0 = .ok (.iload_n 1, 1) := by decide +kernel
theorem dX10_isWindow_1 : decode cX10_isWindow 1 = .ok (.iconst 0, 1) := by decide +kernel
theorem dX10_isWindow_2 : decode cX10_isWindow 2 = .ok (.aload_n 0, 1) := by decide +kernel
theorem dX10_isWindow_3 : decode cX10_isWindow 3 = .ok (.getfield 9, 3) := by decide +kernel
theorem dX10_isWindow_6 : decode cX10_isWindow 6 = .ok (.iconst 0, 1) := by decide +kernel
theorem dX10_isWindow_7 : decode cX10_isWindow 7 = .ok (.iaload, 1) := by decide +kernel
theorem dX10_isWindow_8 : decode cX10_isWindow 8 = .ok (.iconst 1, 1) := by decide +kernel
theorem dX10_isWindow_9 : decode cX10_isWindow 9 = .ok (.isub, 1) := by decide +kernel
theorem dX10_isWindow_10 : decode cX10_isWindow 10 = .ok (.invokestatic 46, 3) := by decide +kernel
theorem dX10_isWindow_13 : decode cX10_isWindow 13 = .ok (.ireturn, 1) := by decide +kernel
theorem dX10_isRoom_0 : decode cX10_isRoom 0 = .ok (.iload_n 0, 1) := by decide +kernel
theorem dX10_isRoom_1 : decode cX10_isRoom 1 = .ok (.iconst 0, 1) := by decide +kernel
theorem dX10_isRoom_2 : decode cX10_isRoom 2 = .ok (.iconst 3, 1) := by decide +kernel
theorem dX10_isRoom_3 : decode cX10_isRoom 3 = .ok (.invokestatic 46, 3) := by decide +kernel
theorem dX10_isRoom_6 : decode cX10_isRoom 6 = .ok (.ireturn, 1) := by decide +kernel
theorem dX10_isHour_0 : decode cX10_isHour 0 = .ok (.iload_n 0, 1) := by decide +kernel
theorem dX10_isHour_1 : decode cX10_isHour 1 = .ok (.iconst 0, 1) := by decide +kernel
theorem dX10_isHour_2 : decode cX10_isHour 2 = .ok (.bipush 23, 2) := by decide +kernel
theorem dX10_isHour_4 : decode cX10_isHour 4 = .ok (.invokestatic 46, 3) := by decide +kernel
theorem dX10_isHour_7 : decode cX10_isHour 7 = .ok (.ireturn, 1) := by decide +kernel
theorem dX10_apart_0 : decode cX10_apart 0 = .ok (.iload_n 0, 1) := by decide +kernel
theorem dX10_apart_1 : decode cX10_apart 1 = .ok (.iload_n 1, 1) := by decide +kernel
theorem dX10_apart_2 : decode cX10_apart 2 = .ok (.if_icmp .le 9, 3) := by decide +kernel
theorem dX10_apart_5 : decode cX10_apart 5 = .ok (.iload_n 0, 1) := by decide +kernel
theorem dX10_apart_6 : decode cX10_apart 6 = .ok (.iload_n 1, 1) := by decide +kernel
theorem dX10_apart_7 : decode cX10_apart 7 = .ok (.isub, 1) := by decide +kernel
theorem dX10_apart_8 : decode cX10_apart 8 = .ok (.goto 6, 3) := by decide +kernel
theorem dX10_apart_11 : decode cX10_apart 11 = .ok (.iload_n 1, 1) := by decide +kernel
theorem dX10_apart_12 : decode cX10_apart 12 = .ok (.iload_n 0, 1) := by decide +kernel
theorem dX10_apart_13 : decode cX10_apart 13 = .ok (.isub, 1) := by decide +kernel
theorem dX10_apart_14 : decode cX10_apart 14 = .ok (.istore_n 2, 1) := by decide +kernel
theorem dX10_apart_15 : decode cX10_apart 15 = .ok (.iload_n 2, 1) := by decide +kernel
theorem dX10_apart_16 : decode cX10_apart 16 = .ok (.bipush 24, 2) := by decide +kernel
theorem dX10_apart_18 : decode cX10_apart 18 = .ok (.iload_n 2, 1) := by decide +kernel
theorem dX10_apart_19 : decode cX10_apart 19 = .ok (.isub, 1) := by decide +kernel
theorem dX10_apart_20 : decode cX10_apart 20 = .ok (.invokestatic 50, 3) := by decide +kernel
theorem dX10_apart_23 : decode cX10_apart 23 = .ok (.ireturn, 1) := by decide +kernel
theorem dX10_shinesBy_0 : decode cX10_shinesBy 0 = .ok (.iload_n 2, 1) := by decide +kernel
theorem dX10_shinesBy_1 : decode cX10_shinesBy 1 = .ok (.iconst 2, 1) := by decide +kernel
theorem dX10_shinesBy_2 : decode cX10_shinesBy 2 = .ok (.if_icmp .gt 9, 3) := by decide +kernel
theorem dX10_shinesBy_5 : decode cX10_shinesBy 5 = .ok (.iload_n 1, 1) := by decide +kernel
theorem dX10_shinesBy_6 : decode cX10_shinesBy 6 = .ok (.iconst 3, 1) := by decide +kernel
theorem dX10_shinesBy_7 : decode cX10_shinesBy 7 = .ok (.iadd, 1) := by decide +kernel
theorem dX10_shinesBy_8 : decode cX10_shinesBy 8 = .ok (.goto 16, 3) := by decide +kernel
theorem dX10_shinesBy_11 : decode cX10_shinesBy 11 = .ok (.iload_n 2, 1) := by decide +kernel
theorem dX10_shinesBy_12 : decode cX10_shinesBy 12 = .ok (.bipush 7, 2) := by decide +kernel
theorem dX10_shinesBy_14 : decode cX10_shinesBy 14 = .ok (.if_icmp .lt 9, 3) := by decide +kernel
theorem dX10_shinesBy_17 : decode cX10_shinesBy 17 = .ok (.iload_n 1, 1) := by decide +kernel
theorem dX10_shinesBy_18 : decode cX10_shinesBy 18 = .ok (.iconst 2, 1) := by decide +kernel
theorem dX10_shinesBy_19 : decode cX10_shinesBy 19 = .ok (.idiv, 1) := by decide +kernel
theorem dX10_shinesBy_20 : decode cX10_shinesBy 20 = .ok (.goto 4, 3) := by decide +kernel
theorem dX10_shinesBy_23 : decode cX10_shinesBy 23 = .ok (.iload_n 1, 1) := by decide +kernel
theorem dX10_shinesBy_24 : decode cX10_shinesBy 24 = .ok (.istore_n 3, 1) := by decide +kernel
theorem dX10_shinesBy_25 : decode cX10_shinesBy 25 = .ok (.iload_n 0, 1) := by decide +kernel
theorem dX10_shinesBy_26 : decode cX10_shinesBy 26 = .ok (.lookupswitch 46 #[(0, 34), (5, 36), (7, 40)], 34) := by decide +kernel
theorem dX10_shinesBy_60 : decode cX10_shinesBy 60 = .ok (.iload_n 3, 1) := by decide +kernel
theorem dX10_shinesBy_61 : decode cX10_shinesBy 61 = .ok (.ireturn, 1) := by decide +kernel
theorem dX10_shinesBy_62 : decode cX10_shinesBy 62 = .ok (.iload_n 3, 1) := by decide +kernel
theorem dX10_shinesBy_63 : decode cX10_shinesBy 63 = .ok (.iconst 2, 1) := by decide +kernel
theorem dX10_shinesBy_64 : decode cX10_shinesBy 64 = .ok (.idiv, 1) := by decide +kernel
theorem dX10_shinesBy_65 : decode cX10_shinesBy 65 = .ok (.ireturn, 1) := by decide +kernel
theorem dX10_shinesBy_66 : decode cX10_shinesBy 66 = .ok (.iload_n 3, 1) := by decide +kernel
theorem dX10_shinesBy_67 : decode cX10_shinesBy 67 = .ok (.iconst 2, 1) := by decide +kernel
theorem dX10_shinesBy_68 : decode cX10_shinesBy 68 = .ok (.idiv, 1) := by decide +kernel
theorem dX10_shinesBy_69 : decode cX10_shinesBy 69 = .ok (.iconst 1, 1) := by decide +kernel
theorem dX10_shinesBy_70 : decode cX10_shinesBy 70 = .ok (.iadd, 1) := by decide +kernel
theorem dX10_shinesBy_71 : decode cX10_shinesBy 71 = .ok (.ireturn, 1) := by decide +kernel
theorem dX10_shinesBy_72 : decode cX10_shinesBy 72 = .ok (.iconst 0, 1) := by decide +kernel
theorem dX10_shinesBy_73 : decode cX10_shinesBy 73 = .ok (.ireturn, 1) := by decide +kernel
theorem dX10_dueBy_0 : decode cX10_dueBy 0 = .ok (.iload_n 0, 1) := by decide +kernel
theorem dX10_dueBy_1 : decode cX10_dueBy 1 = .ok (.tableswitch 63 0 7 #[47, 63, 51, 53, 63, 53, 63, 57], 47) := by decide +kernel
theorem dX10_dueBy_48 : decode cX10_dueBy 48 = .ok (.iconst 2, 1) := by decide +kernel
theorem dX10_dueBy_49 : decode cX10_dueBy 49 = .ok (.iload_n 1, 1) := by decide +kernel
theorem dX10_dueBy_50 : decode cX10_dueBy 50 = .ok (.iadd, 1) := by decide +kernel
theorem dX10_dueBy_51 : decode cX10_dueBy 51 = .ok (.ireturn, 1) := by decide +kernel
theorem dX10_dueBy_52 : decode cX10_dueBy 52 = .ok (.iconst 0, 1) := by decide +kernel
theorem dX10_dueBy_53 : decode cX10_dueBy 53 = .ok (.ireturn, 1) := by decide +kernel
theorem dX10_dueBy_54 : decode cX10_dueBy 54 = .ok (.iconst 1, 1) := by decide +kernel
theorem dX10_dueBy_55 : decode cX10_dueBy 55 = .ok (.iload_n 1, 1) := by decide +kernel
theorem dX10_dueBy_56 : decode cX10_dueBy 56 = .ok (.iadd, 1) := by decide +kernel
theorem dX10_dueBy_57 : decode cX10_dueBy 57 = .ok (.ireturn, 1) := by decide +kernel
theorem dX10_dueBy_58 : decode cX10_dueBy 58 = .ok (.iconst 2, 1) := by decide +kernel
theorem dX10_dueBy_59 : decode cX10_dueBy 59 = .ok (.iconst 1, 1) := by decide +kernel
theorem dX10_dueBy_60 : decode cX10_dueBy 60 = .ok (.iload_n 1, 1) := by decide +kernel
theorem dX10_dueBy_61 : decode cX10_dueBy 61 = .ok (.iadd, 1) := by decide +kernel
theorem dX10_dueBy_62 : decode cX10_dueBy 62 = .ok (.imul, 1) := by decide +kernel
theorem dX10_dueBy_63 : decode cX10_dueBy 63 = .ok (.ireturn, 1) := by decide +kernel
theorem dX10_dueBy_64 : decode cX10_dueBy 64 = .ok (.iconst 1, 1) := by decide +kernel
theorem dX10_dueBy_65 : decode cX10_dueBy 65 = .ok (.ireturn, 1) := by decide +kernel
theorem dX10_movesBy_0 : decode cX10_movesBy 0 = .ok (.iload_n 0, 1) := by decide +kernel
theorem dX10_movesBy_1 : decode cX10_movesBy 1 = .ok (.tableswitch 82 3 7 #[35, 47, 82, 58, 68], 35) := by decide +kernel
theorem dX10_movesBy_36 : decode cX10_movesBy 36 = .ok (.iload_n 3, 1) := by decide +kernel
theorem dX10_movesBy_37 : decode cX10_movesBy 37 = .ok (.iconst 2, 1) := by decide +kernel
theorem dX10_movesBy_38 : decode cX10_movesBy 38 = .ok (.irem, 1) := by decide +kernel
theorem dX10_movesBy_39 : decode cX10_movesBy 39 = .ok (.ifCond .ne 7, 3) := by decide +kernel
theorem dX10_movesBy_42 : decode cX10_movesBy 42 = .ok (.iconst 1, 1) := by decide +kernel
theorem dX10_movesBy_43 : decode cX10_movesBy 43 = .ok (.goto 4, 3) := by decide +kernel
theorem dX10_movesBy_46 : decode cX10_movesBy 46 = .ok (.iconst 0, 1) := by decide +kernel
theorem dX10_movesBy_47 : decode cX10_movesBy 47 = .ok (.ireturn, 1) := by decide +kernel
theorem dX10_movesBy_48 : decode cX10_movesBy 48 = .ok (.iload_n 2, 1) := by decide +kernel
theorem dX10_movesBy_49 : decode cX10_movesBy 49 = .ok (.iconst 1, 1) := by decide +kernel
theorem dX10_movesBy_50 : decode cX10_movesBy 50 = .ok (.if_icmp .gt 7, 3) := by decide +kernel
theorem dX10_movesBy_53 : decode cX10_movesBy 53 = .ok (.iconst 1, 1) := by decide +kernel
theorem dX10_movesBy_54 : decode cX10_movesBy 54 = .ok (.goto 4, 3) := by decide +kernel
theorem dX10_movesBy_57 : decode cX10_movesBy 57 = .ok (.iconst 0, 1) := by decide +kernel
theorem dX10_movesBy_58 : decode cX10_movesBy 58 = .ok (.ireturn, 1) := by decide +kernel
theorem dX10_movesBy_59 : decode cX10_movesBy 59 = .ok (.iload_n 2, 1) := by decide +kernel
theorem dX10_movesBy_60 : decode cX10_movesBy 60 = .ok (.ifCond .ne 7, 3) := by decide +kernel
theorem dX10_movesBy_63 : decode cX10_movesBy 63 = .ok (.iconst 1, 1) := by decide +kernel
theorem dX10_movesBy_64 : decode cX10_movesBy 64 = .ok (.goto 4, 3) := by decide +kernel
theorem dX10_movesBy_67 : decode cX10_movesBy 67 = .ok (.iconst 0, 1) := by decide +kernel
theorem dX10_movesBy_68 : decode cX10_movesBy 68 = .ok (.ireturn, 1) := by decide +kernel
theorem dX10_movesBy_69 : decode cX10_movesBy 69 = .ok (.iload_n 3, 1) := by decide +kernel
theorem dX10_movesBy_70 : decode cX10_movesBy 70 = .ok (.iload_n 1, 1) := by decide +kernel
theorem dX10_movesBy_71 : decode cX10_movesBy 71 = .ok (.iconst 1, 1) := by decide +kernel
theorem dX10_movesBy_72 : decode cX10_movesBy 72 = .ok (.iadd, 1) := by decide +kernel
theorem dX10_movesBy_73 : decode cX10_movesBy 73 = .ok (.irem, 1) := by decide +kernel
theorem dX10_movesBy_74 : decode cX10_movesBy 74 = .ok (.ifCond .ne 7, 3) := by decide +kernel
theorem dX10_movesBy_77 : decode cX10_movesBy 77 = .ok (.iconst 1, 1) := by decide +kernel
theorem dX10_movesBy_78 : decode cX10_movesBy 78 = .ok (.goto 4, 3) := by decide +kernel
theorem dX10_movesBy_81 : decode cX10_movesBy 81 = .ok (.iconst 0, 1) := by decide +kernel
theorem dX10_movesBy_82 : decode cX10_movesBy 82 = .ok (.ireturn, 1) := by decide +kernel
theorem dX10_movesBy_83 : decode cX10_movesBy 83 = .ok (.iconst 0, 1) := by decide +kernel
theorem dX10_movesBy_84 : decode cX10_movesBy 84 = .ok (.ireturn, 1) := by decide +kernel
theorem dX10_seemsBy_0 : decode cX10_seemsBy 0 = .ok (.iconst 0, 1) := by decide +kernel
theorem dX10_seemsBy_1 : decode cX10_seemsBy 1 = .ok (.iload_n 1, 1) := by decide +kernel
theorem dX10_seemsBy_2 : decode cX10_seemsBy 2 = .ok (.iload_n 2, 1) := by decide +kernel
theorem dX10_seemsBy_3 : decode cX10_seemsBy 3 = .ok (.iconst 3, 1) := by decide +kernel
theorem dX10_seemsBy_4 : decode cX10_seemsBy 4 = .ok (.idiv, 1) := by decide +kernel
theorem dX10_seemsBy_5 : decode cX10_seemsBy 5 = .ok (.isub, 1) := by decide +kernel
theorem dX10_seemsBy_6 : decode cX10_seemsBy 6 = .ok (.invokestatic 54, 3) := by decide +kernel
theorem dX10_seemsBy_9 : decode cX10_seemsBy 9 = .ok (.istore 4, 2) := by decide +kernel
theorem dX10_seemsBy_11 : decode cX10_seemsBy 11 = .ok (.iload_n 0, 1) := by decide +kernel
theorem dX10_seemsBy_12 : decode cX10_seemsBy 12 = .ok (.tableswitch 77 0 7 #[48, 77, 51, 56, 77, 53, 72, 53], 48) := by decide +kernel
theorem dX10_seemsBy_60 : decode cX10_seemsBy 60 = .ok (.bipush 9, 2) := by decide +kernel
theorem dX10_seemsBy_62 : decode cX10_seemsBy 62 = .ok (.ireturn, 1) := by decide +kernel
theorem dX10_seemsBy_63 : decode cX10_seemsBy 63 = .ok (.iconst 0, 1) := by decide +kernel
theorem dX10_seemsBy_64 : decode cX10_seemsBy 64 = .ok (.ireturn, 1) := by decide +kernel
theorem dX10_seemsBy_65 : decode cX10_seemsBy 65 = .ok (.bipush 8, 2) := by decide +kernel
theorem dX10_seemsBy_67 : decode cX10_seemsBy 67 = .ok (.ireturn, 1) := by decide +kernel
theorem dX10_seemsBy_68 : decode cX10_seemsBy 68 = .ok (.iload_n 3, 1) := by decide +kernel
theorem dX10_seemsBy_69 : decode cX10_seemsBy 69 = .ok (.iconst 2, 1) := by decide +kernel
theorem dX10_seemsBy_70 : decode cX10_seemsBy 70 = .ok (.irem, 1) := by decide +kernel
theorem dX10_seemsBy_71 : decode cX10_seemsBy 71 = .ok (.ifCond .ne 10, 3) := by decide +kernel
theorem dX10_seemsBy_74 : decode cX10_seemsBy 74 = .ok (.iload 4, 2) := by decide +kernel
theorem dX10_seemsBy_76 : decode cX10_seemsBy 76 = .ok (.iconst 2, 1) := by decide +kernel
theorem dX10_seemsBy_77 : decode cX10_seemsBy 77 = .ok (.iadd, 1) := by decide +kernel
theorem dX10_seemsBy_78 : decode cX10_seemsBy 78 = .ok (.goto 5, 3) := by decide +kernel
theorem dX10_seemsBy_81 : decode cX10_seemsBy 81 = .ok (.iload 4, 2) := by decide +kernel
theorem dX10_seemsBy_83 : decode cX10_seemsBy 83 = .ok (.ireturn, 1) := by decide +kernel
theorem dX10_seemsBy_84 : decode cX10_seemsBy 84 = .ok (.iconst 2, 1) := by decide +kernel
theorem dX10_seemsBy_85 : decode cX10_seemsBy 85 = .ok (.iload 4, 2) := by decide +kernel
theorem dX10_seemsBy_87 : decode cX10_seemsBy 87 = .ok (.imul, 1) := by decide +kernel
theorem dX10_seemsBy_88 : decode cX10_seemsBy 88 = .ok (.ireturn, 1) := by decide +kernel
theorem dX10_seemsBy_89 : decode cX10_seemsBy 89 = .ok (.iload 4, 2) := by decide +kernel
theorem dX10_seemsBy_91 : decode cX10_seemsBy 91 = .ok (.ireturn, 1) := by decide +kernel
theorem dX10_isOpen_0 : decode cX10_isOpen 0 = .ok (.aload_n 0, 1) := by decide +kernel
theorem dX10_isOpen_1 : decode cX10_isOpen 1 = .ok (.iload_n 1, 1) := by decide +kernel
theorem dX10_isOpen_2 : decode cX10_isOpen 2 = .ok (.iconst 4, 1) := by decide +kernel
theorem dX10_isOpen_3 : decode cX10_isOpen 3 = .ok (.invokestatic 57, 3) := by decide +kernel
theorem dX10_isOpen_6 : decode cX10_isOpen 6 = .ok (.iaload, 1) := by decide +kernel
theorem dX10_isOpen_7 : decode cX10_isOpen 7 = .ok (.ifCond .ne 7, 3) := by decide +kernel
theorem dX10_isOpen_10 : decode cX10_isOpen 10 = .ok (.iconst 1, 1) := by decide +kernel
theorem dX10_isOpen_11 : decode cX10_isOpen 11 = .ok (.goto 4, 3) := by decide +kernel
theorem dX10_isOpen_14 : decode cX10_isOpen 14 = .ok (.iconst 0, 1) := by decide +kernel
theorem dX10_isOpen_15 : decode cX10_isOpen 15 = .ok (.ireturn, 1) := by decide +kernel
theorem dX10_farAt_0 : decode cX10_farAt 0 = .ok (.iload_n 2, 1) := by decide +kernel
theorem dX10_farAt_1 : decode cX10_farAt 1 = .ok (.aload_n 0, 1) := by decide +kernel
theorem dX10_farAt_2 : decode cX10_farAt 2 = .ok (.iload_n 1, 1) := by decide +kernel
theorem dX10_farAt_3 : decode cX10_farAt 3 = .ok (.iconst 3, 1) := by decide +kernel
theorem dX10_farAt_4 : decode cX10_farAt 4 = .ok (.invokestatic 57, 3) := by decide +kernel
theorem dX10_farAt_7 : decode cX10_farAt 7 = .ok (.iaload, 1) := by decide +kernel
theorem dX10_farAt_8 : decode cX10_farAt 8 = .ok (.invokestatic 60, 3) := by decide +kernel
theorem dX10_farAt_11 : decode cX10_farAt 11 = .ok (.ireturn, 1) := by decide +kernel
theorem dX10_shines_0 : decode cX10_shines 0 = .ok (.aload_n 0, 1) := by decide +kernel
theorem dX10_shines_1 : decode cX10_shines 1 = .ok (.iload_n 1, 1) := by decide +kernel
theorem dX10_shines_2 : decode cX10_shines 2 = .ok (.invokestatic 63, 3) := by decide +kernel
theorem dX10_shines_5 : decode cX10_shines 5 = .ok (.ifCond .eq 29, 3) := by decide +kernel
theorem dX10_shines_8 : decode cX10_shines 8 = .ok (.aload_n 0, 1) := by decide +kernel
theorem dX10_shines_9 : decode cX10_shines 9 = .ok (.iload_n 1, 1) := by decide +kernel
theorem dX10_shines_10 : decode cX10_shines 10 = .ok (.iconst 0, 1) := by decide +kernel
theorem dX10_shines_11 : decode cX10_shines 11 = .ok (.invokestatic 57, 3) := by decide +kernel
theorem dX10_shines_14 : decode cX10_shines 14 = .ok (.iaload, 1) := by decide +kernel
theorem dX10_shines_15 : decode cX10_shines 15 = .ok (.aload_n 0, 1) := by decide +kernel
theorem dX10_shines_16 : decode cX10_shines 16 = .ok (.iload_n 1, 1) := by decide +kernel
theorem dX10_shines_17 : decode cX10_shines 17 = .ok (.iconst 1, 1) := by decide +kernel
theorem dX10_shines_18 : decode cX10_shines 18 = .ok (.invokestatic 57, 3) := by decide +kernel
theorem dX10_shines_21 : decode cX10_shines 21 = .ok (.iaload, 1) := by decide +kernel
theorem dX10_shines_22 : decode cX10_shines 22 = .ok (.aload_n 0, 1) := by decide +kernel
theorem dX10_shines_23 : decode cX10_shines 23 = .ok (.iload_n 1, 1) := by decide +kernel
theorem dX10_shines_24 : decode cX10_shines 24 = .ok (.iload_n 2, 1) := by decide +kernel
theorem dX10_shines_25 : decode cX10_shines 25 = .ok (.invokestatic 67, 3) := by decide +kernel
theorem dX10_shines_28 : decode cX10_shines 28 = .ok (.invokestatic 71, 3) := by decide +kernel
theorem dX10_shines_31 : decode cX10_shines 31 = .ok (.goto 4, 3) := by decide +kernel
theorem dX10_shines_34 : decode cX10_shines 34 = .ok (.iconst 0, 1) := by decide +kernel
theorem dX10_shines_35 : decode cX10_shines 35 = .ok (.ireturn, 1) := by decide +kernel
theorem dX10_moves_0 : decode cX10_moves 0 = .ok (.aload_n 0, 1) := by decide +kernel
theorem dX10_moves_1 : decode cX10_moves 1 = .ok (.iload_n 1, 1) := by decide +kernel
theorem dX10_moves_2 : decode cX10_moves 2 = .ok (.invokestatic 63, 3) := by decide +kernel
theorem dX10_moves_5 : decode cX10_moves 5 = .ok (.ifCond .eq 34, 3) := by decide +kernel
theorem dX10_moves_8 : decode cX10_moves 8 = .ok (.aload_n 0, 1) := by decide +kernel
theorem dX10_moves_9 : decode cX10_moves 9 = .ok (.iload_n 1, 1) := by decide +kernel
theorem dX10_moves_10 : decode cX10_moves 10 = .ok (.iconst 0, 1) := by decide +kernel
theorem dX10_moves_11 : decode cX10_moves 11 = .ok (.invokestatic 57, 3) := by decide +kernel
theorem dX10_moves_14 : decode cX10_moves 14 = .ok (.iaload, 1) := by decide +kernel
theorem dX10_moves_15 : decode cX10_moves 15 = .ok (.aload_n 0, 1) := by decide +kernel
theorem dX10_moves_16 : decode cX10_moves 16 = .ok (.iload_n 1, 1) := by decide +kernel
theorem dX10_moves_17 : decode cX10_moves 17 = .ok (.iconst 1, 1) := by decide +kernel
theorem dX10_moves_18 : decode cX10_moves 18 = .ok (.invokestatic 57, 3) := by decide +kernel
theorem dX10_moves_21 : decode cX10_moves 21 = .ok (.iaload, 1) := by decide +kernel
theorem dX10_moves_22 : decode cX10_moves 22 = .ok (.aload_n 0, 1) := by decide +kernel
theorem dX10_moves_23 : decode cX10_moves 23 = .ok (.iload_n 1, 1) := by decide +kernel
theorem dX10_moves_24 : decode cX10_moves 24 = .ok (.iload_n 2, 1) := by decide +kernel
theorem dX10_moves_25 : decode cX10_moves 25 = .ok (.invokestatic 67, 3) := by decide +kernel
theorem dX10_moves_28 : decode cX10_moves 28 = .ok (.iload_n 2, 1) := by decide +kernel
theorem dX10_moves_29 : decode cX10_moves 29 = .ok (.invokestatic 75, 3) := by decide +kernel
theorem dX10_moves_32 : decode cX10_moves 32 = .ok (.ifCond .eq 7, 3) := by decide +kernel
theorem dX10_moves_35 : decode cX10_moves 35 = .ok (.iconst 1, 1) := by decide +kernel
theorem dX10_moves_36 : decode cX10_moves 36 = .ok (.goto 4, 3) := by decide +kernel
theorem dX10_moves_39 : decode cX10_moves 39 = .ok (.iconst 0, 1) := by decide +kernel
theorem dX10_moves_40 : decode cX10_moves 40 = .ok (.ireturn, 1) := by decide +kernel
theorem dX10_seems_0 : decode cX10_seems 0 = .ok (.aload_n 0, 1) := by decide +kernel
theorem dX10_seems_1 : decode cX10_seems 1 = .ok (.iload_n 1, 1) := by decide +kernel
theorem dX10_seems_2 : decode cX10_seems 2 = .ok (.invokestatic 63, 3) := by decide +kernel
theorem dX10_seems_5 : decode cX10_seems 5 = .ok (.ifCond .eq 30, 3) := by decide +kernel
theorem dX10_seems_8 : decode cX10_seems 8 = .ok (.aload_n 0, 1) := by decide +kernel
theorem dX10_seems_9 : decode cX10_seems 9 = .ok (.iload_n 1, 1) := by decide +kernel
theorem dX10_seems_10 : decode cX10_seems 10 = .ok (.iconst 0, 1) := by decide +kernel
theorem dX10_seems_11 : decode cX10_seems 11 = .ok (.invokestatic 57, 3) := by decide +kernel
theorem dX10_seems_14 : decode cX10_seems 14 = .ok (.iaload, 1) := by decide +kernel
theorem dX10_seems_15 : decode cX10_seems 15 = .ok (.aload_n 0, 1) := by decide +kernel
theorem dX10_seems_16 : decode cX10_seems 16 = .ok (.iload_n 1, 1) := by decide +kernel
theorem dX10_seems_17 : decode cX10_seems 17 = .ok (.iconst 1, 1) := by decide +kernel
theorem dX10_seems_18 : decode cX10_seems 18 = .ok (.invokestatic 57, 3) := by decide +kernel
theorem dX10_seems_21 : decode cX10_seems 21 = .ok (.iaload, 1) := by decide +kernel
theorem dX10_seems_22 : decode cX10_seems 22 = .ok (.aload_n 0, 1) := by decide +kernel
theorem dX10_seems_23 : decode cX10_seems 23 = .ok (.iload_n 1, 1) := by decide +kernel
theorem dX10_seems_24 : decode cX10_seems 24 = .ok (.iload_n 2, 1) := by decide +kernel
theorem dX10_seems_25 : decode cX10_seems 25 = .ok (.invokestatic 67, 3) := by decide +kernel
theorem dX10_seems_28 : decode cX10_seems 28 = .ok (.iload_n 2, 1) := by decide +kernel
theorem dX10_seems_29 : decode cX10_seems 29 = .ok (.invokestatic 79, 3) := by decide +kernel
theorem dX10_seems_32 : decode cX10_seems 32 = .ok (.goto 4, 3) := by decide +kernel
theorem dX10_seems_35 : decode cX10_seems 35 = .ok (.iconst 0, 1) := by decide +kernel
theorem dX10_seems_36 : decode cX10_seems 36 = .ok (.ireturn, 1) := by decide +kernel
theorem dX10_lightOf_0 : decode cX10_lightOf 0 = .ok (.iconst 0, 1) := by decide +kernel
theorem dX10_lightOf_1 : decode cX10_lightOf 1 = .ok (.istore_n 3, 1) := by decide +kernel
theorem dX10_lightOf_2 : decode cX10_lightOf 2 = .ok (.iconst 0, 1) := by decide +kernel
theorem dX10_lightOf_3 : decode cX10_lightOf 3 = .ok (.istore 4, 2) := by decide +kernel
theorem dX10_lightOf_5 : decode cX10_lightOf 5 = .ok (.iload 4, 2) := by decide +kernel
theorem dX10_lightOf_7 : decode cX10_lightOf 7 = .ok (.aload_n 0, 1) := by decide +kernel
theorem dX10_lightOf_8 : decode cX10_lightOf 8 = .ok (.iconst 0, 1) := by decide +kernel
theorem dX10_lightOf_9 : decode cX10_lightOf 9 = .ok (.iaload, 1) := by decide +kernel
theorem dX10_lightOf_10 : decode cX10_lightOf 10 = .ok (.if_icmp .ge 35, 3) := by decide +kernel
theorem dX10_lightOf_13 : decode cX10_lightOf 13 = .ok (.iload_n 3, 1) := by decide +kernel
theorem dX10_lightOf_14 : decode cX10_lightOf 14 = .ok (.aload_n 0, 1) := by decide +kernel
theorem dX10_lightOf_15 : decode cX10_lightOf 15 = .ok (.iload 4, 2) := by decide +kernel
theorem dX10_lightOf_17 : decode cX10_lightOf 17 = .ok (.iconst 2, 1) := by decide +kernel
theorem dX10_lightOf_18 : decode cX10_lightOf 18 = .ok (.invokestatic 57, 3) := by decide +kernel
theorem dX10_lightOf_21 : decode cX10_lightOf 21 = .ok (.iaload, 1) := by decide +kernel
theorem dX10_lightOf_22 : decode cX10_lightOf 22 = .ok (.iload_n 1, 1) := by decide +kernel
theorem dX10_lightOf_23 : decode cX10_lightOf 23 = .ok (.if_icmp .ne 13, 3) := by decide +kernel
theorem dX10_lightOf_26 : decode cX10_lightOf 26 = .ok (.aload_n 0, 1) := by decide +kernel
theorem dX10_lightOf_27 : decode cX10_lightOf 27 = .ok (.iload 4, 2) := by decide +kernel
theorem dX10_lightOf_29 : decode cX10_lightOf 29 = .ok (.iload_n 2, 1) := by decide +kernel
theorem dX10_lightOf_30 : decode cX10_lightOf 30 = .ok (.invokestatic 83, 3) := by decide +kernel
theorem dX10_lightOf_33 : decode cX10_lightOf 33 = .ok (.goto 4, 3) := by decide +kernel
theorem dX10_lightOf_36 : decode cX10_lightOf 36 = .ok (.iconst 0, 1) := by decide +kernel
theorem dX10_lightOf_37 : decode cX10_lightOf 37 = .ok (.iadd, 1) := by decide +kernel
theorem dX10_lightOf_38 : decode cX10_lightOf 38 = .ok (.istore_n 3, 1) := by decide +kernel
theorem dX10_lightOf_39 : decode cX10_lightOf 39 = .ok (.iinc 4 1, 3) := by decide +kernel
theorem dX10_lightOf_42 : decode cX10_lightOf 42 = .ok (.goto (-37), 3) := by decide +kernel
theorem dX10_lightOf_45 : decode cX10_lightOf 45 = .ok (.iload_n 3, 1) := by decide +kernel
theorem dX10_lightOf_46 : decode cX10_lightOf 46 = .ok (.ireturn, 1) := by decide +kernel
theorem dX10_allLight_0 : decode cX10_allLight 0 = .ok (.iconst 0, 1) := by decide +kernel
theorem dX10_allLight_1 : decode cX10_allLight 1 = .ok (.istore_n 2, 1) := by decide +kernel
theorem dX10_allLight_2 : decode cX10_allLight 2 = .ok (.iconst 0, 1) := by decide +kernel
theorem dX10_allLight_3 : decode cX10_allLight 3 = .ok (.istore_n 3, 1) := by decide +kernel
theorem dX10_allLight_4 : decode cX10_allLight 4 = .ok (.iload_n 3, 1) := by decide +kernel
theorem dX10_allLight_5 : decode cX10_allLight 5 = .ok (.iconst 4, 1) := by decide +kernel
theorem dX10_allLight_6 : decode cX10_allLight 6 = .ok (.if_icmp .ge 18, 3) := by decide +kernel
theorem dX10_allLight_9 : decode cX10_allLight 9 = .ok (.iload_n 2, 1) := by decide +kernel
theorem dX10_allLight_10 : decode cX10_allLight 10 = .ok (.aload_n 0, 1) := by decide +kernel
theorem dX10_allLight_11 : decode cX10_allLight 11 = .ok (.iload_n 3, 1) := by decide +kernel
theorem dX10_allLight_12 : decode cX10_allLight 12 = .ok (.iload_n 1, 1) := by decide +kernel
theorem dX10_allLight_13 : decode cX10_allLight 13 = .ok (.invokestatic 86, 3) := by decide +kernel
theorem dX10_allLight_16 : decode cX10_allLight 16 = .ok (.iadd, 1) := by decide +kernel
theorem dX10_allLight_17 : decode cX10_allLight 17 = .ok (.istore_n 2, 1) := by decide +kernel
theorem dX10_allLight_18 : decode cX10_allLight 18 = .ok (.iinc 3 1, 3) := by decide +kernel
theorem dX10_allLight_21 : decode cX10_allLight 21 = .ok (.goto (-17), 3) := by decide +kernel
theorem dX10_allLight_24 : decode cX10_allLight 24 = .ok (.iload_n 2, 1) := by decide +kernel
theorem dX10_allLight_25 : decode cX10_allLight 25 = .ok (.ireturn, 1) := by decide +kernel
theorem dX10_lacks_0 : decode cX10_lacks 0 = .ok (.iconst 0, 1) := by decide +kernel
theorem dX10_lacks_1 : decode cX10_lacks 1 = .ok (.aload_n 0, 1) := by decide +kernel
theorem dX10_lacks_2 : decode cX10_lacks 2 = .ok (.iconst 5, 1) := by decide +kernel
theorem dX10_lacks_3 : decode cX10_lacks 3 = .ok (.iload_n 1, 1) := by decide +kernel
theorem dX10_lacks_4 : decode cX10_lacks 4 = .ok (.iadd, 1) := by decide +kernel
theorem dX10_lacks_5 : decode cX10_lacks 5 = .ok (.iaload, 1) := by decide +kernel
theorem dX10_lacks_6 : decode cX10_lacks 6 = .ok (.aload_n 0, 1) := by decide +kernel
theorem dX10_lacks_7 : decode cX10_lacks 7 = .ok (.iload_n 1, 1) := by decide +kernel
theorem dX10_lacks_8 : decode cX10_lacks 8 = .ok (.iload_n 2, 1) := by decide +kernel
theorem dX10_lacks_9 : decode cX10_lacks 9 = .ok (.invokestatic 86, 3) := by decide +kernel
theorem dX10_lacks_12 : decode cX10_lacks 12 = .ok (.isub, 1) := by decide +kernel
theorem dX10_lacks_13 : decode cX10_lacks 13 = .ok (.invokestatic 54, 3) := by decide +kernel
theorem dX10_lacks_16 : decode cX10_lacks 16 = .ok (.ireturn, 1) := by decide +kernel
theorem dX10_isDark_0 : decode cX10_isDark 0 = .ok (.iconst 0, 1) := by decide +kernel
theorem dX10_isDark_1 : decode cX10_isDark 1 = .ok (.istore_n 2, 1) := by decide +kernel
theorem dX10_isDark_2 : decode cX10_isDark 2 = .ok (.iload_n 2, 1) := by decide +kernel
theorem dX10_isDark_3 : decode cX10_isDark 3 = .ok (.iconst 4, 1) := by decide +kernel
theorem dX10_isDark_4 : decode cX10_isDark 4 = .ok (.if_icmp .ge 20, 3) := by decide +kernel
theorem dX10_isDark_7 : decode cX10_isDark 7 = .ok (.aload_n 0, 1) := by decide +kernel
theorem dX10_isDark_8 : decode cX10_isDark 8 = .ok (.iload_n 2, 1) := by decide +kernel
theorem dX10_isDark_9 : decode cX10_isDark 9 = .ok (.iload_n 1, 1) := by decide +kernel
theorem dX10_isDark_10 : decode cX10_isDark 10 = .ok (.invokestatic 89, 3) := by decide +kernel
theorem dX10_isDark_13 : decode cX10_isDark 13 = .ok (.ifCond .le 5, 3) := by decide +kernel
theorem dX10_isDark_16 : decode cX10_isDark 16 = .ok (.iconst 1, 1) := by decide +kernel
theorem dX10_isDark_17 : decode cX10_isDark 17 = .ok (.ireturn, 1) := by decide +kernel
theorem dX10_isDark_18 : decode cX10_isDark 18 = .ok (.iinc 2 1, 3) := by decide +kernel
theorem dX10_isDark_21 : decode cX10_isDark 21 = .ok (.goto (-19), 3) := by decide +kernel
theorem dX10_isDark_24 : decode cX10_isDark 24 = .ok (.iconst 0, 1) := by decide +kernel
theorem dX10_isDark_25 : decode cX10_isDark 25 = .ok (.ireturn, 1) := by decide +kernel
theorem dX10_duesOf_0 : decode cX10_duesOf 0 = .ok (.iconst 0, 1) := by decide +kernel
theorem dX10_duesOf_1 : decode cX10_duesOf 1 = .ok (.istore_n 1, 1) := by decide +kernel
theorem dX10_duesOf_2 : decode cX10_duesOf 2 = .ok (.iconst 0, 1) := by decide +kernel
theorem dX10_duesOf_3 : decode cX10_duesOf 3 = .ok (.istore_n 2, 1) := by decide +kernel
theorem dX10_duesOf_4 : decode cX10_duesOf 4 = .ok (.iload_n 2, 1) := by decide +kernel
theorem dX10_duesOf_5 : decode cX10_duesOf 5 = .ok (.aload_n 0, 1) := by decide +kernel
theorem dX10_duesOf_6 : decode cX10_duesOf 6 = .ok (.iconst 0, 1) := by decide +kernel
theorem dX10_duesOf_7 : decode cX10_duesOf 7 = .ok (.iaload, 1) := by decide +kernel
theorem dX10_duesOf_8 : decode cX10_duesOf 8 = .ok (.if_icmp .ge 41, 3) := by decide +kernel
theorem dX10_duesOf_11 : decode cX10_duesOf 11 = .ok (.iload_n 1, 1) := by decide +kernel
theorem dX10_duesOf_12 : decode cX10_duesOf 12 = .ok (.aload_n 0, 1) := by decide +kernel
theorem dX10_duesOf_13 : decode cX10_duesOf 13 = .ok (.iload_n 2, 1) := by decide +kernel
theorem dX10_duesOf_14 : decode cX10_duesOf 14 = .ok (.invokestatic 63, 3) := by decide +kernel
theorem dX10_duesOf_17 : decode cX10_duesOf 17 = .ok (.ifCond .eq 23, 3) := by decide +kernel
theorem dX10_duesOf_20 : decode cX10_duesOf 20 = .ok (.aload_n 0, 1) := by decide +kernel
theorem dX10_duesOf_21 : decode cX10_duesOf 21 = .ok (.iload_n 2, 1) := by decide +kernel
theorem dX10_duesOf_22 : decode cX10_duesOf 22 = .ok (.iconst 0, 1) := by decide +kernel
theorem dX10_duesOf_23 : decode cX10_duesOf 23 = .ok (.invokestatic 57, 3) := by decide +kernel
theorem dX10_duesOf_26 : decode cX10_duesOf 26 = .ok (.iaload, 1) := by decide +kernel
theorem dX10_duesOf_27 : decode cX10_duesOf 27 = .ok (.aload_n 0, 1) := by decide +kernel
theorem dX10_duesOf_28 : decode cX10_duesOf 28 = .ok (.iload_n 2, 1) := by decide +kernel
theorem dX10_duesOf_29 : decode cX10_duesOf 29 = .ok (.iconst 1, 1) := by decide +kernel
theorem dX10_duesOf_30 : decode cX10_duesOf 30 = .ok (.invokestatic 57, 3) := by decide +kernel
theorem dX10_duesOf_33 : decode cX10_duesOf 33 = .ok (.iaload, 1) := by decide +kernel
theorem dX10_duesOf_34 : decode cX10_duesOf 34 = .ok (.invokestatic 92, 3) := by decide +kernel
theorem dX10_duesOf_37 : decode cX10_duesOf 37 = .ok (.goto 4, 3) := by decide +kernel
theorem dX10_duesOf_40 : decode cX10_duesOf 40 = .ok (.iconst 0, 1) := by decide +kernel
theorem dX10_duesOf_41 : decode cX10_duesOf 41 = .ok (.iadd, 1) := by decide +kernel
theorem dX10_duesOf_42 : decode cX10_duesOf 42 = .ok (.istore_n 1, 1) := by decide +kernel
theorem dX10_duesOf_43 : decode cX10_duesOf 43 = .ok (.iinc 2 1, 3) := by decide +kernel
theorem dX10_duesOf_46 : decode cX10_duesOf 46 = .ok (.goto (-42), 3) := by decide +kernel
theorem dX10_duesOf_49 : decode cX10_duesOf 49 = .ok (.iload_n 1, 1) := by decide +kernel
theorem dX10_duesOf_50 : decode cX10_duesOf 50 = .ok (.aload_n 0, 1) := by decide +kernel
theorem dX10_duesOf_51 : decode cX10_duesOf 51 = .ok (.iconst 4, 1) := by decide +kernel
theorem dX10_duesOf_52 : decode cX10_duesOf 52 = .ok (.iaload, 1) := by decide +kernel
theorem dX10_duesOf_53 : decode cX10_duesOf 53 = .ok (.imul, 1) := by decide +kernel
theorem dX10_duesOf_54 : decode cX10_duesOf 54 = .ok (.ireturn, 1) := by decide +kernel
theorem dX10_movesDue_0 : decode cX10_movesDue 0 = .ok (.iconst 0, 1) := by decide +kernel
theorem dX10_movesDue_1 : decode cX10_movesDue 1 = .ok (.istore_n 2, 1) := by decide +kernel
theorem dX10_movesDue_2 : decode cX10_movesDue 2 = .ok (.iconst 0, 1) := by decide +kernel
theorem dX10_movesDue_3 : decode cX10_movesDue 3 = .ok (.istore_n 3, 1) := by decide +kernel
theorem dX10_movesDue_4 : decode cX10_movesDue 4 = .ok (.iload_n 3, 1) := by decide +kernel
theorem dX10_movesDue_5 : decode cX10_movesDue 5 = .ok (.aload_n 0, 1) := by decide +kernel
theorem dX10_movesDue_6 : decode cX10_movesDue 6 = .ok (.iconst 0, 1) := by decide +kernel
theorem dX10_movesDue_7 : decode cX10_movesDue 7 = .ok (.iaload, 1) := by decide +kernel
theorem dX10_movesDue_8 : decode cX10_movesDue 8 = .ok (.if_icmp .ge 34, 3) := by decide +kernel
theorem dX10_movesDue_11 : decode cX10_movesDue 11 = .ok (.iload_n 2, 1) := by decide +kernel
theorem dX10_movesDue_12 : decode cX10_movesDue 12 = .ok (.aload_n 0, 1) := by decide +kernel
theorem dX10_movesDue_13 : decode cX10_movesDue 13 = .ok (.iload_n 3, 1) := by decide +kernel
theorem dX10_movesDue_14 : decode cX10_movesDue 14 = .ok (.iload_n 1, 1) := by decide +kernel
theorem dX10_movesDue_15 : decode cX10_movesDue 15 = .ok (.invokestatic 95, 3) := by decide +kernel
theorem dX10_movesDue_18 : decode cX10_movesDue 18 = .ok (.ifCond .eq 15, 3) := by decide +kernel
theorem dX10_movesDue_21 : decode cX10_movesDue 21 = .ok (.aload_n 0, 1) := by decide +kernel
theorem dX10_movesDue_22 : decode cX10_movesDue 22 = .ok (.iload_n 3, 1) := by decide +kernel
theorem dX10_movesDue_23 : decode cX10_movesDue 23 = .ok (.iconst 1, 1) := by decide +kernel
theorem dX10_movesDue_24 : decode cX10_movesDue 24 = .ok (.invokestatic 57, 3) := by decide +kernel
theorem dX10_movesDue_27 : decode cX10_movesDue 27 = .ok (.iaload, 1) := by decide +kernel
theorem dX10_movesDue_28 : decode cX10_movesDue 28 = .ok (.iconst 1, 1) := by decide +kernel
theorem dX10_movesDue_29 : decode cX10_movesDue 29 = .ok (.iadd, 1) := by decide +kernel
theorem dX10_movesDue_30 : decode cX10_movesDue 30 = .ok (.goto 4, 3) := by decide +kernel
theorem dX10_movesDue_33 : decode cX10_movesDue 33 = .ok (.iconst 0, 1) := by decide +kernel
theorem dX10_movesDue_34 : decode cX10_movesDue 34 = .ok (.iadd, 1) := by decide +kernel
theorem dX10_movesDue_35 : decode cX10_movesDue 35 = .ok (.istore_n 2, 1) := by decide +kernel
theorem dX10_movesDue_36 : decode cX10_movesDue 36 = .ok (.iinc 3 1, 3) := by decide +kernel
theorem dX10_movesDue_39 : decode cX10_movesDue 39 = .ok (.goto (-35), 3) := by decide +kernel
theorem dX10_movesDue_42 : decode cX10_movesDue 42 = .ok (.iload_n 2, 1) := by decide +kernel
theorem dX10_movesDue_43 : decode cX10_movesDue 43 = .ok (.ireturn, 1) := by decide +kernel
theorem dX10_movesMany_0 : decode cX10_movesMany 0 = .ok (.iconst 0, 1) := by decide +kernel
theorem dX10_movesMany_1 : decode cX10_movesMany 1 = .ok (.istore_n 2, 1) := by decide +kernel
theorem dX10_movesMany_2 : decode cX10_movesMany 2 = .ok (.iconst 0, 1) := by decide +kernel
theorem dX10_movesMany_3 : decode cX10_movesMany 3 = .ok (.istore_n 3, 1) := by decide +kernel
theorem dX10_movesMany_4 : decode cX10_movesMany 4 = .ok (.iload_n 3, 1) := by decide +kernel
theorem dX10_movesMany_5 : decode cX10_movesMany 5 = .ok (.aload_n 0, 1) := by decide +kernel
theorem dX10_movesMany_6 : decode cX10_movesMany 6 = .ok (.iconst 0, 1) := by decide +kernel
theorem dX10_movesMany_7 : decode cX10_movesMany 7 = .ok (.iaload, 1) := by decide +kernel
theorem dX10_movesMany_8 : decode cX10_movesMany 8 = .ok (.if_icmp .ge 26, 3) := by decide +kernel
theorem dX10_movesMany_11 : decode cX10_movesMany 11 = .ok (.iload_n 2, 1) := by decide +kernel
theorem dX10_movesMany_12 : decode cX10_movesMany 12 = .ok (.aload_n 0, 1) := by decide +kernel
theorem dX10_movesMany_13 : decode cX10_movesMany 13 = .ok (.iload_n 3, 1) := by decide +kernel
theorem dX10_movesMany_14 : decode cX10_movesMany 14 = .ok (.iload_n 1, 1) := by decide +kernel
theorem dX10_movesMany_15 : decode cX10_movesMany 15 = .ok (.invokestatic 95, 3) := by decide +kernel
theorem dX10_movesMany_18 : decode cX10_movesMany 18 = .ok (.ifCond .eq 7, 3) := by decide +kernel
theorem dX10_movesMany_21 : decode cX10_movesMany 21 = .ok (.iconst 1, 1) := by decide +kernel
theorem dX10_movesMany_22 : decode cX10_movesMany 22 = .ok (.goto 4, 3) := by decide +kernel
theorem dX10_movesMany_25 : decode cX10_movesMany 25 = .ok (.iconst 0, 1) := by decide +kernel
theorem dX10_movesMany_26 : decode cX10_movesMany 26 = .ok (.iadd, 1) := by decide +kernel
theorem dX10_movesMany_27 : decode cX10_movesMany 27 = .ok (.istore_n 2, 1) := by decide +kernel
theorem dX10_movesMany_28 : decode cX10_movesMany 28 = .ok (.iinc 3 1, 3) := by decide +kernel
theorem dX10_movesMany_31 : decode cX10_movesMany 31 = .ok (.goto (-27), 3) := by decide +kernel
theorem dX10_movesMany_34 : decode cX10_movesMany 34 = .ok (.iload_n 2, 1) := by decide +kernel
theorem dX10_movesMany_35 : decode cX10_movesMany 35 = .ok (.ireturn, 1) := by decide +kernel
theorem dX10_year_0 : decode cX10_year 0 = .ok (.aload_n 0, 1) := by decide +kernel
theorem dX10_year_1 : decode cX10_year 1 = .ok (.iconst 3, 1) := by decide +kernel
theorem dX10_year_2 : decode cX10_year 2 = .ok (.ldc 99, 2) := by decide +kernel
theorem dX10_year_4 : decode cX10_year 4 = .ok (.aload_n 0, 1) := by decide +kernel
theorem dX10_year_5 : decode cX10_year 5 = .ok (.iconst 3, 1) := by decide +kernel
theorem dX10_year_6 : decode cX10_year 6 = .ok (.iaload, 1) := by decide +kernel
theorem dX10_year_7 : decode cX10_year 7 = .ok (.aload_n 0, 1) := by decide +kernel
theorem dX10_year_8 : decode cX10_year 8 = .ok (.invokestatic 100, 3) := by decide +kernel
theorem dX10_year_11 : decode cX10_year 11 = .ok (.iadd, 1) := by decide +kernel
theorem dX10_year_12 : decode cX10_year 12 = .ok (.aload_n 0, 1) := by decide +kernel
theorem dX10_year_13 : decode cX10_year 13 = .ok (.aload_n 0, 1) := by decide +kernel
theorem dX10_year_14 : decode cX10_year 14 = .ok (.iconst 1, 1) := by decide +kernel
theorem dX10_year_15 : decode cX10_year 15 = .ok (.iaload, 1) := by decide +kernel
theorem dX10_year_16 : decode cX10_year 16 = .ok (.invokestatic 104, 3) := by decide +kernel
theorem dX10_year_19 : decode cX10_year 19 = .ok (.aload_n 0, 1) := by decide +kernel
theorem dX10_year_20 : decode cX10_year 20 = .ok (.iconst 4, 1) := by decide +kernel
theorem dX10_year_21 : decode cX10_year 21 = .ok (.iaload, 1) := by decide +kernel
theorem dX10_year_22 : decode cX10_year 22 = .ok (.imul, 1) := by decide +kernel
theorem dX10_year_23 : decode cX10_year 23 = .ok (.iadd, 1) := by decide +kernel
theorem dX10_year_24 : decode cX10_year 24 = .ok (.invokestatic 50, 3) := by decide +kernel
theorem dX10_year_27 : decode cX10_year 27 = .ok (.iastore, 1) := by decide +kernel
theorem dX10_year_28 : decode cX10_year 28 = .ok (.return_, 1) := by decide +kernel
theorem dX10_here_0 : decode cX10_here 0 = .ok (.aload_n 0, 1) := by decide +kernel
theorem dX10_here_1 : decode cX10_here 1 = .ok (.getfield 108, 3) := by decide +kernel
theorem dX10_here_4 : decode cX10_here 4 = .ok (.aload_n 0, 1) := by decide +kernel
theorem dX10_here_5 : decode cX10_here 5 = .ok (.getfield 112, 3) := by decide +kernel
theorem dX10_here_8 : decode cX10_here 8 = .ok (.if_icmp .ge 24, 3) := by decide +kernel
theorem dX10_here_11 : decode cX10_here 11 = .ok (.aload_n 0, 1) := by decide +kernel
theorem dX10_here_12 : decode cX10_here 12 = .ok (.getfield 43, 3) := by decide +kernel
theorem dX10_here_15 : decode cX10_here 15 = .ok (.aload_n 0, 1) := by decide +kernel
theorem dX10_here_16 : decode cX10_here 16 = .ok (.getfield 115, 3) := by decide +kernel
theorem dX10_here_19 : decode cX10_here 19 = .ok (.aload_n 0, 1) := by decide +kernel
theorem dX10_here_20 : decode cX10_here 20 = .ok (.getfield 108, 3) := by decide +kernel
theorem dX10_here_23 : decode cX10_here 23 = .ok (.iadd, 1) := by decide +kernel
theorem dX10_here_24 : decode cX10_here 24 = .ok (.iaload, 1) := by decide +kernel
theorem dX10_here_25 : decode cX10_here 25 = .ok (.sipush 255, 3) := by decide +kernel
theorem dX10_here_28 : decode cX10_here 28 = .ok (.iand, 1) := by decide +kernel
theorem dX10_here_29 : decode cX10_here 29 = .ok (.goto 4, 3) := by decide +kernel
theorem dX10_here_32 : decode cX10_here 32 = .ok (.iconst (-1), 1) := by decide +kernel
theorem dX10_here_33 : decode cX10_here 33 = .ok (.ireturn, 1) := by decide +kernel
theorem dX10_readsNumber_0 : decode cX10_readsNumber 0 = .ok (.aload_n 0, 1) := by decide +kernel
theorem dX10_readsNumber_1 : decode cX10_readsNumber 1 = .ok (.getfield 22, 3) := by decide +kernel
theorem dX10_readsNumber_4 : decode cX10_readsNumber 4 = .ok (.iload_n 1, 1) := by decide +kernel
theorem dX10_readsNumber_5 : decode cX10_readsNumber 5 = .ok (.iconst 0, 1) := by decide +kernel
theorem dX10_readsNumber_6 : decode cX10_readsNumber 6 = .ok (.iastore, 1) := by decide +kernel
theorem dX10_readsNumber_7 : decode cX10_readsNumber 7 = .ok (.iconst 0, 1) := by decide +kernel
theorem dX10_readsNumber_8 : decode cX10_readsNumber 8 = .ok (.istore_n 3, 1) := by decide +kernel
theorem dX10_readsNumber_9 : decode cX10_readsNumber 9 = .ok (.iload_n 3, 1) := by decide +kernel
theorem dX10_readsNumber_10 : decode cX10_readsNumber 10 = .ok (.iload_n 2, 1) := by decide +kernel
theorem dX10_readsNumber_11 : decode cX10_readsNumber 11 = .ok (.if_icmp .ge 58, 3) := by decide +kernel
theorem dX10_readsNumber_14 : decode cX10_readsNumber 14 = .ok (.aload_n 0, 1) := by decide +kernel
theorem dX10_readsNumber_15 : decode cX10_readsNumber 15 = .ok (.invokevirtual 118, 3) := by decide +kernel
theorem dX10_readsNumber_18 : decode cX10_readsNumber 18 = .ok (.bipush 48, 2) := by decide +kernel
theorem dX10_readsNumber_20 : decode cX10_readsNumber 20 = .ok (.bipush 57, 2) := by decide +kernel
theorem dX10_readsNumber_22 : decode cX10_readsNumber 22 = .ok (.invokestatic 46, 3) := by decide +kernel
theorem dX10_readsNumber_25 : decode cX10_readsNumber 25 = .ok (.ifCond .ne 5, 3) := by decide +kernel
theorem dX10_readsNumber_28 : decode cX10_readsNumber 28 = .ok (.iconst 0, 1) := by decide +kernel
theorem dX10_readsNumber_29 : decode cX10_readsNumber 29 = .ok (.ireturn, 1) := by decide +kernel
theorem dX10_readsNumber_30 : decode cX10_readsNumber 30 = .ok (.aload_n 0, 1) := by decide +kernel
theorem dX10_readsNumber_31 : decode cX10_readsNumber 31 = .ok (.getfield 22, 3) := by decide +kernel
theorem dX10_readsNumber_34 : decode cX10_readsNumber 34 = .ok (.iload_n 1, 1) := by decide +kernel
theorem dX10_readsNumber_35 : decode cX10_readsNumber 35 = .ok (.bipush 10, 2) := by decide +kernel
theorem dX10_readsNumber_37 : decode cX10_readsNumber 37 = .ok (.aload_n 0, 1) := by decide +kernel
theorem dX10_readsNumber_38 : decode cX10_readsNumber 38 = .ok (.getfield 22, 3) := by decide +kernel
theorem dX10_readsNumber_41 : decode cX10_readsNumber 41 = .ok (.iload_n 1, 1) := by decide +kernel
theorem dX10_readsNumber_42 : decode cX10_readsNumber 42 = .ok (.iaload, 1) := by decide +kernel
theorem dX10_readsNumber_43 : decode cX10_readsNumber 43 = .ok (.imul, 1) := by decide +kernel
theorem dX10_readsNumber_44 : decode cX10_readsNumber 44 = .ok (.aload_n 0, 1) := by decide +kernel
theorem dX10_readsNumber_45 : decode cX10_readsNumber 45 = .ok (.invokevirtual 118, 3) := by decide +kernel
theorem dX10_readsNumber_48 : decode cX10_readsNumber 48 = .ok (.iadd, 1) := by decide +kernel
theorem dX10_readsNumber_49 : decode cX10_readsNumber 49 = .ok (.bipush 48, 2) := by decide +kernel
theorem dX10_readsNumber_51 : decode cX10_readsNumber 51 = .ok (.isub, 1) := by decide +kernel
theorem dX10_readsNumber_52 : decode cX10_readsNumber 52 = .ok (.iastore, 1) := by decide +kernel
theorem dX10_readsNumber_53 : decode cX10_readsNumber 53 = .ok (.aload_n 0, 1) := by decide +kernel
theorem dX10_readsNumber_54 : decode cX10_readsNumber 54 = .ok (.dup, 1) := by decide +kernel
theorem dX10_readsNumber_55 : decode cX10_readsNumber 55 = .ok (.getfield 108, 3) := by decide +kernel
theorem dX10_readsNumber_58 : decode cX10_readsNumber 58 = .ok (.iconst 1, 1) := by decide +kernel
theorem dX10_readsNumber_59 : decode cX10_readsNumber 59 = .ok (.iadd, 1) := by decide +kernel
theorem dX10_readsNumber_60 : decode cX10_readsNumber 60 = .ok (.putfield 108, 3) := by decide +kernel
theorem dX10_readsNumber_63 : decode cX10_readsNumber 63 = .ok (.iinc 3 1, 3) := by decide +kernel
theorem dX10_readsNumber_66 : decode cX10_readsNumber 66 = .ok (.goto (-57), 3) := by decide +kernel
theorem dX10_readsNumber_69 : decode cX10_readsNumber 69 = .ok (.iconst 1, 1) := by decide +kernel
theorem dX10_readsNumber_70 : decode cX10_readsNumber 70 = .ok (.ireturn, 1) := by decide +kernel
theorem dX10_readsStatement_0 : decode cX10_readsStatement 0 = .ok (.aload_n 0, 1) := by decide +kernel
theorem dX10_readsStatement_1 : decode cX10_readsStatement 1 = .ok (.invokevirtual 118, 3) := by decide +kernel
theorem dX10_readsStatement_4 : decode cX10_readsStatement 4 = .ok (.istore_n 1, 1) := by decide +kernel
theorem dX10_readsStatement_5 : decode cX10_readsStatement 5 = .ok (.aload_n 0, 1) := by decide +kernel
theorem dX10_readsStatement_6 : decode cX10_readsStatement 6 = .ok (.dup, 1) := by decide +kernel
theorem dX10_readsStatement_7 : decode cX10_readsStatement 7 = .ok (.getfield 108, 3) := by decide +kernel
theorem dX10_readsStatement_10 : decode cX10_readsStatement 10 = .ok (.iconst 1, 1) := by decide +kernel
theorem dX10_readsStatement_11 : decode cX10_readsStatement 11 = .ok (.iadd, 1) := by decide +kernel
theorem dX10_readsStatement_12 : decode cX10_readsStatement 12 = .ok (.putfield 108, 3) := by decide +kernel
theorem dX10_readsStatement_15 : decode cX10_readsStatement 15 = .ok (.iload_n 1, 1) := by decide +kernel
theorem dX10_readsStatement_16 : decode cX10_readsStatement 16 = .ok (.tableswitch 190 104 121 #[170, 190, 190, 190, 190, 190, 133, 190, 180, 190, 160, 160, 190, 190, 190, 88, 190, 170], 88) := by decide +kernel
theorem dX10_readsStatement_104 : decode cX10_readsStatement 104 = .ok (.aload_n 0, 1) := by decide +kernel
theorem dX10_readsStatement_105 : decode cX10_readsStatement 105 = .ok (.iconst 0, 1) := by decide +kernel
theorem dX10_readsStatement_106 : decode cX10_readsStatement 106 = .ok (.iconst 1, 1) := by decide +kernel
theorem dX10_readsStatement_107 : decode cX10_readsStatement 107 = .ok (.invokevirtual 122, 3) := by decide +kernel
theorem dX10_readsStatement_110 : decode cX10_readsStatement 110 = .ok (.ifCond .eq 34, 3) := by decide +kernel
theorem dX10_readsStatement_113 : decode cX10_readsStatement 113 = .ok (.aload_n 0, 1) := by decide +kernel
theorem dX10_readsStatement_114 : decode cX10_readsStatement 114 = .ok (.iconst 1, 1) := by decide +kernel
theorem dX10_readsStatement_115 : decode cX10_readsStatement 115 = .ok (.iconst 1, 1) := by decide +kernel
theorem dX10_readsStatement_116 : decode cX10_readsStatement 116 = .ok (.invokevirtual 122, 3) := by decide +kernel
theorem dX10_readsStatement_119 : decode cX10_readsStatement 119 = .ok (.ifCond .eq 25, 3) := by decide +kernel
theorem dX10_readsStatement_122 : decode cX10_readsStatement 122 = .ok (.aload_n 0, 1) := by decide +kernel
theorem dX10_readsStatement_123 : decode cX10_readsStatement 123 = .ok (.iconst 2, 1) := by decide +kernel
theorem dX10_readsStatement_124 : decode cX10_readsStatement 124 = .ok (.iconst 1, 1) := by decide +kernel
theorem dX10_readsStatement_125 : decode cX10_readsStatement 125 = .ok (.invokevirtual 122, 3) := by decide +kernel
theorem dX10_readsStatement_128 : decode cX10_readsStatement 128 = .ok (.ifCond .eq 16, 3) := by decide +kernel
theorem dX10_readsStatement_131 : decode cX10_readsStatement 131 = .ok (.aload_n 0, 1) := by decide +kernel
theorem dX10_readsStatement_132 : decode cX10_readsStatement 132 = .ok (.iconst 3, 1) := by decide +kernel
theorem dX10_readsStatement_133 : decode cX10_readsStatement 133 = .ok (.iconst 2, 1) := by decide +kernel
theorem dX10_readsStatement_134 : decode cX10_readsStatement 134 = .ok (.invokevirtual 122, 3) := by decide +kernel
theorem dX10_readsStatement_137 : decode cX10_readsStatement 137 = .ok (.ifCond .eq 7, 3) := by decide +kernel
theorem dX10_readsStatement_140 : decode cX10_readsStatement 140 = .ok (.iconst 1, 1) := by decide +kernel
theorem dX10_readsStatement_141 : decode cX10_readsStatement 141 = .ok (.goto 4, 3) := by decide +kernel
theorem dX10_readsStatement_144 : decode cX10_readsStatement 144 = .ok (.iconst 0, 1) := by decide +kernel
theorem dX10_readsStatement_145 : decode cX10_readsStatement 145 = .ok (.istore_n 2, 1) := by decide +kernel
theorem dX10_readsStatement_146 : decode cX10_readsStatement 146 = .ok (.goto 72, 3) := by decide +kernel
theorem dX10_readsStatement_149 : decode cX10_readsStatement 149 = .ok (.aload_n 0, 1) := by decide +kernel
theorem dX10_readsStatement_150 : decode cX10_readsStatement 150 = .ok (.iconst 0, 1) := by decide +kernel
theorem dX10_readsStatement_151 : decode cX10_readsStatement 151 = .ok (.iconst 1, 1) := by decide +kernel
theorem dX10_readsStatement_152 : decode cX10_readsStatement 152 = .ok (.invokevirtual 122, 3) := by decide +kernel
theorem dX10_readsStatement_155 : decode cX10_readsStatement 155 = .ok (.ifCond .eq 16, 3) := by decide +kernel
theorem dX10_readsStatement_158 : decode cX10_readsStatement 158 = .ok (.aload_n 0, 1) := by decide +kernel
theorem dX10_readsStatement_159 : decode cX10_readsStatement 159 = .ok (.iconst 1, 1) := by decide +kernel
theorem dX10_readsStatement_160 : decode cX10_readsStatement 160 = .ok (.iconst 2, 1) := by decide +kernel
theorem dX10_readsStatement_161 : decode cX10_readsStatement 161 = .ok (.invokevirtual 122, 3) := by decide +kernel
theorem dX10_readsStatement_164 : decode cX10_readsStatement 164 = .ok (.ifCond .eq 7, 3) := by decide +kernel
theorem dX10_readsStatement_167 : decode cX10_readsStatement 167 = .ok (.iconst 1, 1) := by decide +kernel
theorem dX10_readsStatement_168 : decode cX10_readsStatement 168 = .ok (.goto 4, 3) := by decide +kernel
theorem dX10_readsStatement_171 : decode cX10_readsStatement 171 = .ok (.iconst 0, 1) := by decide +kernel
theorem dX10_readsStatement_172 : decode cX10_readsStatement 172 = .ok (.istore_n 2, 1) := by decide +kernel
theorem dX10_readsStatement_173 : decode cX10_readsStatement 173 = .ok (.goto 45, 3) := by decide +kernel
theorem dX10_readsStatement_176 : decode cX10_readsStatement 176 = .ok (.aload_n 0, 1) := by decide +kernel
theorem dX10_readsStatement_177 : decode cX10_readsStatement 177 = .ok (.iconst 0, 1) := by decide +kernel
theorem dX10_readsStatement_178 : decode cX10_readsStatement 178 = .ok (.iconst 1, 1) := by decide +kernel
theorem dX10_readsStatement_179 : decode cX10_readsStatement 179 = .ok (.invokevirtual 122, 3) := by decide +kernel
theorem dX10_readsStatement_182 : decode cX10_readsStatement 182 = .ok (.istore_n 2, 1) := by decide +kernel
theorem dX10_readsStatement_183 : decode cX10_readsStatement 183 = .ok (.goto 35, 3) := by decide +kernel
theorem dX10_readsStatement_186 : decode cX10_readsStatement 186 = .ok (.aload_n 0, 1) := by decide +kernel
theorem dX10_readsStatement_187 : decode cX10_readsStatement 187 = .ok (.iconst 0, 1) := by decide +kernel
theorem dX10_readsStatement_188 : decode cX10_readsStatement 188 = .ok (.iconst 2, 1) := by decide +kernel
theorem dX10_readsStatement_189 : decode cX10_readsStatement 189 = .ok (.invokevirtual 122, 3) := by decide +kernel
theorem dX10_readsStatement_192 : decode cX10_readsStatement 192 = .ok (.istore_n 2, 1) := by decide +kernel
theorem dX10_readsStatement_193 : decode cX10_readsStatement 193 = .ok (.goto 25, 3) := by decide +kernel
theorem dX10_readsStatement_196 : decode cX10_readsStatement 196 = .ok (.aload_n 0, 1) := by decide +kernel
theorem dX10_readsStatement_197 : decode cX10_readsStatement 197 = .ok (.iconst 0, 1) := by decide +kernel
theorem dX10_readsStatement_198 : decode cX10_readsStatement 198 = .ok (.iconst 3, 1) := by decide +kernel
theorem dX10_readsStatement_199 : decode cX10_readsStatement 199 = .ok (.invokevirtual 122, 3) := by decide +kernel
theorem dX10_readsStatement_202 : decode cX10_readsStatement 202 = .ok (.istore_n 2, 1) := by decide +kernel
theorem dX10_readsStatement_203 : decode cX10_readsStatement 203 = .ok (.goto 15, 3) := by decide +kernel
theorem dX10_readsStatement_206 : decode cX10_readsStatement 206 = .ok (.aload_n 0, 1) := by decide +kernel
theorem dX10_readsStatement_207 : decode cX10_readsStatement 207 = .ok (.dup, 1) := by decide +kernel
theorem dX10_readsStatement_208 : decode cX10_readsStatement 208 = .ok (.getfield 108, 3) := by decide +kernel
theorem dX10_readsStatement_211 : decode cX10_readsStatement 211 = .ok (.iconst 1, 1) := by decide +kernel
theorem dX10_readsStatement_212 : decode cX10_readsStatement 212 = .ok (.isub, 1) := by decide +kernel
theorem dX10_readsStatement_213 : decode cX10_readsStatement 213 = .ok (.putfield 108, 3) := by decide +kernel
theorem dX10_readsStatement_216 : decode cX10_readsStatement 216 = .ok (.iconst 0, 1) := by decide +kernel
theorem dX10_readsStatement_217 : decode cX10_readsStatement 217 = .ok (.ireturn, 1) := by decide +kernel
theorem dX10_readsStatement_218 : decode cX10_readsStatement 218 = .ok (.iload_n 2, 1) := by decide +kernel
theorem dX10_readsStatement_219 : decode cX10_readsStatement 219 = .ok (.ifCond .eq 12, 3) := by decide +kernel
theorem dX10_readsStatement_222 : decode cX10_readsStatement 222 = .ok (.aload_n 0, 1) := by decide +kernel
theorem dX10_readsStatement_223 : decode cX10_readsStatement 223 = .ok (.invokevirtual 118, 3) := by decide +kernel
theorem dX10_readsStatement_226 : decode cX10_readsStatement 226 = .ok (.bipush 59, 2) := by decide +kernel
theorem dX10_readsStatement_228 : decode cX10_readsStatement 228 = .ok (.if_icmp .eq 5, 3) := by decide +kernel
theorem dX10_readsStatement_231 : decode cX10_readsStatement 231 = .ok (.iconst 0, 1) := by decide +kernel
theorem dX10_readsStatement_232 : decode cX10_readsStatement 232 = .ok (.ireturn, 1) := by decide +kernel
theorem dX10_readsStatement_233 : decode cX10_readsStatement 233 = .ok (.aload_n 0, 1) := by decide +kernel
theorem dX10_readsStatement_234 : decode cX10_readsStatement 234 = .ok (.dup, 1) := by decide +kernel
theorem dX10_readsStatement_235 : decode cX10_readsStatement 235 = .ok (.getfield 108, 3) := by decide +kernel
theorem dX10_readsStatement_238 : decode cX10_readsStatement 238 = .ok (.iconst 1, 1) := by decide +kernel
theorem dX10_readsStatement_239 : decode cX10_readsStatement 239 = .ok (.iadd, 1) := by decide +kernel
theorem dX10_readsStatement_240 : decode cX10_readsStatement 240 = .ok (.putfield 108, 3) := by decide +kernel
theorem dX10_readsStatement_243 : decode cX10_readsStatement 243 = .ok (.iconst 1, 1) := by decide +kernel
theorem dX10_readsStatement_244 : decode cX10_readsStatement 244 = .ok (.ireturn, 1) := by decide +kernel
theorem dX10_adds_0 : decode cX10_adds 0 = .ok (.aload_n 0, 1) := by decide +kernel
theorem dX10_adds_1 : decode cX10_adds 1 = .ok (.getfield 9, 3) := by decide +kernel
theorem dX10_adds_4 : decode cX10_adds 4 = .ok (.iconst 0, 1) := by decide +kernel
theorem dX10_adds_5 : decode cX10_adds 5 = .ok (.iaload, 1) := by decide +kernel
theorem dX10_adds_6 : decode cX10_adds 6 = .ok (.istore 5, 2) := by decide +kernel
theorem dX10_adds_8 : decode cX10_adds 8 = .ok (.aload_n 0, 1) := by decide +kernel
theorem dX10_adds_9 : decode cX10_adds 9 = .ok (.getfield 9, 3) := by decide +kernel
theorem dX10_adds_12 : decode cX10_adds 12 = .ok (.iload 5, 2) := by decide +kernel
theorem dX10_adds_14 : decode cX10_adds 14 = .ok (.iconst 0, 1) := by decide +kernel
theorem dX10_adds_15 : decode cX10_adds 15 = .ok (.invokestatic 57, 3) := by decide +kernel
theorem dX10_adds_18 : decode cX10_adds 18 = .ok (.iload_n 1, 1) := by decide +kernel
theorem dX10_adds_19 : decode cX10_adds 19 = .ok (.iastore, 1) := by decide +kernel
theorem dX10_adds_20 : decode cX10_adds 20 = .ok (.aload_n 0, 1) := by decide +kernel
theorem dX10_adds_21 : decode cX10_adds 21 = .ok (.getfield 9, 3) := by decide +kernel
theorem dX10_adds_24 : decode cX10_adds 24 = .ok (.iload 5, 2) := by decide +kernel
theorem dX10_adds_26 : decode cX10_adds 26 = .ok (.iconst 1, 1) := by decide +kernel
theorem dX10_adds_27 : decode cX10_adds 27 = .ok (.invokestatic 57, 3) := by decide +kernel
theorem dX10_adds_30 : decode cX10_adds 30 = .ok (.iload_n 2, 1) := by decide +kernel
theorem dX10_adds_31 : decode cX10_adds 31 = .ok (.iastore, 1) := by decide +kernel
theorem dX10_adds_32 : decode cX10_adds 32 = .ok (.aload_n 0, 1) := by decide +kernel
theorem dX10_adds_33 : decode cX10_adds 33 = .ok (.getfield 9, 3) := by decide +kernel
theorem dX10_adds_36 : decode cX10_adds 36 = .ok (.iload 5, 2) := by decide +kernel
theorem dX10_adds_38 : decode cX10_adds 38 = .ok (.iconst 2, 1) := by decide +kernel
theorem dX10_adds_39 : decode cX10_adds 39 = .ok (.invokestatic 57, 3) := by decide +kernel
theorem dX10_adds_42 : decode cX10_adds 42 = .ok (.iload_n 3, 1) := by decide +kernel
theorem dX10_adds_43 : decode cX10_adds 43 = .ok (.iastore, 1) := by decide +kernel
theorem dX10_adds_44 : decode cX10_adds 44 = .ok (.aload_n 0, 1) := by decide +kernel
theorem dX10_adds_45 : decode cX10_adds 45 = .ok (.getfield 9, 3) := by decide +kernel
theorem dX10_adds_48 : decode cX10_adds 48 = .ok (.iload 5, 2) := by decide +kernel
theorem dX10_adds_50 : decode cX10_adds 50 = .ok (.iconst 3, 1) := by decide +kernel
theorem dX10_adds_51 : decode cX10_adds 51 = .ok (.invokestatic 57, 3) := by decide +kernel
theorem dX10_adds_54 : decode cX10_adds 54 = .ok (.iload 4, 2) := by decide +kernel
theorem dX10_adds_56 : decode cX10_adds 56 = .ok (.iastore, 1) := by decide +kernel
theorem dX10_adds_57 : decode cX10_adds 57 = .ok (.aload_n 0, 1) := by decide +kernel
theorem dX10_adds_58 : decode cX10_adds 58 = .ok (.getfield 9, 3) := by decide +kernel
theorem dX10_adds_61 : decode cX10_adds 61 = .ok (.iload 5, 2) := by decide +kernel
theorem dX10_adds_63 : decode cX10_adds 63 = .ok (.iconst 4, 1) := by decide +kernel
theorem dX10_adds_64 : decode cX10_adds 64 = .ok (.invokestatic 57, 3) := by decide +kernel
theorem dX10_adds_67 : decode cX10_adds 67 = .ok (.iconst 0, 1) := by decide +kernel
theorem dX10_adds_68 : decode cX10_adds 68 = .ok (.iastore, 1) := by decide +kernel
theorem dX10_adds_69 : decode cX10_adds 69 = .ok (.aload_n 0, 1) := by decide +kernel
theorem dX10_adds_70 : decode cX10_adds 70 = .ok (.getfield 9, 3) := by decide +kernel
theorem dX10_adds_73 : decode cX10_adds 73 = .ok (.iconst 0, 1) := by decide +kernel
theorem dX10_adds_74 : decode cX10_adds 74 = .ok (.dup2, 1) := by decide +kernel
theorem dX10_adds_75 : decode cX10_adds 75 = .ok (.iaload, 1) := by decide +kernel
theorem dX10_adds_76 : decode cX10_adds 76 = .ok (.iconst 1, 1) := by decide +kernel
theorem dX10_adds_77 : decode cX10_adds 77 = .ok (.iadd, 1) := by decide +kernel
theorem dX10_adds_78 : decode cX10_adds 78 = .ok (.iastore, 1) := by decide +kernel
theorem dX10_adds_79 : decode cX10_adds 79 = .ok (.return_, 1) := by decide +kernel
theorem dX10_yearsOn_0 : decode cX10_yearsOn 0 = .ok (.iconst 0, 1) := by decide +kernel
theorem dX10_yearsOn_1 : decode cX10_yearsOn 1 = .ok (.istore_n 2, 1) := by decide +kernel
theorem dX10_yearsOn_2 : decode cX10_yearsOn 2 = .ok (.iload_n 2, 1) := by decide +kernel
theorem dX10_yearsOn_3 : decode cX10_yearsOn 3 = .ok (.iload_n 1, 1) := by decide +kernel
theorem dX10_yearsOn_4 : decode cX10_yearsOn 4 = .ok (.if_icmp .ge 16, 3) := by decide +kernel
theorem dX10_yearsOn_7 : decode cX10_yearsOn 7 = .ok (.aload_n 0, 1) := by decide +kernel
theorem dX10_yearsOn_8 : decode cX10_yearsOn 8 = .ok (.getfield 9, 3) := by decide +kernel
theorem dX10_yearsOn_11 : decode cX10_yearsOn 11 = .ok (.invokestatic 126, 3) := by decide +kernel
theorem dX10_yearsOn_14 : decode cX10_yearsOn 14 = .ok (.iinc 2 1, 3) := by decide +kernel
theorem dX10_yearsOn_17 : decode cX10_yearsOn 17 = .ok (.goto (-15), 3) := by decide +kernel
theorem dX10_yearsOn_20 : decode cX10_yearsOn 20 = .ok (.aload_n 0, 1) := by decide +kernel
theorem dX10_yearsOn_21 : decode cX10_yearsOn 21 = .ok (.getfield 9, 3) := by decide +kernel
theorem dX10_yearsOn_24 : decode cX10_yearsOn 24 = .ok (.iconst 2, 1) := by decide +kernel
theorem dX10_yearsOn_25 : decode cX10_yearsOn 25 = .ok (.dup2, 1) := by decide +kernel
theorem dX10_yearsOn_26 : decode cX10_yearsOn 26 = .ok (.iaload, 1) := by decide +kernel
theorem dX10_yearsOn_27 : decode cX10_yearsOn 27 = .ok (.iload_n 1, 1) := by decide +kernel
theorem dX10_yearsOn_28 : decode cX10_yearsOn 28 = .ok (.iadd, 1) := by decide +kernel
theorem dX10_yearsOn_29 : decode cX10_yearsOn 29 = .ok (.iastore, 1) := by decide +kernel
theorem dX10_yearsOn_30 : decode cX10_yearsOn 30 = .ok (.return_, 1) := by decide +kernel
theorem dX10_isDone_0 : decode cX10_isDone 0 = .ok (.aload_n 0, 1) := by decide +kernel
theorem dX10_isDone_1 : decode cX10_isDone 1 = .ok (.getfield 22, 3) := by decide +kernel
theorem dX10_isDone_4 : decode cX10_isDone 4 = .ok (.iconst 0, 1) := by decide +kernel
theorem dX10_isDone_5 : decode cX10_isDone 5 = .ok (.iaload, 1) := by decide +kernel
theorem dX10_isDone_6 : decode cX10_isDone 6 = .ok (.istore_n 2, 1) := by decide +kernel
theorem dX10_isDone_7 : decode cX10_isDone 7 = .ok (.aload_n 0, 1) := by decide +kernel
theorem dX10_isDone_8 : decode cX10_isDone 8 = .ok (.getfield 22, 3) := by decide +kernel
theorem dX10_isDone_11 : decode cX10_isDone 11 = .ok (.iconst 1, 1) := by decide +kernel
theorem dX10_isDone_12 : decode cX10_isDone 12 = .ok (.iaload, 1) := by decide +kernel
theorem dX10_isDone_13 : decode cX10_isDone 13 = .ok (.istore_n 3, 1) := by decide +kernel
theorem dX10_isDone_14 : decode cX10_isDone 14 = .ok (.iload_n 1, 1) := by decide +kernel
theorem dX10_isDone_15 : decode cX10_isDone 15 = .ok (.tableswitch 257 104 121 #[200, 257, 257, 257, 257, 257, 148, 257, 257, 257, 212, 174, 257, 257, 257, 85, 257, 230], 85) := by decide +kernel
theorem dX10_isDone_100 : decode cX10_isDone 100 = .ok (.iload_n 2, 1) := by decide +kernel
theorem dX10_isDone_101 : decode cX10_isDone 101 = .ok (.bipush 8, 2) := by decide +kernel
theorem dX10_isDone_103 : decode cX10_isDone 103 = .ok (.if_icmp .ge 38, 3) := by decide +kernel
theorem dX10_isDone_106 : decode cX10_isDone 106 = .ok (.aload_n 0, 1) := by decide +kernel
theorem dX10_isDone_107 : decode cX10_isDone 107 = .ok (.getfield 22, 3) := by decide +kernel
theorem dX10_isDone_110 : decode cX10_isDone 110 = .ok (.iconst 2, 1) := by decide +kernel
theorem dX10_isDone_111 : decode cX10_isDone 111 = .ok (.iaload, 1) := by decide +kernel
theorem dX10_isDone_112 : decode cX10_isDone 112 = .ok (.invokestatic 130, 3) := by decide +kernel
theorem dX10_isDone_115 : decode cX10_isDone 115 = .ok (.ifCond .eq 26, 3) := by decide +kernel
theorem dX10_isDone_118 : decode cX10_isDone 118 = .ok (.aload_n 0, 1) := by decide +kernel
theorem dX10_isDone_119 : decode cX10_isDone 119 = .ok (.getfield 22, 3) := by decide +kernel
theorem dX10_isDone_122 : decode cX10_isDone 122 = .ok (.iconst 3, 1) := by decide +kernel
theorem dX10_isDone_123 : decode cX10_isDone 123 = .ok (.iaload, 1) := by decide +kernel
theorem dX10_isDone_124 : decode cX10_isDone 124 = .ok (.invokestatic 134, 3) := by decide +kernel
theorem dX10_isDone_127 : decode cX10_isDone 127 = .ok (.ifCond .eq 14, 3) := by decide +kernel
theorem dX10_isDone_130 : decode cX10_isDone 130 = .ok (.aload_n 0, 1) := by decide +kernel
theorem dX10_isDone_131 : decode cX10_isDone 131 = .ok (.getfield 9, 3) := by decide +kernel
theorem dX10_isDone_134 : decode cX10_isDone 134 = .ok (.iconst 0, 1) := by decide +kernel
theorem dX10_isDone_135 : decode cX10_isDone 135 = .ok (.iaload, 1) := by decide +kernel
theorem dX10_isDone_136 : decode cX10_isDone 136 = .ok (.bipush 8, 2) := by decide +kernel
theorem dX10_isDone_138 : decode cX10_isDone 138 = .ok (.if_icmp .ne 5, 3) := by decide +kernel
theorem dX10_isDone_141 : decode cX10_isDone 141 = .ok (.iconst 0, 1) := by decide +kernel
theorem dX10_isDone_142 : decode cX10_isDone 142 = .ok (.ireturn, 1) := by decide +kernel
theorem dX10_isDone_143 : decode cX10_isDone 143 = .ok (.aload_n 0, 1) := by decide +kernel
theorem dX10_isDone_144 : decode cX10_isDone 144 = .ok (.iload_n 2, 1) := by decide +kernel
theorem dX10_isDone_145 : decode cX10_isDone 145 = .ok (.iload_n 3, 1) := by decide +kernel
theorem dX10_isDone_146 : decode cX10_isDone 146 = .ok (.aload_n 0, 1) := by decide +kernel
theorem dX10_isDone_147 : decode cX10_isDone 147 = .ok (.getfield 22, 3) := by decide +kernel
theorem dX10_isDone_150 : decode cX10_isDone 150 = .ok (.iconst 2, 1) := by decide +kernel
theorem dX10_isDone_151 : decode cX10_isDone 151 = .ok (.iaload, 1) := by decide +kernel
theorem dX10_isDone_152 : decode cX10_isDone 152 = .ok (.aload_n 0, 1) := by decide +kernel
theorem dX10_isDone_153 : decode cX10_isDone 153 = .ok (.getfield 22, 3) := by decide +kernel
theorem dX10_isDone_156 : decode cX10_isDone 156 = .ok (.iconst 3, 1) := by decide +kernel
theorem dX10_isDone_157 : decode cX10_isDone 157 = .ok (.iaload, 1) := by decide +kernel
theorem dX10_isDone_158 : decode cX10_isDone 158 = .ok (.invokevirtual 137, 3) := by decide +kernel
theorem dX10_isDone_161 : decode cX10_isDone 161 = .ok (.iconst 1, 1) := by decide +kernel
theorem dX10_isDone_162 : decode cX10_isDone 162 = .ok (.ireturn, 1) := by decide +kernel
theorem dX10_isDone_163 : decode cX10_isDone 163 = .ok (.iload_n 2, 1) := by decide +kernel
theorem dX10_isDone_164 : decode cX10_isDone 164 = .ok (.invokestatic 130, 3) := by decide +kernel
theorem dX10_isDone_167 : decode cX10_isDone 167 = .ok (.ifCond .eq 9, 3) := by decide +kernel
theorem dX10_isDone_170 : decode cX10_isDone 170 = .ok (.iload_n 3, 1) := by decide +kernel
theorem dX10_isDone_171 : decode cX10_isDone 171 = .ok (.bipush 20, 2) := by decide +kernel
theorem dX10_isDone_173 : decode cX10_isDone 173 = .ok (.if_icmp .le 5, 3) := by decide +kernel
theorem dX10_isDone_176 : decode cX10_isDone 176 = .ok (.iconst 0, 1) := by decide +kernel
theorem dX10_isDone_177 : decode cX10_isDone 177 = .ok (.ireturn, 1) := by decide +kernel
theorem dX10_isDone_178 : decode cX10_isDone 178 = .ok (.aload_n 0, 1) := by decide +kernel
theorem dX10_isDone_179 : decode cX10_isDone 179 = .ok (.getfield 9, 3) := by decide +kernel
theorem dX10_isDone_182 : decode cX10_isDone 182 = .ok (.iconst 5, 1) := by decide +kernel
theorem dX10_isDone_183 : decode cX10_isDone 183 = .ok (.iload_n 2, 1) := by decide +kernel
theorem dX10_isDone_184 : decode cX10_isDone 184 = .ok (.iadd, 1) := by decide +kernel
theorem dX10_isDone_185 : decode cX10_isDone 185 = .ok (.iload_n 3, 1) := by decide +kernel
theorem dX10_isDone_186 : decode cX10_isDone 186 = .ok (.iastore, 1) := by decide +kernel
theorem dX10_isDone_187 : decode cX10_isDone 187 = .ok (.iconst 1, 1) := by decide +kernel
theorem dX10_isDone_188 : decode cX10_isDone 188 = .ok (.ireturn, 1) := by decide +kernel
theorem dX10_isDone_189 : decode cX10_isDone 189 = .ok (.aload_n 0, 1) := by decide +kernel
theorem dX10_isDone_190 : decode cX10_isDone 190 = .ok (.iload_n 2, 1) := by decide +kernel
theorem dX10_isDone_191 : decode cX10_isDone 191 = .ok (.invokevirtual 141, 3) := by decide +kernel
theorem dX10_isDone_194 : decode cX10_isDone 194 = .ok (.ifCond .ne 5, 3) := by decide +kernel
theorem dX10_isDone_197 : decode cX10_isDone 197 = .ok (.iconst 0, 1) := by decide +kernel
theorem dX10_isDone_198 : decode cX10_isDone 198 = .ok (.ireturn, 1) := by decide +kernel
theorem dX10_isDone_199 : decode cX10_isDone 199 = .ok (.aload_n 0, 1) := by decide +kernel
theorem dX10_isDone_200 : decode cX10_isDone 200 = .ok (.getfield 9, 3) := by decide +kernel
theorem dX10_isDone_203 : decode cX10_isDone 203 = .ok (.iload_n 2, 1) := by decide +kernel
theorem dX10_isDone_204 : decode cX10_isDone 204 = .ok (.iconst 4, 1) := by decide +kernel
theorem dX10_isDone_205 : decode cX10_isDone 205 = .ok (.invokestatic 57, 3) := by decide +kernel
theorem dX10_isDone_208 : decode cX10_isDone 208 = .ok (.dup2, 1) := by decide +kernel
theorem dX10_isDone_209 : decode cX10_isDone 209 = .ok (.iaload, 1) := by decide +kernel
theorem dX10_isDone_210 : decode cX10_isDone 210 = .ok (.iconst 1, 1) := by decide +kernel
theorem dX10_isDone_211 : decode cX10_isDone 211 = .ok (.ixor, 1) := by decide +kernel
theorem dX10_isDone_212 : decode cX10_isDone 212 = .ok (.iastore, 1) := by decide +kernel
theorem dX10_isDone_213 : decode cX10_isDone 213 = .ok (.iconst 1, 1) := by decide +kernel
theorem dX10_isDone_214 : decode cX10_isDone 214 = .ok (.ireturn, 1) := by decide +kernel
theorem dX10_isDone_215 : decode cX10_isDone 215 = .ok (.aload_n 0, 1) := by decide +kernel
theorem dX10_isDone_216 : decode cX10_isDone 216 = .ok (.getfield 9, 3) := by decide +kernel
theorem dX10_isDone_219 : decode cX10_isDone 219 = .ok (.iconst 1, 1) := by decide +kernel
theorem dX10_isDone_220 : decode cX10_isDone 220 = .ok (.iload_n 2, 1) := by decide +kernel
theorem dX10_isDone_221 : decode cX10_isDone 221 = .ok (.iastore, 1) := by decide +kernel
theorem dX10_isDone_222 : decode cX10_isDone 222 = .ok (.iload_n 2, 1) := by decide +kernel
theorem dX10_isDone_223 : decode cX10_isDone 223 = .ok (.invokestatic 134, 3) := by decide +kernel
theorem dX10_isDone_226 : decode cX10_isDone 226 = .ok (.ireturn, 1) := by decide +kernel
theorem dX10_isDone_227 : decode cX10_isDone 227 = .ok (.aload_n 0, 1) := by decide +kernel
theorem dX10_isDone_228 : decode cX10_isDone 228 = .ok (.getfield 9, 3) := by decide +kernel
theorem dX10_isDone_231 : decode cX10_isDone 231 = .ok (.iconst 4, 1) := by decide +kernel
theorem dX10_isDone_232 : decode cX10_isDone 232 = .ok (.iload_n 2, 1) := by decide +kernel
theorem dX10_isDone_233 : decode cX10_isDone 233 = .ok (.iastore, 1) := by decide +kernel
theorem dX10_isDone_234 : decode cX10_isDone 234 = .ok (.iload_n 2, 1) := by decide +kernel
theorem dX10_isDone_235 : decode cX10_isDone 235 = .ok (.iconst 1, 1) := by decide +kernel
theorem dX10_isDone_236 : decode cX10_isDone 236 = .ok (.if_icmp .lt 7, 3) := by decide +kernel
theorem dX10_isDone_239 : decode cX10_isDone 239 = .ok (.iconst 1, 1) := by decide +kernel
theorem dX10_isDone_240 : decode cX10_isDone 240 = .ok (.goto 4, 3) := by decide +kernel
theorem dX10_isDone_243 : decode cX10_isDone 243 = .ok (.iconst 0, 1) := by decide +kernel
theorem dX10_isDone_244 : decode cX10_isDone 244 = .ok (.ireturn, 1) := by decide +kernel
theorem dX10_isDone_245 : decode cX10_isDone 245 = .ok (.iload_n 2, 1) := by decide +kernel
theorem dX10_isDone_246 : decode cX10_isDone 246 = .ok (.ifCond .eq 17, 3) := by decide +kernel
theorem dX10_isDone_249 : decode cX10_isDone 249 = .ok (.aload_n 0, 1) := by decide +kernel
theorem dX10_isDone_250 : decode cX10_isDone 250 = .ok (.getfield 9, 3) := by decide +kernel
theorem dX10_isDone_253 : decode cX10_isDone 253 = .ok (.iconst 2, 1) := by decide +kernel
theorem dX10_isDone_254 : decode cX10_isDone 254 = .ok (.iaload, 1) := by decide +kernel
theorem dX10_isDone_255 : decode cX10_isDone 255 = .ok (.iload_n 2, 1) := by decide +kernel
theorem dX10_isDone_256 : decode cX10_isDone 256 = .ok (.iadd, 1) := by decide +kernel
theorem dX10_isDone_257 : decode cX10_isDone 257 = .ok (.sipush 999, 3) := by decide +kernel
theorem dX10_isDone_260 : decode cX10_isDone 260 = .ok (.if_icmp .le 5, 3) := by decide +kernel
theorem dX10_isDone_263 : decode cX10_isDone 263 = .ok (.iconst 0, 1) := by decide +kernel
theorem dX10_isDone_264 : decode cX10_isDone 264 = .ok (.ireturn, 1) := by decide +kernel
theorem dX10_isDone_265 : decode cX10_isDone 265 = .ok (.aload_n 0, 1) := by decide +kernel
theorem dX10_isDone_266 : decode cX10_isDone 266 = .ok (.iload_n 2, 1) := by decide +kernel
theorem dX10_isDone_267 : decode cX10_isDone 267 = .ok (.invokevirtual 144, 3) := by decide +kernel
theorem dX10_isDone_270 : decode cX10_isDone 270 = .ok (.iconst 1, 1) := by decide +kernel
theorem dX10_isDone_271 : decode cX10_isDone 271 = .ok (.ireturn, 1) := by decide +kernel
theorem dX10_isDone_272 : decode cX10_isDone 272 = .ok (.iload_n 2, 1) := by decide +kernel
theorem dX10_isDone_273 : decode cX10_isDone 273 = .ok (.aload_n 0, 1) := by decide +kernel
theorem dX10_isDone_274 : decode cX10_isDone 274 = .ok (.getfield 9, 3) := by decide +kernel
theorem dX10_isDone_277 : decode cX10_isDone 277 = .ok (.iconst 3, 1) := by decide +kernel
theorem dX10_isDone_278 : decode cX10_isDone 278 = .ok (.iaload, 1) := by decide +kernel
theorem dX10_isDone_279 : decode cX10_isDone 279 = .ok (.if_icmp .le 5, 3) := by decide +kernel
theorem dX10_isDone_282 : decode cX10_isDone 282 = .ok (.iconst 0, 1) := by decide +kernel
theorem dX10_isDone_283 : decode cX10_isDone 283 = .ok (.ireturn, 1) := by decide +kernel
theorem dX10_isDone_284 : decode cX10_isDone 284 = .ok (.aload_n 0, 1) := by decide +kernel
theorem dX10_isDone_285 : decode cX10_isDone 285 = .ok (.getfield 9, 3) := by decide +kernel
theorem dX10_isDone_288 : decode cX10_isDone 288 = .ok (.iconst 3, 1) := by decide +kernel
theorem dX10_isDone_289 : decode cX10_isDone 289 = .ok (.dup2, 1) := by decide +kernel
theorem dX10_isDone_290 : decode cX10_isDone 290 = .ok (.iaload, 1) := by decide +kernel
theorem dX10_isDone_291 : decode cX10_isDone 291 = .ok (.iload_n 2, 1) := by decide +kernel
theorem dX10_isDone_292 : decode cX10_isDone 292 = .ok (.isub, 1) := by decide +kernel
theorem dX10_isDone_293 : decode cX10_isDone 293 = .ok (.iastore, 1) := by decide +kernel
theorem dX10_isDone_294 : decode cX10_isDone 294 = .ok (.iconst 1, 1) := by decide +kernel
theorem dX10_isDone_295 : decode cX10_isDone 295 = .ok (.ireturn, 1) := by decide +kernel
theorem dX10_house_0 : decode cX10_house 0 = .ok (.aload_n 0, 1) := by decide +kernel
theorem dX10_house_1 : decode cX10_house 1 = .ok (.iload_n 1, 1) := by decide +kernel
theorem dX10_house_2 : decode cX10_house 2 = .ok (.iconst 0, 1) := by decide +kernel
theorem dX10_house_3 : decode cX10_house 3 = .ok (.invokevirtual 148, 3) := by decide +kernel
theorem dX10_house_6 : decode cX10_house 6 = .ok (.istore_n 2, 1) := by decide +kernel
theorem dX10_house_7 : decode cX10_house 7 = .ok (.iload_n 2, 1) := by decide +kernel
theorem dX10_house_8 : decode cX10_house 8 = .ok (.ifCond .eq 5, 3) := by decide +kernel
theorem dX10_house_11 : decode cX10_house 11 = .ok (.iload_n 2, 1) := by decide +kernel
theorem dX10_house_12 : decode cX10_house 12 = .ok (.ireturn, 1) := by decide +kernel
theorem dX10_house_13 : decode cX10_house 13 = .ok (.aload_n 0, 1) := by decide +kernel
theorem dX10_house_14 : decode cX10_house 14 = .ok (.bipush 100, 2) := by decide +kernel
theorem dX10_house_16 : decode cX10_house 16 = .ok (.iload_n 1, 1) := by decide +kernel
theorem dX10_house_17 : decode cX10_house 17 = .ok (.imul, 1) := by decide +kernel
theorem dX10_house_18 : decode cX10_house 18 = .ok (.putfield 115, 3) := by decide +kernel
theorem dX10_house_21 : decode cX10_house 21 = .ok (.aload_n 0, 1) := by decide +kernel
theorem dX10_house_22 : decode cX10_house 22 = .ok (.aload_n 0, 1) := by decide +kernel
theorem dX10_house_23 : decode cX10_house 23 = .ok (.getfield 40, 3) := by decide +kernel
theorem dX10_house_26 : decode cX10_house 26 = .ok (.iload_n 1, 1) := by decide +kernel
theorem dX10_house_27 : decode cX10_house 27 = .ok (.iaload, 1) := by decide +kernel
theorem dX10_house_28 : decode cX10_house 28 = .ok (.putfield 112, 3) := by decide +kernel
theorem dX10_house_31 : decode cX10_house 31 = .ok (.aload_n 0, 1) := by decide +kernel
theorem dX10_house_32 : decode cX10_house 32 = .ok (.iconst 0, 1) := by decide +kernel
theorem dX10_house_33 : decode cX10_house 33 = .ok (.putfield 108, 3) := by decide +kernel
theorem dX10_house_36 : decode cX10_house 36 = .ok (.iconst 0, 1) := by decide +kernel
theorem dX10_house_37 : decode cX10_house 37 = .ok (.istore_n 3, 1) := by decide +kernel
theorem dX10_house_38 : decode cX10_house 38 = .ok (.iconst 0, 1) := by decide +kernel
theorem dX10_house_39 : decode cX10_house 39 = .ok (.istore 4, 2) := by decide +kernel
theorem dX10_house_41 : decode cX10_house 41 = .ok (.aload_n 0, 1) := by decide +kernel
theorem dX10_house_42 : decode cX10_house 42 = .ok (.invokevirtual 151, 3) := by decide +kernel
theorem dX10_house_45 : decode cX10_house 45 = .ok (.ifCond .ne 13, 3) := by decide +kernel
theorem dX10_house_48 : decode cX10_house 48 = .ok (.sipush (-1000), 3) := by decide +kernel
theorem dX10_house_51 : decode cX10_house 51 = .ok (.aload_n 0, 1) := by decide +kernel
theorem dX10_house_52 : decode cX10_house 52 = .ok (.getfield 108, 3) := by decide +kernel
theorem dX10_house_55 : decode cX10_house 55 = .ok (.isub, 1) := by decide +kernel
theorem dX10_house_56 : decode cX10_house 56 = .ok (.istore 4, 2) := by decide +kernel
theorem dX10_house_58 : decode cX10_house 58 = .ok (.iinc 3 1, 3) := by decide +kernel
theorem dX10_house_61 : decode cX10_house 61 = .ok (.iload 4, 2) := by decide +kernel
theorem dX10_house_63 : decode cX10_house 63 = .ok (.ifCond .ne 14, 3) := by decide +kernel
theorem dX10_house_66 : decode cX10_house 66 = .ok (.aload_n 0, 1) := by decide +kernel
theorem dX10_house_67 : decode cX10_house 67 = .ok (.getfield 108, 3) := by decide +kernel
theorem dX10_house_70 : decode cX10_house 70 = .ok (.aload_n 0, 1) := by decide +kernel
theorem dX10_house_71 : decode cX10_house 71 = .ok (.getfield 112, 3) := by decide +kernel
theorem dX10_house_74 : decode cX10_house 74 = .ok (.if_icmp .lt (-33), 3) := by decide +kernel
theorem dX10_house_77 : decode cX10_house 77 = .ok (.aload_n 0, 1) := by decide +kernel
theorem dX10_house_78 : decode cX10_house 78 = .ok (.getfield 9, 3) := by decide +kernel
theorem dX10_house_81 : decode cX10_house 81 = .ok (.aload_n 0, 1) := by decide +kernel
theorem dX10_house_82 : decode cX10_house 82 = .ok (.getfield 19, 3) := by decide +kernel
theorem dX10_house_85 : decode cX10_house 85 = .ok (.invokestatic 155, 3) := by decide +kernel
theorem dX10_house_88 : decode cX10_house 88 = .ok (.aload_n 0, 1) := by decide +kernel
theorem dX10_house_89 : decode cX10_house 89 = .ok (.iconst 0, 1) := by decide +kernel
theorem dX10_house_90 : decode cX10_house 90 = .ok (.putfield 108, 3) := by decide +kernel
theorem dX10_house_93 : decode cX10_house 93 = .ok (.iload 4, 2) := by decide +kernel
theorem dX10_house_95 : decode cX10_house 95 = .ok (.ifCond .ne 66, 3) := by decide +kernel
theorem dX10_house_98 : decode cX10_house 98 = .ok (.aload_n 0, 1) := by decide +kernel
theorem dX10_house_99 : decode cX10_house 99 = .ok (.getfield 108, 3) := by decide +kernel
theorem dX10_house_102 : decode cX10_house 102 = .ok (.aload_n 0, 1) := by decide +kernel
theorem dX10_house_103 : decode cX10_house 103 = .ok (.getfield 112, 3) := by decide +kernel
theorem dX10_house_106 : decode cX10_house 106 = .ok (.if_icmp .ge 55, 3) := by decide +kernel
theorem dX10_house_109 : decode cX10_house 109 = .ok (.aload_n 0, 1) := by decide +kernel
theorem dX10_house_110 : decode cX10_house 110 = .ok (.getfield 108, 3) := by decide +kernel
theorem dX10_house_113 : decode cX10_house 113 = .ok (.istore 5, 2) := by decide +kernel
theorem dX10_house_115 : decode cX10_house 115 = .ok (.aload_n 0, 1) := by decide +kernel
theorem dX10_house_116 : decode cX10_house 116 = .ok (.invokevirtual 118, 3) := by decide +kernel
theorem dX10_house_119 : decode cX10_house 119 = .ok (.istore 6, 2) := by decide +kernel
theorem dX10_house_121 : decode cX10_house 121 = .ok (.aload_n 0, 1) := by decide +kernel
theorem dX10_house_122 : decode cX10_house 122 = .ok (.invokevirtual 151, 3) := by decide +kernel
theorem dX10_house_125 : decode cX10_house 125 = .ok (.istore 7, 2) := by decide +kernel
theorem dX10_house_127 : decode cX10_house 127 = .ok (.aload_n 0, 1) := by decide +kernel
theorem dX10_house_128 : decode cX10_house 128 = .ok (.iload 6, 2) := by decide +kernel
theorem dX10_house_130 : decode cX10_house 130 = .ok (.invokevirtual 159, 3) := by decide +kernel
theorem dX10_house_133 : decode cX10_house 133 = .ok (.ifCond .eq 6, 3) := by decide +kernel
theorem dX10_house_136 : decode cX10_house 136 = .ok (.goto (-43), 3) := by decide +kernel
theorem dX10_house_139 : decode cX10_house 139 = .ok (.sipush (-2000), 3) := by decide +kernel
theorem dX10_house_142 : decode cX10_house 142 = .ok (.iload 5, 2) := by decide +kernel
theorem dX10_house_144 : decode cX10_house 144 = .ok (.isub, 1) := by decide +kernel
theorem dX10_house_145 : decode cX10_house 145 = .ok (.istore 4, 2) := by decide +kernel
theorem dX10_house_147 : decode cX10_house 147 = .ok (.aload_n 0, 1) := by decide +kernel
theorem dX10_house_148 : decode cX10_house 148 = .ok (.getfield 19, 3) := by decide +kernel
theorem dX10_house_151 : decode cX10_house 151 = .ok (.aload_n 0, 1) := by decide +kernel
theorem dX10_house_152 : decode cX10_house 152 = .ok (.getfield 9, 3) := by decide +kernel
theorem dX10_house_155 : decode cX10_house 155 = .ok (.invokestatic 155, 3) := by decide +kernel
theorem dX10_house_158 : decode cX10_house 158 = .ok (.goto (-65), 3) := by decide +kernel
theorem dX10_house_161 : decode cX10_house 161 = .ok (.iload 4, 2) := by decide +kernel
theorem dX10_house_163 : decode cX10_house 163 = .ok (.ifCond .ne 7, 3) := by decide +kernel
theorem dX10_house_166 : decode cX10_house 166 = .ok (.iload_n 3, 1) := by decide +kernel
theorem dX10_house_167 : decode cX10_house 167 = .ok (.goto 5, 3) := by decide +kernel
theorem dX10_house_170 : decode cX10_house 170 = .ok (.iload 4, 2) := by decide +kernel
theorem dX10_house_172 : decode cX10_house 172 = .ok (.ireturn, 1) := by decide +kernel
theorem dX10_window_0 : decode cX10_window 0 = .ok (.aload_n 0, 1) := by decide +kernel
theorem dX10_window_1 : decode cX10_window 1 = .ok (.iload_n 1, 1) := by decide +kernel
theorem dX10_window_2 : decode cX10_window 2 = .ok (.invokevirtual 141, 3) := by decide +kernel
theorem dX10_window_5 : decode cX10_window 5 = .ok (.ifCond .eq 12, 3) := by decide +kernel
theorem dX10_window_8 : decode cX10_window 8 = .ok (.iload_n 2, 1) := by decide +kernel
theorem dX10_window_9 : decode cX10_window 9 = .ok (.iconst 0, 1) := by decide +kernel
theorem dX10_window_10 : decode cX10_window 10 = .ok (.iconst 5, 1) := by decide +kernel
theorem dX10_window_11 : decode cX10_window 11 = .ok (.invokestatic 46, 3) := by decide +kernel
theorem dX10_window_14 : decode cX10_window 14 = .ok (.ifCond .ne 5, 3) := by decide +kernel
theorem dX10_window_17 : decode cX10_window 17 = .ok (.iconst (-1), 1) := by decide +kernel
theorem dX10_window_18 : decode cX10_window 18 = .ok (.ireturn, 1) := by decide +kernel
theorem dX10_window_19 : decode cX10_window 19 = .ok (.iload_n 2, 1) := by decide +kernel
theorem dX10_window_20 : decode cX10_window 20 = .ok (.iconst 5, 1) := by decide +kernel
theorem dX10_window_21 : decode cX10_window 21 = .ok (.if_icmp .ge 16, 3) := by decide +kernel
theorem dX10_window_24 : decode cX10_window 24 = .ok (.aload_n 0, 1) := by decide +kernel
theorem dX10_window_25 : decode cX10_window 25 = .ok (.getfield 9, 3) := by decide +kernel
theorem dX10_window_28 : decode cX10_window 28 = .ok (.iload_n 1, 1) := by decide +kernel
theorem dX10_window_29 : decode cX10_window 29 = .ok (.iload_n 2, 1) := by decide +kernel
theorem dX10_window_30 : decode cX10_window 30 = .ok (.invokestatic 57, 3) := by decide +kernel
theorem dX10_window_33 : decode cX10_window 33 = .ok (.iaload, 1) := by decide +kernel
theorem dX10_window_34 : decode cX10_window 34 = .ok (.goto 26, 3) := by decide +kernel
theorem dX10_window_37 : decode cX10_window 37 = .ok (.aload_n 0, 1) := by decide +kernel
theorem dX10_window_38 : decode cX10_window 38 = .ok (.getfield 9, 3) := by decide +kernel
theorem dX10_window_41 : decode cX10_window 41 = .ok (.iload_n 1, 1) := by decide +kernel
theorem dX10_window_42 : decode cX10_window 42 = .ok (.iconst 0, 1) := by decide +kernel
theorem dX10_window_43 : decode cX10_window 43 = .ok (.invokestatic 57, 3) := by decide +kernel
theorem dX10_window_46 : decode cX10_window 46 = .ok (.iaload, 1) := by decide +kernel
theorem dX10_window_47 : decode cX10_window 47 = .ok (.aload_n 0, 1) := by decide +kernel
theorem dX10_window_48 : decode cX10_window 48 = .ok (.getfield 9, 3) := by decide +kernel
theorem dX10_window_51 : decode cX10_window 51 = .ok (.iload_n 1, 1) := by decide +kernel
theorem dX10_window_52 : decode cX10_window 52 = .ok (.iconst 1, 1) := by decide +kernel
theorem dX10_window_53 : decode cX10_window 53 = .ok (.invokestatic 57, 3) := by decide +kernel
theorem dX10_window_56 : decode cX10_window 56 = .ok (.iaload, 1) := by decide +kernel
theorem dX10_window_57 : decode cX10_window 57 = .ok (.invokestatic 92, 3) := by decide +kernel
theorem dX10_window_60 : decode cX10_window 60 = .ok (.ireturn, 1) := by decide +kernel
theorem dX10_at_0 : decode cX10_at 0 = .ok (.aload_n 0, 1) := by decide +kernel
theorem dX10_at_1 : decode cX10_at 1 = .ok (.iload_n 1, 1) := by decide +kernel
theorem dX10_at_2 : decode cX10_at 2 = .ok (.invokevirtual 141, 3) := by decide +kernel
theorem dX10_at_5 : decode cX10_at 5 = .ok (.ifCond .eq 19, 3) := by decide +kernel
theorem dX10_at_8 : decode cX10_at 8 = .ok (.iload_n 2, 1) := by decide +kernel
theorem dX10_at_9 : decode cX10_at 9 = .ok (.invokestatic 134, 3) := by decide +kernel
theorem dX10_at_12 : decode cX10_at 12 = .ok (.ifCond .eq 12, 3) := by decide +kernel
theorem dX10_at_15 : decode cX10_at 15 = .ok (.iload_n 3, 1) := by decide +kernel
theorem dX10_at_16 : decode cX10_at 16 = .ok (.iconst 0, 1) := by decide +kernel
theorem dX10_at_17 : decode cX10_at 17 = .ok (.iconst 2, 1) := by decide +kernel
theorem dX10_at_18 : decode cX10_at 18 = .ok (.invokestatic 46, 3) := by decide +kernel
theorem dX10_at_21 : decode cX10_at 21 = .ok (.ifCond .ne 5, 3) := by decide +kernel
theorem dX10_at_24 : decode cX10_at 24 = .ok (.iconst (-1), 1) := by decide +kernel
theorem dX10_at_25 : decode cX10_at 25 = .ok (.ireturn, 1) := by decide +kernel
theorem dX10_at_26 : decode cX10_at 26 = .ok (.iload_n 3, 1) := by decide +kernel
theorem dX10_at_27 : decode cX10_at 27 = .ok (.ifCond .ne 15, 3) := by decide +kernel
theorem dX10_at_30 : decode cX10_at 30 = .ok (.aload_n 0, 1) := by decide +kernel
theorem dX10_at_31 : decode cX10_at 31 = .ok (.getfield 9, 3) := by decide +kernel
theorem dX10_at_34 : decode cX10_at 34 = .ok (.iload_n 1, 1) := by decide +kernel
theorem dX10_at_35 : decode cX10_at 35 = .ok (.iload_n 2, 1) := by decide +kernel
theorem dX10_at_36 : decode cX10_at 36 = .ok (.invokestatic 83, 3) := by decide +kernel
theorem dX10_at_39 : decode cX10_at 39 = .ok (.goto 37, 3) := by decide +kernel
theorem dX10_at_42 : decode cX10_at 42 = .ok (.iload_n 3, 1) := by decide +kernel
theorem dX10_at_43 : decode cX10_at 43 = .ok (.iconst 2, 1) := by decide +kernel
theorem dX10_at_44 : decode cX10_at 44 = .ok (.if_icmp .ne 15, 3) := by decide +kernel
theorem dX10_at_47 : decode cX10_at 47 = .ok (.aload_n 0, 1) := by decide +kernel
theorem dX10_at_48 : decode cX10_at 48 = .ok (.getfield 9, 3) := by decide +kernel
theorem dX10_at_51 : decode cX10_at 51 = .ok (.iload_n 1, 1) := by decide +kernel
theorem dX10_at_52 : decode cX10_at 52 = .ok (.iload_n 2, 1) := by decide +kernel
theorem dX10_at_53 : decode cX10_at 53 = .ok (.invokestatic 162, 3) := by decide +kernel
theorem dX10_at_56 : decode cX10_at 56 = .ok (.goto 20, 3) := by decide +kernel
theorem dX10_at_59 : decode cX10_at 59 = .ok (.aload_n 0, 1) := by decide +kernel
theorem dX10_at_60 : decode cX10_at 60 = .ok (.getfield 9, 3) := by decide +kernel
theorem dX10_at_63 : decode cX10_at 63 = .ok (.iload_n 1, 1) := by decide +kernel
theorem dX10_at_64 : decode cX10_at 64 = .ok (.iload_n 2, 1) := by decide +kernel
theorem dX10_at_65 : decode cX10_at 65 = .ok (.invokestatic 95, 3) := by decide +kernel
theorem dX10_at_68 : decode cX10_at 68 = .ok (.ifCond .eq 7, 3) := by decide +kernel
theorem dX10_at_71 : decode cX10_at 71 = .ok (.iconst 1, 1) := by decide +kernel
theorem dX10_at_72 : decode cX10_at 72 = .ok (.goto 4, 3) := by decide +kernel
theorem dX10_at_75 : decode cX10_at 75 = .ok (.iconst 0, 1) := by decide +kernel
theorem dX10_at_76 : decode cX10_at 76 = .ok (.ireturn, 1) := by decide +kernel
theorem dX10_builds_0 : decode cX10_builds 0 = .ok (.iload_n 2, 1) := by decide +kernel
theorem dX10_builds_1 : decode cX10_builds 1 = .ok (.invokestatic 130, 3) := by decide +kernel
theorem dX10_builds_4 : decode cX10_builds 4 = .ok (.ifCond .eq 10, 3) := by decide +kernel
theorem dX10_builds_7 : decode cX10_builds 7 = .ok (.iload_n 3, 1) := by decide +kernel
theorem dX10_builds_8 : decode cX10_builds 8 = .ok (.invokestatic 134, 3) := by decide +kernel
theorem dX10_builds_11 : decode cX10_builds 11 = .ok (.ifCond .ne 5, 3) := by decide +kernel
theorem dX10_builds_14 : decode cX10_builds 14 = .ok (.iconst (-1), 1) := by decide +kernel
theorem dX10_builds_15 : decode cX10_builds 15 = .ok (.ireturn, 1) := by decide +kernel
theorem dX10_builds_16 : decode cX10_builds 16 = .ok (.aload_n 0, 1) := by decide +kernel
theorem dX10_builds_17 : decode cX10_builds 17 = .ok (.iload_n 1, 1) := by decide +kernel
theorem dX10_builds_18 : decode cX10_builds 18 = .ok (.invokevirtual 165, 3) := by decide +kernel
theorem dX10_builds_21 : decode cX10_builds 21 = .ok (.istore 4, 2) := by decide +kernel
theorem dX10_builds_23 : decode cX10_builds 23 = .ok (.iload 4, 2) := by decide +kernel
theorem dX10_builds_25 : decode cX10_builds 25 = .ok (.ifCond .eq 6, 3) := by decide +kernel
theorem dX10_builds_28 : decode cX10_builds 28 = .ok (.iload 4, 2) := by decide +kernel
theorem dX10_builds_30 : decode cX10_builds 30 = .ok (.ireturn, 1) := by decide +kernel
theorem dX10_builds_31 : decode cX10_builds 31 = .ok (.aload_n 0, 1) := by decide +kernel
theorem dX10_builds_32 : decode cX10_builds 32 = .ok (.getfield 9, 3) := by decide +kernel
theorem dX10_builds_35 : decode cX10_builds 35 = .ok (.iconst 0, 1) := by decide +kernel
theorem dX10_builds_36 : decode cX10_builds 36 = .ok (.iaload, 1) := by decide +kernel
theorem dX10_builds_37 : decode cX10_builds 37 = .ok (.bipush 8, 2) := by decide +kernel
theorem dX10_builds_39 : decode cX10_builds 39 = .ok (.if_icmp .ne 6, 3) := by decide +kernel
theorem dX10_builds_42 : decode cX10_builds 42 = .ok (.bipush (-2), 2) := by decide +kernel
theorem dX10_builds_44 : decode cX10_builds 44 = .ok (.ireturn, 1) := by decide +kernel
theorem dX10_builds_45 : decode cX10_builds 45 = .ok (.aload_n 0, 1) := by decide +kernel
theorem dX10_builds_46 : decode cX10_builds 46 = .ok (.aload_n 0, 1) := by decide +kernel
theorem dX10_builds_47 : decode cX10_builds 47 = .ok (.getfield 31, 3) := by decide +kernel
theorem dX10_builds_50 : decode cX10_builds 50 = .ok (.iload_n 1, 1) := by decide +kernel
theorem dX10_builds_51 : decode cX10_builds 51 = .ok (.iaload, 1) := by decide +kernel
theorem dX10_builds_52 : decode cX10_builds 52 = .ok (.aload_n 0, 1) := by decide +kernel
theorem dX10_builds_53 : decode cX10_builds 53 = .ok (.getfield 34, 3) := by decide +kernel
theorem dX10_builds_56 : decode cX10_builds 56 = .ok (.iload_n 1, 1) := by decide +kernel
theorem dX10_builds_57 : decode cX10_builds 57 = .ok (.iaload, 1) := by decide +kernel
theorem dX10_builds_58 : decode cX10_builds 58 = .ok (.iload_n 2, 1) := by decide +kernel
theorem dX10_builds_59 : decode cX10_builds 59 = .ok (.iload_n 3, 1) := by decide +kernel
theorem dX10_builds_60 : decode cX10_builds 60 = .ok (.invokevirtual 137, 3) := by decide +kernel
theorem dX10_builds_63 : decode cX10_builds 63 = .ok (.aload_n 0, 1) := by decide +kernel
theorem dX10_builds_64 : decode cX10_builds 64 = .ok (.getfield 9, 3) := by decide +kernel
theorem dX10_builds_67 : decode cX10_builds 67 = .ok (.iconst 0, 1) := by decide +kernel
theorem dX10_builds_68 : decode cX10_builds 68 = .ok (.iaload, 1) := by decide +kernel
theorem dX10_builds_69 : decode cX10_builds 69 = .ok (.iconst 1, 1) := by decide +kernel
theorem dX10_builds_70 : decode cX10_builds 70 = .ok (.isub, 1) := by decide +kernel
theorem dX10_builds_71 : decode cX10_builds 71 = .ok (.ireturn, 1) := by decide +kernel
theorem dX10_stops_0 : decode cX10_stops 0 = .ok (.aload_n 0, 1) := by decide +kernel
theorem dX10_stops_1 : decode cX10_stops 1 = .ok (.iload_n 1, 1) := by decide +kernel
theorem dX10_stops_2 : decode cX10_stops 2 = .ok (.invokevirtual 141, 3) := by decide +kernel
theorem dX10_stops_5 : decode cX10_stops 5 = .ok (.ifCond .ne 5, 3) := by decide +kernel
theorem dX10_stops_8 : decode cX10_stops 8 = .ok (.iconst (-1), 1) := by decide +kernel
theorem dX10_stops_9 : decode cX10_stops 9 = .ok (.ireturn, 1) := by decide +kernel
theorem dX10_stops_10 : decode cX10_stops 10 = .ok (.aload_n 0, 1) := by decide +kernel
theorem dX10_stops_11 : decode cX10_stops 11 = .ok (.getfield 9, 3) := by decide +kernel
theorem dX10_stops_14 : decode cX10_stops 14 = .ok (.iload_n 1, 1) := by decide +kernel
theorem dX10_stops_15 : decode cX10_stops 15 = .ok (.iconst 4, 1) := by decide +kernel
theorem dX10_stops_16 : decode cX10_stops 16 = .ok (.invokestatic 57, 3) := by decide +kernel
theorem dX10_stops_19 : decode cX10_stops 19 = .ok (.dup2, 1) := by decide +kernel
theorem dX10_stops_20 : decode cX10_stops 20 = .ok (.iaload, 1) := by decide +kernel
theorem dX10_stops_21 : decode cX10_stops 21 = .ok (.iconst 1, 1) := by decide +kernel
theorem dX10_stops_22 : decode cX10_stops 22 = .ok (.ixor, 1) := by decide +kernel
theorem dX10_stops_23 : decode cX10_stops 23 = .ok (.iastore, 1) := by decide +kernel
theorem dX10_stops_24 : decode cX10_stops 24 = .ok (.aload_n 0, 1) := by decide +kernel
theorem dX10_stops_25 : decode cX10_stops 25 = .ok (.getfield 9, 3) := by decide +kernel
theorem dX10_stops_28 : decode cX10_stops 28 = .ok (.iload_n 1, 1) := by decide +kernel
theorem dX10_stops_29 : decode cX10_stops 29 = .ok (.iconst 4, 1) := by decide +kernel
theorem dX10_stops_30 : decode cX10_stops 30 = .ok (.invokestatic 57, 3) := by decide +kernel
theorem dX10_stops_33 : decode cX10_stops 33 = .ok (.iaload, 1) := by decide +kernel
theorem dX10_stops_34 : decode cX10_stops 34 = .ok (.ireturn, 1) := by decide +kernel
theorem dX10_needs_0 : decode cX10_needs 0 = .ok (.iload_n 1, 1) := by decide +kernel
theorem dX10_needs_1 : decode cX10_needs 1 = .ok (.invokestatic 130, 3) := by decide +kernel
theorem dX10_needs_4 : decode cX10_needs 4 = .ok (.ifCond .eq 13, 3) := by decide +kernel
theorem dX10_needs_7 : decode cX10_needs 7 = .ok (.iload_n 2, 1) := by decide +kernel
theorem dX10_needs_8 : decode cX10_needs 8 = .ok (.iconst 0, 1) := by decide +kernel
theorem dX10_needs_9 : decode cX10_needs 9 = .ok (.bipush 20, 2) := by decide +kernel
theorem dX10_needs_11 : decode cX10_needs 11 = .ok (.invokestatic 46, 3) := by decide +kernel
theorem dX10_needs_14 : decode cX10_needs 14 = .ok (.ifCond .ne 5, 3) := by decide +kernel
theorem dX10_needs_17 : decode cX10_needs 17 = .ok (.iconst (-1), 1) := by decide +kernel
theorem dX10_needs_18 : decode cX10_needs 18 = .ok (.ireturn, 1) := by decide +kernel
theorem dX10_needs_19 : decode cX10_needs 19 = .ok (.aload_n 0, 1) := by decide +kernel
theorem dX10_needs_20 : decode cX10_needs 20 = .ok (.getfield 9, 3) := by decide +kernel
theorem dX10_needs_23 : decode cX10_needs 23 = .ok (.iconst 5, 1) := by decide +kernel
theorem dX10_needs_24 : decode cX10_needs 24 = .ok (.iload_n 1, 1) := by decide +kernel
theorem dX10_needs_25 : decode cX10_needs 25 = .ok (.iadd, 1) := by decide +kernel
theorem dX10_needs_26 : decode cX10_needs 26 = .ok (.iaload, 1) := by decide +kernel
theorem dX10_needs_27 : decode cX10_needs 27 = .ok (.istore_n 3, 1) := by decide +kernel
theorem dX10_needs_28 : decode cX10_needs 28 = .ok (.aload_n 0, 1) := by decide +kernel
theorem dX10_needs_29 : decode cX10_needs 29 = .ok (.getfield 9, 3) := by decide +kernel
theorem dX10_needs_32 : decode cX10_needs 32 = .ok (.iconst 5, 1) := by decide +kernel
theorem dX10_needs_33 : decode cX10_needs 33 = .ok (.iload_n 1, 1) := by decide +kernel
theorem dX10_needs_34 : decode cX10_needs 34 = .ok (.iadd, 1) := by decide +kernel
theorem dX10_needs_35 : decode cX10_needs 35 = .ok (.iload_n 2, 1) := by decide +kernel
theorem dX10_needs_36 : decode cX10_needs 36 = .ok (.iastore, 1) := by decide +kernel
theorem dX10_needs_37 : decode cX10_needs 37 = .ok (.iload_n 3, 1) := by decide +kernel
theorem dX10_needs_38 : decode cX10_needs 38 = .ok (.ireturn, 1) := by decide +kernel
theorem dX10_set_0 : decode cX10_set 0 = .ok (.iload_n 1, 1) := by decide +kernel
theorem dX10_set_1 : decode cX10_set 1 = .ok (.iconst 0, 1) := by decide +kernel
theorem dX10_set_2 : decode cX10_set 2 = .ok (.iconst 1, 1) := by decide +kernel
theorem dX10_set_3 : decode cX10_set 3 = .ok (.invokestatic 46, 3) := by decide +kernel
theorem dX10_set_6 : decode cX10_set 6 = .ok (.ifCond .eq 27, 3) := by decide +kernel
theorem dX10_set_9 : decode cX10_set 9 = .ok (.iload_n 1, 1) := by decide +kernel
theorem dX10_set_10 : decode cX10_set 10 = .ok (.ifCond .ne 13, 3) := by decide +kernel
theorem dX10_set_13 : decode cX10_set 13 = .ok (.iload_n 2, 1) := by decide +kernel
theorem dX10_set_14 : decode cX10_set 14 = .ok (.invokestatic 134, 3) := by decide +kernel
theorem dX10_set_17 : decode cX10_set 17 = .ok (.ifCond .ne 18, 3) := by decide +kernel
theorem dX10_set_20 : decode cX10_set 20 = .ok (.goto 13, 3) := by decide +kernel
theorem dX10_set_23 : decode cX10_set 23 = .ok (.iload_n 2, 1) := by decide +kernel
theorem dX10_set_24 : decode cX10_set 24 = .ok (.iconst 1, 1) := by decide +kernel
theorem dX10_set_25 : decode cX10_set 25 = .ok (.bipush 9, 2) := by decide +kernel
theorem dX10_set_27 : decode cX10_set 27 = .ok (.invokestatic 46, 3) := by decide +kernel
theorem dX10_set_30 : decode cX10_set 30 = .ok (.ifCond .ne 5, 3) := by decide +kernel
theorem dX10_set_33 : decode cX10_set 33 = .ok (.iconst (-1), 1) := by decide +kernel
theorem dX10_set_34 : decode cX10_set 34 = .ok (.ireturn, 1) := by decide +kernel
theorem dX10_set_35 : decode cX10_set 35 = .ok (.iload_n 1, 1) := by decide +kernel
theorem dX10_set_36 : decode cX10_set 36 = .ok (.ifCond .ne 7, 3) := by decide +kernel
theorem dX10_set_39 : decode cX10_set 39 = .ok (.iconst 1, 1) := by decide +kernel
theorem dX10_set_40 : decode cX10_set 40 = .ok (.goto 4, 3) := by decide +kernel
theorem dX10_set_43 : decode cX10_set 43 = .ok (.iconst 4, 1) := by decide +kernel
theorem dX10_set_44 : decode cX10_set 44 = .ok (.istore_n 3, 1) := by decide +kernel
theorem dX10_set_45 : decode cX10_set 45 = .ok (.aload_n 0, 1) := by decide +kernel
theorem dX10_set_46 : decode cX10_set 46 = .ok (.getfield 9, 3) := by decide +kernel
theorem dX10_set_49 : decode cX10_set 49 = .ok (.iload_n 3, 1) := by decide +kernel
theorem dX10_set_50 : decode cX10_set 50 = .ok (.iaload, 1) := by decide +kernel
theorem dX10_set_51 : decode cX10_set 51 = .ok (.istore 4, 2) := by decide +kernel
theorem dX10_set_53 : decode cX10_set 53 = .ok (.aload_n 0, 1) := by decide +kernel
theorem dX10_set_54 : decode cX10_set 54 = .ok (.getfield 9, 3) := by decide +kernel
theorem dX10_set_57 : decode cX10_set 57 = .ok (.iload_n 3, 1) := by decide +kernel
theorem dX10_set_58 : decode cX10_set 58 = .ok (.iload_n 2, 1) := by decide +kernel
theorem dX10_set_59 : decode cX10_set 59 = .ok (.iastore, 1) := by decide +kernel
theorem dX10_set_60 : decode cX10_set 60 = .ok (.iload 4, 2) := by decide +kernel
theorem dX10_set_62 : decode cX10_set 62 = .ok (.ireturn, 1) := by decide +kernel
theorem dX10_years_0 : decode cX10_years 0 = .ok (.iload_n 1, 1) := by decide +kernel
theorem dX10_years_1 : decode cX10_years 1 = .ok (.iconst 1, 1) := by decide +kernel
theorem dX10_years_2 : decode cX10_years 2 = .ok (.bipush 99, 2) := by decide +kernel
theorem dX10_years_4 : decode cX10_years 4 = .ok (.invokestatic 46, 3) := by decide +kernel
theorem dX10_years_7 : decode cX10_years 7 = .ok (.ifCond .ne 5, 3) := by decide +kernel
theorem dX10_years_10 : decode cX10_years 10 = .ok (.iconst (-1), 1) := by decide +kernel
theorem dX10_years_11 : decode cX10_years 11 = .ok (.ireturn, 1) := by decide +kernel
theorem dX10_years_12 : decode cX10_years 12 = .ok (.aload_n 0, 1) := by decide +kernel
theorem dX10_years_13 : decode cX10_years 13 = .ok (.getfield 9, 3) := by decide +kernel
theorem dX10_years_16 : decode cX10_years 16 = .ok (.iconst 2, 1) := by decide +kernel
theorem dX10_years_17 : decode cX10_years 17 = .ok (.iaload, 1) := by decide +kernel
theorem dX10_years_18 : decode cX10_years 18 = .ok (.iload_n 1, 1) := by decide +kernel
theorem dX10_years_19 : decode cX10_years 19 = .ok (.iadd, 1) := by decide +kernel
theorem dX10_years_20 : decode cX10_years 20 = .ok (.sipush 999, 3) := by decide +kernel
theorem dX10_years_23 : decode cX10_years 23 = .ok (.if_icmp .le 6, 3) := by decide +kernel
theorem dX10_years_26 : decode cX10_years 26 = .ok (.bipush (-3), 2) := by decide +kernel
theorem dX10_years_28 : decode cX10_years 28 = .ok (.ireturn, 1) := by decide +kernel
theorem dX10_years_29 : decode cX10_years 29 = .ok (.aload_n 0, 1) := by decide +kernel
theorem dX10_years_30 : decode cX10_years 30 = .ok (.iload_n 1, 1) := by decide +kernel
theorem dX10_years_31 : decode cX10_years 31 = .ok (.invokevirtual 144, 3) := by decide +kernel
theorem dX10_years_34 : decode cX10_years 34 = .ok (.aload_n 0, 1) := by decide +kernel
theorem dX10_years_35 : decode cX10_years 35 = .ok (.getfield 9, 3) := by decide +kernel
theorem dX10_years_38 : decode cX10_years 38 = .ok (.iconst 3, 1) := by decide +kernel
theorem dX10_years_39 : decode cX10_years 39 = .ok (.iaload, 1) := by decide +kernel
theorem dX10_years_40 : decode cX10_years 40 = .ok (.ireturn, 1) := by decide +kernel
theorem dX10_pays_0 : decode cX10_pays 0 = .ok (.iload_n 1, 1) := by decide +kernel
theorem dX10_pays_1 : decode cX10_pays 1 = .ok (.iconst 0, 1) := by decide +kernel
theorem dX10_pays_2 : decode cX10_pays 2 = .ok (.sipush 999, 3) := by decide +kernel
theorem dX10_pays_5 : decode cX10_pays 5 = .ok (.invokestatic 46, 3) := by decide +kernel
theorem dX10_pays_8 : decode cX10_pays 8 = .ok (.ifCond .ne 5, 3) := by decide +kernel
theorem dX10_pays_11 : decode cX10_pays 11 = .ok (.iconst (-1), 1) := by decide +kernel
theorem dX10_pays_12 : decode cX10_pays 12 = .ok (.ireturn, 1) := by decide +kernel
theorem dX10_pays_13 : decode cX10_pays 13 = .ok (.iload_n 1, 1) := by decide +kernel
theorem dX10_pays_14 : decode cX10_pays 14 = .ok (.aload_n 0, 1) := by decide +kernel
theorem dX10_pays_15 : decode cX10_pays 15 = .ok (.getfield 9, 3) := by decide +kernel
theorem dX10_pays_18 : decode cX10_pays 18 = .ok (.iconst 3, 1) := by decide +kernel
theorem dX10_pays_19 : decode cX10_pays 19 = .ok (.iaload, 1) := by decide +kernel
theorem dX10_pays_20 : decode cX10_pays 20 = .ok (.if_icmp .le 6, 3) := by decide +kernel
theorem dX10_pays_23 : decode cX10_pays 23 = .ok (.bipush (-3), 2) := by decide +kernel
theorem dX10_pays_25 : decode cX10_pays 25 = .ok (.ireturn, 1) := by decide +kernel
theorem dX10_pays_26 : decode cX10_pays 26 = .ok (.aload_n 0, 1) := by decide +kernel
theorem dX10_pays_27 : decode cX10_pays 27 = .ok (.getfield 9, 3) := by decide +kernel
theorem dX10_pays_30 : decode cX10_pays 30 = .ok (.iconst 3, 1) := by decide +kernel
theorem dX10_pays_31 : decode cX10_pays 31 = .ok (.dup2, 1) := by decide +kernel
theorem dX10_pays_32 : decode cX10_pays 32 = .ok (.iaload, 1) := by decide +kernel
theorem dX10_pays_33 : decode cX10_pays 33 = .ok (.iload_n 1, 1) := by decide +kernel
theorem dX10_pays_34 : decode cX10_pays 34 = .ok (.isub, 1) := by decide +kernel
theorem dX10_pays_35 : decode cX10_pays 35 = .ok (.iastore, 1) := by decide +kernel
theorem dX10_pays_36 : decode cX10_pays 36 = .ok (.aload_n 0, 1) := by decide +kernel
theorem dX10_pays_37 : decode cX10_pays 37 = .ok (.getfield 9, 3) := by decide +kernel
theorem dX10_pays_40 : decode cX10_pays 40 = .ok (.iconst 3, 1) := by decide +kernel
theorem dX10_pays_41 : decode cX10_pays 41 = .ok (.iaload, 1) := by decide +kernel
theorem dX10_pays_42 : decode cX10_pays 42 = .ok (.ireturn, 1) := by decide +kernel
theorem dX10_light_0 : decode cX10_light 0 = .ok (.iload_n 1, 1) := by decide +kernel
theorem dX10_light_1 : decode cX10_light 1 = .ok (.invokestatic 130, 3) := by decide +kernel
theorem dX10_light_4 : decode cX10_light 4 = .ok (.ifCond .eq 22, 3) := by decide +kernel
theorem dX10_light_7 : decode cX10_light 7 = .ok (.iload_n 2, 1) := by decide +kernel
theorem dX10_light_8 : decode cX10_light 8 = .ok (.invokestatic 134, 3) := by decide +kernel
theorem dX10_light_11 : decode cX10_light 11 = .ok (.ifCond .eq 15, 3) := by decide +kernel
theorem dX10_light_14 : decode cX10_light 14 = .ok (.aload_n 0, 1) := by decide +kernel
theorem dX10_light_15 : decode cX10_light 15 = .ok (.getfield 9, 3) := by decide +kernel
theorem dX10_light_18 : decode cX10_light 18 = .ok (.iload_n 1, 1) := by decide +kernel
theorem dX10_light_19 : decode cX10_light 19 = .ok (.iload_n 2, 1) := by decide +kernel
theorem dX10_light_20 : decode cX10_light 20 = .ok (.invokestatic 86, 3) := by decide +kernel
theorem dX10_light_23 : decode cX10_light 23 = .ok (.goto 4, 3) := by decide +kernel
theorem dX10_light_26 : decode cX10_light 26 = .ok (.iconst (-1), 1) := by decide +kernel
theorem dX10_light_27 : decode cX10_light 27 = .ok (.ireturn, 1) := by decide +kernel
theorem dX10_allDue_0 : decode cX10_allDue 0 = .ok (.aload_n 0, 1) := by decide +kernel
theorem dX10_allDue_1 : decode cX10_allDue 1 = .ok (.getfield 9, 3) := by decide +kernel
theorem dX10_allDue_4 : decode cX10_allDue 4 = .ok (.invokestatic 100, 3) := by decide +kernel
theorem dX10_allDue_7 : decode cX10_allDue 7 = .ok (.ireturn, 1) := by decide +kernel
theorem dX10_stopsSet_0 : decode cX10_stopsSet 0 = .ok (.iconst 0, 1) := by decide +kernel
theorem dX10_stopsSet_1 : decode cX10_stopsSet 1 = .ok (.istore_n 2, 1) := by decide +kernel
theorem dX10_stopsSet_2 : decode cX10_stopsSet 2 = .ok (.iload_n 2, 1) := by decide +kernel
theorem dX10_stopsSet_3 : decode cX10_stopsSet 3 = .ok (.aload_n 0, 1) := by decide +kernel
theorem dX10_stopsSet_4 : decode cX10_stopsSet 4 = .ok (.iconst 0, 1) := by decide +kernel
theorem dX10_stopsSet_5 : decode cX10_stopsSet 5 = .ok (.iaload, 1) := by decide +kernel
theorem dX10_stopsSet_6 : decode cX10_stopsSet 6 = .ok (.if_icmp .ge 21, 3) := by decide +kernel
theorem dX10_stopsSet_9 : decode cX10_stopsSet 9 = .ok (.aload_n 0, 1) := by decide +kernel
theorem dX10_stopsSet_10 : decode cX10_stopsSet 10 = .ok (.iload_n 2, 1) := by decide +kernel
theorem dX10_stopsSet_11 : decode cX10_stopsSet 11 = .ok (.iconst 4, 1) := by decide +kernel
theorem dX10_stopsSet_12 : decode cX10_stopsSet 12 = .ok (.invokestatic 57, 3) := by decide +kernel
theorem dX10_stopsSet_15 : decode cX10_stopsSet 15 = .ok (.iload_n 1, 1) := by decide +kernel
theorem dX10_stopsSet_16 : decode cX10_stopsSet 16 = .ok (.iload_n 2, 1) := by decide +kernel
theorem dX10_stopsSet_17 : decode cX10_stopsSet 17 = .ok (.ishr, 1) := by decide +kernel
theorem dX10_stopsSet_18 : decode cX10_stopsSet 18 = .ok (.iconst 1, 1) := by decide +kernel
theorem dX10_stopsSet_19 : decode cX10_stopsSet 19 = .ok (.iand, 1) := by decide +kernel
theorem dX10_stopsSet_20 : decode cX10_stopsSet 20 = .ok (.iastore, 1) := by decide +kernel
theorem dX10_stopsSet_21 : decode cX10_stopsSet 21 = .ok (.iinc 2 1, 3) := by decide +kernel
theorem dX10_stopsSet_24 : decode cX10_stopsSet 24 = .ok (.goto (-22), 3) := by decide +kernel
theorem dX10_stopsSet_27 : decode cX10_stopsSet 27 = .ok (.return_, 1) := by decide +kernel
theorem dX10_stop_0 : decode cX10_stop 0 = .ok (.iload_n 1, 1) := by decide +kernel
theorem dX10_stop_1 : decode cX10_stop 1 = .ok (.iconst 0, 1) := by decide +kernel
theorem dX10_stop_2 : decode cX10_stop 2 = .ok (.iconst 1, 1) := by decide +kernel
theorem dX10_stop_3 : decode cX10_stop 3 = .ok (.invokestatic 46, 3) := by decide +kernel
theorem dX10_stop_6 : decode cX10_stop 6 = .ok (.ifCond .ne 5, 3) := by decide +kernel
theorem dX10_stop_9 : decode cX10_stop 9 = .ok (.iconst (-1), 1) := by decide +kernel
theorem dX10_stop_10 : decode cX10_stop 10 = .ok (.ireturn, 1) := by decide +kernel
theorem dX10_stop_11 : decode cX10_stop 11 = .ok (.bipush (-4), 2) := by decide +kernel
theorem dX10_stop_13 : decode cX10_stop 13 = .ok (.istore_n 2, 1) := by decide +kernel
theorem dX10_stop_14 : decode cX10_stop 14 = .ok (.ldc 169, 2) := by decide +kernel
theorem dX10_stop_16 : decode cX10_stop 16 = .ok (.istore_n 3, 1) := by decide +kernel
theorem dX10_stop_17 : decode cX10_stop 17 = .ok (.iconst 0, 1) := by decide +kernel
theorem dX10_stop_18 : decode cX10_stop 18 = .ok (.istore 4, 2) := by decide +kernel
theorem dX10_stop_20 : decode cX10_stop 20 = .ok (.iload 4, 2) := by decide +kernel
theorem dX10_stop_22 : decode cX10_stop 22 = .ok (.iconst 1, 1) := by decide +kernel
theorem dX10_stop_23 : decode cX10_stop 23 = .ok (.aload_n 0, 1) := by decide +kernel
theorem dX10_stop_24 : decode cX10_stop 24 = .ok (.getfield 9, 3) := by decide +kernel
theorem dX10_stop_27 : decode cX10_stop 27 = .ok (.iconst 0, 1) := by decide +kernel
theorem dX10_stop_28 : decode cX10_stop 28 = .ok (.iaload, 1) := by decide +kernel
theorem dX10_stop_29 : decode cX10_stop 29 = .ok (.ishl, 1) := by decide +kernel
theorem dX10_stop_30 : decode cX10_stop 30 = .ok (.if_icmp .ge 70, 3) := by decide +kernel
theorem dX10_stop_33 : decode cX10_stop 33 = .ok (.aload_n 0, 1) := by decide +kernel
theorem dX10_stop_34 : decode cX10_stop 34 = .ok (.getfield 9, 3) := by decide +kernel
theorem dX10_stop_37 : decode cX10_stop 37 = .ok (.aload_n 0, 1) := by decide +kernel
theorem dX10_stop_38 : decode cX10_stop 38 = .ok (.getfield 13, 3) := by decide +kernel
theorem dX10_stop_41 : decode cX10_stop 41 = .ok (.invokestatic 155, 3) := by decide +kernel
theorem dX10_stop_44 : decode cX10_stop 44 = .ok (.aload_n 0, 1) := by decide +kernel
theorem dX10_stop_45 : decode cX10_stop 45 = .ok (.getfield 13, 3) := by decide +kernel
theorem dX10_stop_48 : decode cX10_stop 48 = .ok (.iload 4, 2) := by decide +kernel
theorem dX10_stop_50 : decode cX10_stop 50 = .ok (.invokestatic 170, 3) := by decide +kernel
theorem dX10_stop_53 : decode cX10_stop 53 = .ok (.aload_n 0, 1) := by decide +kernel
theorem dX10_stop_54 : decode cX10_stop 54 = .ok (.getfield 13, 3) := by decide +kernel
theorem dX10_stop_57 : decode cX10_stop 57 = .ok (.aload_n 0, 1) := by decide +kernel
theorem dX10_stop_58 : decode cX10_stop 58 = .ok (.getfield 9, 3) := by decide +kernel
theorem dX10_stop_61 : decode cX10_stop 61 = .ok (.iconst 1, 1) := by decide +kernel
theorem dX10_stop_62 : decode cX10_stop 62 = .ok (.iaload, 1) := by decide +kernel
theorem dX10_stop_63 : decode cX10_stop 63 = .ok (.invokestatic 174, 3) := by decide +kernel
theorem dX10_stop_66 : decode cX10_stop 66 = .ok (.ifCond .ne 28, 3) := by decide +kernel
theorem dX10_stop_69 : decode cX10_stop 69 = .ok (.aload_n 0, 1) := by decide +kernel
theorem dX10_stop_70 : decode cX10_stop 70 = .ok (.getfield 13, 3) := by decide +kernel
theorem dX10_stop_73 : decode cX10_stop 73 = .ok (.invokestatic 100, 3) := by decide +kernel
theorem dX10_stop_76 : decode cX10_stop 76 = .ok (.iload_n 3, 1) := by decide +kernel
theorem dX10_stop_77 : decode cX10_stop 77 = .ok (.if_icmp .lt 6, 3) := by decide +kernel
theorem dX10_stop_80 : decode cX10_stop 80 = .ok (.goto 14, 3) := by decide +kernel
theorem dX10_stop_83 : decode cX10_stop 83 = .ok (.iload 4, 2) := by decide +kernel
theorem dX10_stop_85 : decode cX10_stop 85 = .ok (.istore_n 2, 1) := by decide +kernel
theorem dX10_stop_86 : decode cX10_stop 86 = .ok (.aload_n 0, 1) := by decide +kernel
theorem dX10_stop_87 : decode cX10_stop 87 = .ok (.getfield 13, 3) := by decide +kernel
theorem dX10_stop_90 : decode cX10_stop 90 = .ok (.invokestatic 100, 3) := by decide +kernel
theorem dX10_stop_93 : decode cX10_stop 93 = .ok (.istore_n 3, 1) := by decide +kernel
theorem dX10_stop_94 : decode cX10_stop 94 = .ok (.iinc 4 1, 3) := by decide +kernel
theorem dX10_stop_97 : decode cX10_stop 97 = .ok (.goto (-77), 3) := by decide +kernel
theorem dX10_stop_100 : decode cX10_stop 100 = .ok (.iload_n 2, 1) := by decide +kernel
theorem dX10_stop_101 : decode cX10_stop 101 = .ok (.ifCond .lt 7, 3) := by decide +kernel
theorem dX10_stop_104 : decode cX10_stop 104 = .ok (.iload_n 1, 1) := by decide +kernel
theorem dX10_stop_105 : decode cX10_stop 105 = .ok (.ifCond .ne 7, 3) := by decide +kernel
theorem dX10_stop_108 : decode cX10_stop 108 = .ok (.iload_n 2, 1) := by decide +kernel
theorem dX10_stop_109 : decode cX10_stop 109 = .ok (.goto 4, 3) := by decide +kernel
theorem dX10_stop_112 : decode cX10_stop 112 = .ok (.iload_n 3, 1) := by decide +kernel
theorem dX10_stop_113 : decode cX10_stop 113 = .ok (.ireturn, 1) := by decide +kernel
theorem dX10_dark_0 : decode cX10_dark 0 = .ok (.iconst 0, 1) := by decide +kernel
theorem dX10_dark_1 : decode cX10_dark 1 = .ok (.istore_n 1, 1) := by decide +kernel
theorem dX10_dark_2 : decode cX10_dark 2 = .ok (.iconst 0, 1) := by decide +kernel
theorem dX10_dark_3 : decode cX10_dark 3 = .ok (.istore_n 2, 1) := by decide +kernel
theorem dX10_dark_4 : decode cX10_dark 4 = .ok (.iload_n 2, 1) := by decide +kernel
theorem dX10_dark_5 : decode cX10_dark 5 = .ok (.bipush 24, 2) := by decide +kernel
theorem dX10_dark_7 : decode cX10_dark 7 = .ok (.if_icmp .ge 30, 3) := by decide +kernel
theorem dX10_dark_10 : decode cX10_dark 10 = .ok (.iload_n 1, 1) := by decide +kernel
theorem dX10_dark_11 : decode cX10_dark 11 = .ok (.aload_n 0, 1) := by decide +kernel
theorem dX10_dark_12 : decode cX10_dark 12 = .ok (.getfield 9, 3) := by decide +kernel
theorem dX10_dark_15 : decode cX10_dark 15 = .ok (.iload_n 2, 1) := by decide +kernel
theorem dX10_dark_16 : decode cX10_dark 16 = .ok (.invokestatic 174, 3) := by decide +kernel
theorem dX10_dark_19 : decode cX10_dark 19 = .ok (.ifCond .eq 9, 3) := by decide +kernel
theorem dX10_dark_22 : decode cX10_dark 22 = .ok (.iconst 1, 1) := by decide +kernel
theorem dX10_dark_23 : decode cX10_dark 23 = .ok (.iload_n 2, 1) := by decide +kernel
theorem dX10_dark_24 : decode cX10_dark 24 = .ok (.ishl, 1) := by decide +kernel
theorem dX10_dark_25 : decode cX10_dark 25 = .ok (.goto 4, 3) := by decide +kernel
theorem dX10_dark_28 : decode cX10_dark 28 = .ok (.iconst 0, 1) := by decide +kernel
theorem dX10_dark_29 : decode cX10_dark 29 = .ok (.ior, 1) := by decide +kernel
theorem dX10_dark_30 : decode cX10_dark 30 = .ok (.istore_n 1, 1) := by decide +kernel
theorem dX10_dark_31 : decode cX10_dark 31 = .ok (.iinc 2 1, 3) := by decide +kernel
theorem dX10_dark_34 : decode cX10_dark 34 = .ok (.goto (-30), 3) := by decide +kernel
theorem dX10_dark_37 : decode cX10_dark 37 = .ok (.iload_n 1, 1) := by decide +kernel
theorem dX10_dark_38 : decode cX10_dark 38 = .ok (.ireturn, 1) := by decide +kernel
theorem dX10_darkest_0 : decode cX10_darkest 0 = .ok (.iconst 0, 1) := by decide +kernel
theorem dX10_darkest_1 : decode cX10_darkest 1 = .ok (.istore_n 1, 1) := by decide +kernel
theorem dX10_darkest_2 : decode cX10_darkest 2 = .ok (.iconst 1, 1) := by decide +kernel
theorem dX10_darkest_3 : decode cX10_darkest 3 = .ok (.istore_n 2, 1) := by decide +kernel
theorem dX10_darkest_4 : decode cX10_darkest 4 = .ok (.iload_n 2, 1) := by decide +kernel
theorem dX10_darkest_5 : decode cX10_darkest 5 = .ok (.bipush 24, 2) := by decide +kernel
theorem dX10_darkest_7 : decode cX10_darkest 7 = .ok (.if_icmp .ge 30, 3) := by decide +kernel
theorem dX10_darkest_10 : decode cX10_darkest 10 = .ok (.aload_n 0, 1) := by decide +kernel
theorem dX10_darkest_11 : decode cX10_darkest 11 = .ok (.getfield 9, 3) := by decide +kernel
theorem dX10_darkest_14 : decode cX10_darkest 14 = .ok (.iload_n 2, 1) := by decide +kernel
theorem dX10_darkest_15 : decode cX10_darkest 15 = .ok (.invokestatic 177, 3) := by decide +kernel
theorem dX10_darkest_18 : decode cX10_darkest 18 = .ok (.aload_n 0, 1) := by decide +kernel
theorem dX10_darkest_19 : decode cX10_darkest 19 = .ok (.getfield 9, 3) := by decide +kernel
theorem dX10_darkest_22 : decode cX10_darkest 22 = .ok (.iload_n 1, 1) := by decide +kernel
theorem dX10_darkest_23 : decode cX10_darkest 23 = .ok (.invokestatic 177, 3) := by decide +kernel
theorem dX10_darkest_26 : decode cX10_darkest 26 = .ok (.if_icmp .ge 5, 3) := by decide +kernel
theorem dX10_darkest_29 : decode cX10_darkest 29 = .ok (.iload_n 2, 1) := by decide +kernel
theorem dX10_darkest_30 : decode cX10_darkest 30 = .ok (.istore_n 1, 1) := by decide +kernel
theorem dX10_darkest_31 : decode cX10_darkest 31 = .ok (.iinc 2 1, 3) := by decide +kernel
theorem dX10_darkest_34 : decode cX10_darkest 34 = .ok (.goto (-30), 3) := by decide +kernel
theorem dX10_darkest_37 : decode cX10_darkest 37 = .ok (.iload_n 1, 1) := by decide +kernel
theorem dX10_darkest_38 : decode cX10_darkest 38 = .ok (.ireturn, 1) := by decide +kernel
theorem dX10_bright_0 : decode cX10_bright 0 = .ok (.iload_n 1, 1) := by decide +kernel
theorem dX10_bright_1 : decode cX10_bright 1 = .ok (.iconst 0, 1) := by decide +kernel
theorem dX10_bright_2 : decode cX10_bright 2 = .ok (.iconst 1, 1) := by decide +kernel
theorem dX10_bright_3 : decode cX10_bright 3 = .ok (.invokestatic 46, 3) := by decide +kernel
theorem dX10_bright_6 : decode cX10_bright 6 = .ok (.ifCond .ne 5, 3) := by decide +kernel
theorem dX10_bright_9 : decode cX10_bright 9 = .ok (.iconst (-1), 1) := by decide +kernel
theorem dX10_bright_10 : decode cX10_bright 10 = .ok (.ireturn, 1) := by decide +kernel
theorem dX10_bright_11 : decode cX10_bright 11 = .ok (.aload_n 0, 1) := by decide +kernel
theorem dX10_bright_12 : decode cX10_bright 12 = .ok (.invokevirtual 180, 3) := by decide +kernel
theorem dX10_bright_15 : decode cX10_bright 15 = .ok (.istore_n 2, 1) := by decide +kernel
theorem dX10_bright_16 : decode cX10_bright 16 = .ok (.iconst 0, 1) := by decide +kernel
theorem dX10_bright_17 : decode cX10_bright 17 = .ok (.istore_n 3, 1) := by decide +kernel
theorem dX10_bright_18 : decode cX10_bright 18 = .ok (.iconst 0, 1) := by decide +kernel
theorem dX10_bright_19 : decode cX10_bright 19 = .ok (.istore 4, 2) := by decide +kernel
theorem dX10_bright_21 : decode cX10_bright 21 = .ok (.iconst 0, 1) := by decide +kernel
theorem dX10_bright_22 : decode cX10_bright 22 = .ok (.istore 5, 2) := by decide +kernel
theorem dX10_bright_24 : decode cX10_bright 24 = .ok (.iload 5, 2) := by decide +kernel
theorem dX10_bright_26 : decode cX10_bright 26 = .ok (.bipush 24, 2) := by decide +kernel
theorem dX10_bright_28 : decode cX10_bright 28 = .ok (.if_icmp .ge 57, 3) := by decide +kernel
theorem dX10_bright_31 : decode cX10_bright 31 = .ok (.iconst 0, 1) := by decide +kernel
theorem dX10_bright_32 : decode cX10_bright 32 = .ok (.istore 6, 2) := by decide +kernel
theorem dX10_bright_34 : decode cX10_bright 34 = .ok (.iload 6, 2) := by decide +kernel
theorem dX10_bright_36 : decode cX10_bright 36 = .ok (.bipush 24, 2) := by decide +kernel
theorem dX10_bright_38 : decode cX10_bright 38 = .ok (.if_icmp .ge 24, 3) := by decide +kernel
theorem dX10_bright_41 : decode cX10_bright 41 = .ok (.iload_n 2, 1) := by decide +kernel
theorem dX10_bright_42 : decode cX10_bright 42 = .ok (.iload 5, 2) := by decide +kernel
theorem dX10_bright_44 : decode cX10_bright 44 = .ok (.iload 6, 2) := by decide +kernel
theorem dX10_bright_46 : decode cX10_bright 46 = .ok (.iadd, 1) := by decide +kernel
theorem dX10_bright_47 : decode cX10_bright 47 = .ok (.bipush 24, 2) := by decide +kernel
theorem dX10_bright_49 : decode cX10_bright 49 = .ok (.irem, 1) := by decide +kernel
theorem dX10_bright_50 : decode cX10_bright 50 = .ok (.invokestatic 183, 3) := by decide +kernel
theorem dX10_bright_53 : decode cX10_bright 53 = .ok (.ifCond .ne 9, 3) := by decide +kernel
theorem dX10_bright_56 : decode cX10_bright 56 = .ok (.iinc 6 1, 3) := by decide +kernel
theorem dX10_bright_59 : decode cX10_bright 59 = .ok (.goto (-25), 3) := by decide +kernel
theorem dX10_bright_62 : decode cX10_bright 62 = .ok (.iload 6, 2) := by decide +kernel
theorem dX10_bright_64 : decode cX10_bright 64 = .ok (.iload 4, 2) := by decide +kernel
theorem dX10_bright_66 : decode cX10_bright 66 = .ok (.if_icmp .gt 6, 3) := by decide +kernel
theorem dX10_bright_69 : decode cX10_bright 69 = .ok (.goto 10, 3) := by decide +kernel
theorem dX10_bright_72 : decode cX10_bright 72 = .ok (.iload 5, 2) := by decide +kernel
theorem dX10_bright_74 : decode cX10_bright 74 = .ok (.istore_n 3, 1) := by decide +kernel
theorem dX10_bright_75 : decode cX10_bright 75 = .ok (.iload 6, 2) := by decide +kernel
theorem dX10_bright_77 : decode cX10_bright 77 = .ok (.istore 4, 2) := by decide +kernel
theorem dX10_bright_79 : decode cX10_bright 79 = .ok (.iinc 5 1, 3) := by decide +kernel
theorem dX10_bright_82 : decode cX10_bright 82 = .ok (.goto (-58), 3) := by decide +kernel
theorem dX10_bright_85 : decode cX10_bright 85 = .ok (.iload_n 1, 1) := by decide +kernel
theorem dX10_bright_86 : decode cX10_bright 86 = .ok (.ifCond .ne 7, 3) := by decide +kernel
theorem dX10_bright_89 : decode cX10_bright 89 = .ok (.iload_n 3, 1) := by decide +kernel
theorem dX10_bright_90 : decode cX10_bright 90 = .ok (.goto 5, 3) := by decide +kernel
theorem dX10_bright_93 : decode cX10_bright 93 = .ok (.iload 4, 2) := by decide +kernel
theorem dX10_bright_95 : decode cX10_bright 95 = .ok (.ireturn, 1) := by decide +kernel
theorem dX10_mirrors_0 : decode cX10_mirrors 0 = .ok (.bipush (-4), 2) := by decide +kernel
theorem dX10_mirrors_2 : decode cX10_mirrors 2 = .ok (.istore_n 1, 1) := by decide +kernel
theorem dX10_mirrors_3 : decode cX10_mirrors 3 = .ok (.iconst 0, 1) := by decide +kernel
theorem dX10_mirrors_4 : decode cX10_mirrors 4 = .ok (.istore_n 2, 1) := by decide +kernel
theorem dX10_mirrors_5 : decode cX10_mirrors 5 = .ok (.iload_n 2, 1) := by decide +kernel
theorem dX10_mirrors_6 : decode cX10_mirrors 6 = .ok (.bipush 16, 2) := by decide +kernel
theorem dX10_mirrors_8 : decode cX10_mirrors 8 = .ok (.if_icmp .ge 101, 3) := by decide +kernel
theorem dX10_mirrors_11 : decode cX10_mirrors 11 = .ok (.iload_n 1, 1) := by decide +kernel
theorem dX10_mirrors_12 : decode cX10_mirrors 12 = .ok (.ifCond .lt 14, 3) := by decide +kernel
theorem dX10_mirrors_15 : decode cX10_mirrors 15 = .ok (.iload_n 2, 1) := by decide +kernel
theorem dX10_mirrors_16 : decode cX10_mirrors 16 = .ok (.invokestatic 186, 3) := by decide +kernel
theorem dX10_mirrors_19 : decode cX10_mirrors 19 = .ok (.iload_n 1, 1) := by decide +kernel
theorem dX10_mirrors_20 : decode cX10_mirrors 20 = .ok (.invokestatic 186, 3) := by decide +kernel
theorem dX10_mirrors_23 : decode cX10_mirrors 23 = .ok (.if_icmp .ge 7, 3) := by decide +kernel
theorem dX10_mirrors_26 : decode cX10_mirrors 26 = .ok (.iconst 1, 1) := by decide +kernel
theorem dX10_mirrors_27 : decode cX10_mirrors 27 = .ok (.goto 4, 3) := by decide +kernel
theorem dX10_mirrors_30 : decode cX10_mirrors 30 = .ok (.iconst 0, 1) := by decide +kernel
theorem dX10_mirrors_31 : decode cX10_mirrors 31 = .ok (.istore_n 3, 1) := by decide +kernel
theorem dX10_mirrors_32 : decode cX10_mirrors 32 = .ok (.iconst 0, 1) := by decide +kernel
theorem dX10_mirrors_33 : decode cX10_mirrors 33 = .ok (.istore 4, 2) := by decide +kernel
theorem dX10_mirrors_35 : decode cX10_mirrors 35 = .ok (.iload 4, 2) := by decide +kernel
theorem dX10_mirrors_37 : decode cX10_mirrors 37 = .ok (.iconst 4, 1) := by decide +kernel
theorem dX10_mirrors_38 : decode cX10_mirrors 38 = .ok (.if_icmp .ge 59, 3) := by decide +kernel
theorem dX10_mirrors_41 : decode cX10_mirrors 41 = .ok (.iload_n 3, 1) := by decide +kernel
theorem dX10_mirrors_42 : decode cX10_mirrors 42 = .ok (.aload_n 0, 1) := by decide +kernel
theorem dX10_mirrors_43 : decode cX10_mirrors 43 = .ok (.getfield 9, 3) := by decide +kernel
theorem dX10_mirrors_46 : decode cX10_mirrors 46 = .ok (.iconst 5, 1) := by decide +kernel
theorem dX10_mirrors_47 : decode cX10_mirrors 47 = .ok (.iload 4, 2) := by decide +kernel
theorem dX10_mirrors_49 : decode cX10_mirrors 49 = .ok (.iadd, 1) := by decide +kernel
theorem dX10_mirrors_50 : decode cX10_mirrors 50 = .ok (.iaload, 1) := by decide +kernel
theorem dX10_mirrors_51 : decode cX10_mirrors 51 = .ok (.aload_n 0, 1) := by decide +kernel
theorem dX10_mirrors_52 : decode cX10_mirrors 52 = .ok (.getfield 9, 3) := by decide +kernel
theorem dX10_mirrors_55 : decode cX10_mirrors 55 = .ok (.iload 4, 2) := by decide +kernel
theorem dX10_mirrors_57 : decode cX10_mirrors 57 = .ok (.aload_n 0, 1) := by decide +kernel
theorem dX10_mirrors_58 : decode cX10_mirrors 58 = .ok (.getfield 9, 3) := by decide +kernel
theorem dX10_mirrors_61 : decode cX10_mirrors 61 = .ok (.iconst 1, 1) := by decide +kernel
theorem dX10_mirrors_62 : decode cX10_mirrors 62 = .ok (.iaload, 1) := by decide +kernel
theorem dX10_mirrors_63 : decode cX10_mirrors 63 = .ok (.invokestatic 86, 3) := by decide +kernel
theorem dX10_mirrors_66 : decode cX10_mirrors 66 = .ok (.iload_n 2, 1) := by decide +kernel
theorem dX10_mirrors_67 : decode cX10_mirrors 67 = .ok (.iload 4, 2) := by decide +kernel
theorem dX10_mirrors_69 : decode cX10_mirrors 69 = .ok (.invokestatic 183, 3) := by decide +kernel
theorem dX10_mirrors_72 : decode cX10_mirrors 72 = .ok (.ifCond .eq 7, 3) := by decide +kernel
theorem dX10_mirrors_75 : decode cX10_mirrors 75 = .ok (.iconst 2, 1) := by decide +kernel
theorem dX10_mirrors_76 : decode cX10_mirrors 76 = .ok (.goto 4, 3) := by decide +kernel
theorem dX10_mirrors_79 : decode cX10_mirrors 79 = .ok (.iconst 1, 1) := by decide +kernel
theorem dX10_mirrors_80 : decode cX10_mirrors 80 = .ok (.imul, 1) := by decide +kernel
theorem dX10_mirrors_81 : decode cX10_mirrors 81 = .ok (.if_icmp .gt 7, 3) := by decide +kernel
theorem dX10_mirrors_84 : decode cX10_mirrors 84 = .ok (.iconst 1, 1) := by decide +kernel
theorem dX10_mirrors_85 : decode cX10_mirrors 85 = .ok (.goto 4, 3) := by decide +kernel
theorem dX10_mirrors_88 : decode cX10_mirrors 88 = .ok (.iconst 0, 1) := by decide +kernel
theorem dX10_mirrors_89 : decode cX10_mirrors 89 = .ok (.iand, 1) := by decide +kernel
theorem dX10_mirrors_90 : decode cX10_mirrors 90 = .ok (.istore_n 3, 1) := by decide +kernel
theorem dX10_mirrors_91 : decode cX10_mirrors 91 = .ok (.iinc 4 1, 3) := by decide +kernel
theorem dX10_mirrors_94 : decode cX10_mirrors 94 = .ok (.goto (-59), 3) := by decide +kernel
theorem dX10_mirrors_97 : decode cX10_mirrors 97 = .ok (.iload_n 3, 1) := by decide +kernel
theorem dX10_mirrors_98 : decode cX10_mirrors 98 = .ok (.ifCond .eq 5, 3) := by decide +kernel
theorem dX10_mirrors_101 : decode cX10_mirrors 101 = .ok (.iload_n 2, 1) := by decide +kernel
theorem dX10_mirrors_102 : decode cX10_mirrors 102 = .ok (.istore_n 1, 1) := by decide +kernel
theorem dX10_mirrors_103 : decode cX10_mirrors 103 = .ok (.iinc 2 1, 3) := by decide +kernel
theorem dX10_mirrors_106 : decode cX10_mirrors 106 = .ok (.goto (-101), 3) := by decide +kernel
theorem dX10_mirrors_109 : decode cX10_mirrors 109 = .ok (.iload_n 1, 1) := by decide +kernel
theorem dX10_mirrors_110 : decode cX10_mirrors 110 = .ok (.ireturn, 1) := by decide +kernel
theorem dX10_gcd_0 : decode cX10_gcd 0 = .ok (.lload_n 0, 1) := by decide +kernel
theorem dX10_gcd_1 : decode cX10_gcd 1 = .ok (.lstore 4, 2) := by decide +kernel
theorem dX10_gcd_3 : decode cX10_gcd 3 = .ok (.lload_n 2, 1) := by decide +kernel
theorem dX10_gcd_4 : decode cX10_gcd 4 = .ok (.lstore 6, 2) := by decide +kernel
theorem dX10_gcd_6 : decode cX10_gcd 6 = .ok (.lload 6, 2) := by decide +kernel
theorem dX10_gcd_8 : decode cX10_gcd 8 = .ok (.lconst 0, 1) := by decide +kernel
theorem dX10_gcd_9 : decode cX10_gcd 9 = .ok (.lcmp, 1) := by decide +kernel
theorem dX10_gcd_10 : decode cX10_gcd 10 = .ok (.ifCond .eq 21, 3) := by decide +kernel
theorem dX10_gcd_13 : decode cX10_gcd 13 = .ok (.lload 4, 2) := by decide +kernel
theorem dX10_gcd_15 : decode cX10_gcd 15 = .ok (.lload 6, 2) := by decide +kernel
theorem dX10_gcd_17 : decode cX10_gcd 17 = .ok (.lrem, 1) := by decide +kernel
theorem dX10_gcd_18 : decode cX10_gcd 18 = .ok (.lstore 8, 2) := by decide +kernel
theorem dX10_gcd_20 : decode cX10_gcd 20 = .ok (.lload 6, 2) := by decide +kernel
theorem dX10_gcd_22 : decode cX10_gcd 22 = .ok (.lstore 4, 2) := by decide +kernel
theorem dX10_gcd_24 : decode cX10_gcd 24 = .ok (.lload 8, 2) := by decide +kernel
theorem dX10_gcd_26 : decode cX10_gcd 26 = .ok (.lstore 6, 2) := by decide +kernel
theorem dX10_gcd_28 : decode cX10_gcd 28 = .ok (.goto (-22), 3) := by decide +kernel
theorem dX10_gcd_31 : decode cX10_gcd 31 = .ok (.lload 4, 2) := by decide +kernel
theorem dX10_gcd_33 : decode cX10_gcd 33 = .ok (.lreturn, 1) := by decide +kernel
theorem dX10_partOf_0 : decode cX10_partOf 0 = .ok (.lload_n 0, 1) := by decide +kernel
theorem dX10_partOf_1 : decode cX10_partOf 1 = .ok (.lconst 0, 1) := by decide +kernel
theorem dX10_partOf_2 : decode cX10_partOf 2 = .ok (.lcmp, 1) := by decide +kernel
theorem dX10_partOf_3 : decode cX10_partOf 3 = .ok (.ifCond .ne 7, 3) := by decide +kernel
theorem dX10_partOf_6 : decode cX10_partOf 6 = .ok (.iload 4, 2) := by decide +kernel
theorem dX10_partOf_8 : decode cX10_partOf 8 = .ok (.i2l, 1) := by decide +kernel
theorem dX10_partOf_9 : decode cX10_partOf 9 = .ok (.lreturn, 1) := by decide +kernel
theorem dX10_partOf_10 : decode cX10_partOf 10 = .ok (.iload 4, 2) := by decide +kernel
theorem dX10_partOf_12 : decode cX10_partOf 12 = .ok (.ifCond .ne 7, 3) := by decide +kernel
theorem dX10_partOf_15 : decode cX10_partOf 15 = .ok (.lload_n 0, 1) := by decide +kernel
theorem dX10_partOf_16 : decode cX10_partOf 16 = .ok (.goto 4, 3) := by decide +kernel
theorem dX10_partOf_19 : decode cX10_partOf 19 = .ok (.lload_n 2, 1) := by decide +kernel
theorem dX10_partOf_20 : decode cX10_partOf 20 = .ok (.lload_n 0, 1) := by decide +kernel
theorem dX10_partOf_21 : decode cX10_partOf 21 = .ok (.lload_n 2, 1) := by decide +kernel
theorem dX10_partOf_22 : decode cX10_partOf 22 = .ok (.invokestatic 189, 3) := by decide +kernel
theorem dX10_partOf_25 : decode cX10_partOf 25 = .ok (.ldiv, 1) := by decide +kernel
theorem dX10_partOf_26 : decode cX10_partOf 26 = .ok (.lreturn, 1) := by decide +kernel
theorem dX10_mean_0 : decode cX10_mean 0 = .ok (.iload_n 1, 1) := by decide +kernel
theorem dX10_mean_1 : decode cX10_mean 1 = .ok (.invokestatic 130, 3) := by decide +kernel
theorem dX10_mean_4 : decode cX10_mean 4 = .ok (.ifCond .eq 12, 3) := by decide +kernel
theorem dX10_mean_7 : decode cX10_mean 7 = .ok (.iload_n 2, 1) := by decide +kernel
theorem dX10_mean_8 : decode cX10_mean 8 = .ok (.iconst 0, 1) := by decide +kernel
theorem dX10_mean_9 : decode cX10_mean 9 = .ok (.iconst 1, 1) := by decide +kernel
theorem dX10_mean_10 : decode cX10_mean 10 = .ok (.invokestatic 46, 3) := by decide +kernel
theorem dX10_mean_13 : decode cX10_mean 13 = .ok (.ifCond .ne 7, 3) := by decide +kernel
theorem dX10_mean_16 : decode cX10_mean 16 = .ok (.ldc2_w 193, 3) := by decide +kernel
theorem dX10_mean_19 : decode cX10_mean 19 = .ok (.lreturn, 1) := by decide +kernel
theorem dX10_mean_20 : decode cX10_mean 20 = .ok (.lconst 0, 1) := by decide +kernel
theorem dX10_mean_21 : decode cX10_mean 21 = .ok (.lstore_n 3, 1) := by decide +kernel
theorem dX10_mean_22 : decode cX10_mean 22 = .ok (.iconst 0, 1) := by decide +kernel
theorem dX10_mean_23 : decode cX10_mean 23 = .ok (.istore 5, 2) := by decide +kernel
theorem dX10_mean_25 : decode cX10_mean 25 = .ok (.iload 5, 2) := by decide +kernel
theorem dX10_mean_27 : decode cX10_mean 27 = .ok (.bipush 24, 2) := by decide +kernel
theorem dX10_mean_29 : decode cX10_mean 29 = .ok (.if_icmp .ge 23, 3) := by decide +kernel
theorem dX10_mean_32 : decode cX10_mean 32 = .ok (.lload_n 3, 1) := by decide +kernel
theorem dX10_mean_33 : decode cX10_mean 33 = .ok (.aload_n 0, 1) := by decide +kernel
theorem dX10_mean_34 : decode cX10_mean 34 = .ok (.getfield 9, 3) := by decide +kernel
theorem dX10_mean_37 : decode cX10_mean 37 = .ok (.iload_n 1, 1) := by decide +kernel
theorem dX10_mean_38 : decode cX10_mean 38 = .ok (.iload 5, 2) := by decide +kernel
theorem dX10_mean_40 : decode cX10_mean 40 = .ok (.invokestatic 86, 3) := by decide +kernel
theorem dX10_mean_43 : decode cX10_mean 43 = .ok (.i2l, 1) := by decide +kernel
theorem dX10_mean_44 : decode cX10_mean 44 = .ok (.ladd, 1) := by decide +kernel
theorem dX10_mean_45 : decode cX10_mean 45 = .ok (.lstore_n 3, 1) := by decide +kernel
theorem dX10_mean_46 : decode cX10_mean 46 = .ok (.iinc 5 1, 3) := by decide +kernel
theorem dX10_mean_49 : decode cX10_mean 49 = .ok (.goto (-24), 3) := by decide +kernel
theorem dX10_mean_52 : decode cX10_mean 52 = .ok (.lload_n 3, 1) := by decide +kernel
theorem dX10_mean_53 : decode cX10_mean 53 = .ok (.ldc2_w 195, 3) := by decide +kernel
theorem dX10_mean_56 : decode cX10_mean 56 = .ok (.iload_n 2, 1) := by decide +kernel
theorem dX10_mean_57 : decode cX10_mean 57 = .ok (.invokestatic 197, 3) := by decide +kernel
theorem dX10_mean_60 : decode cX10_mean 60 = .ok (.lreturn, 1) := by decide +kernel
theorem dX10_isNoDarker_0 : decode cX10_isNoDarker 0 = .ok (.iconst 0, 1) := by decide +kernel
theorem dX10_isNoDarker_1 : decode cX10_isNoDarker 1 = .ok (.istore_n 1, 1) := by decide +kernel
theorem dX10_isNoDarker_2 : decode cX10_isNoDarker 2 = .ok (.iload_n 1, 1) := by decide +kernel
theorem dX10_isNoDarker_3 : decode cX10_isNoDarker 3 = .ok (.bipush 24, 2) := by decide +kernel
theorem dX10_isNoDarker_5 : decode cX10_isNoDarker 5 = .ok (.if_icmp .ge 48, 3) := by decide +kernel
theorem dX10_isNoDarker_8 : decode cX10_isNoDarker 8 = .ok (.iconst 0, 1) := by decide +kernel
theorem dX10_isNoDarker_9 : decode cX10_isNoDarker 9 = .ok (.istore_n 2, 1) := by decide +kernel
theorem dX10_isNoDarker_10 : decode cX10_isNoDarker 10 = .ok (.iload_n 2, 1) := by decide +kernel
theorem dX10_isNoDarker_11 : decode cX10_isNoDarker 11 = .ok (.iconst 4, 1) := by decide +kernel
theorem dX10_isNoDarker_12 : decode cX10_isNoDarker 12 = .ok (.if_icmp .ge 35, 3) := by decide +kernel
theorem dX10_isNoDarker_15 : decode cX10_isNoDarker 15 = .ok (.aload_n 0, 1) := by decide +kernel
theorem dX10_isNoDarker_16 : decode cX10_isNoDarker 16 = .ok (.getfield 13, 3) := by decide +kernel
theorem dX10_isNoDarker_19 : decode cX10_isNoDarker 19 = .ok (.iload_n 2, 1) := by decide +kernel
theorem dX10_isNoDarker_20 : decode cX10_isNoDarker 20 = .ok (.iload_n 1, 1) := by decide +kernel
theorem dX10_isNoDarker_21 : decode cX10_isNoDarker 21 = .ok (.invokestatic 89, 3) := by decide +kernel
theorem dX10_isNoDarker_24 : decode cX10_isNoDarker 24 = .ok (.ifCond .le 17, 3) := by decide +kernel
theorem dX10_isNoDarker_27 : decode cX10_isNoDarker 27 = .ok (.aload_n 0, 1) := by decide +kernel
theorem dX10_isNoDarker_28 : decode cX10_isNoDarker 28 = .ok (.getfield 9, 3) := by decide +kernel
theorem dX10_isNoDarker_31 : decode cX10_isNoDarker 31 = .ok (.iload_n 2, 1) := by decide +kernel
theorem dX10_isNoDarker_32 : decode cX10_isNoDarker 32 = .ok (.iload_n 1, 1) := by decide +kernel
theorem dX10_isNoDarker_33 : decode cX10_isNoDarker 33 = .ok (.invokestatic 89, 3) := by decide +kernel
theorem dX10_isNoDarker_36 : decode cX10_isNoDarker 36 = .ok (.ifCond .ne 5, 3) := by decide +kernel
theorem dX10_isNoDarker_39 : decode cX10_isNoDarker 39 = .ok (.iconst 0, 1) := by decide +kernel
theorem dX10_isNoDarker_40 : decode cX10_isNoDarker 40 = .ok (.ireturn, 1) := by decide +kernel
theorem dX10_isNoDarker_41 : decode cX10_isNoDarker 41 = .ok (.iinc 2 1, 3) := by decide +kernel
theorem dX10_isNoDarker_44 : decode cX10_isNoDarker 44 = .ok (.goto (-34), 3) := by decide +kernel
theorem dX10_isNoDarker_47 : decode cX10_isNoDarker 47 = .ok (.iinc 1 1, 3) := by decide +kernel
theorem dX10_isNoDarker_50 : decode cX10_isNoDarker 50 = .ok (.goto (-48), 3) := by decide +kernel
theorem dX10_isNoDarker_53 : decode cX10_isNoDarker 53 = .ok (.iconst 1, 1) := by decide +kernel
theorem dX10_isNoDarker_54 : decode cX10_isNoDarker 54 = .ok (.ireturn, 1) := by decide +kernel
theorem dX10_hidden_0 : decode cX10_hidden 0 = .ok (.iconst 0, 1) := by decide +kernel
theorem dX10_hidden_1 : decode cX10_hidden 1 = .ok (.istore_n 1, 1) := by decide +kernel
theorem dX10_hidden_2 : decode cX10_hidden 2 = .ok (.iconst 0, 1) := by decide +kernel
theorem dX10_hidden_3 : decode cX10_hidden 3 = .ok (.istore_n 2, 1) := by decide +kernel
theorem dX10_hidden_4 : decode cX10_hidden 4 = .ok (.iload_n 2, 1) := by decide +kernel
theorem dX10_hidden_5 : decode cX10_hidden 5 = .ok (.iconst 1, 1) := by decide +kernel
theorem dX10_hidden_6 : decode cX10_hidden 6 = .ok (.aload_n 0, 1) := by decide +kernel
theorem dX10_hidden_7 : decode cX10_hidden 7 = .ok (.getfield 9, 3) := by decide +kernel
theorem dX10_hidden_10 : decode cX10_hidden 10 = .ok (.iconst 0, 1) := by decide +kernel
theorem dX10_hidden_11 : decode cX10_hidden 11 = .ok (.iaload, 1) := by decide +kernel
theorem dX10_hidden_12 : decode cX10_hidden 12 = .ok (.ishl, 1) := by decide +kernel
theorem dX10_hidden_13 : decode cX10_hidden 13 = .ok (.if_icmp .ge 51, 3) := by decide +kernel
theorem dX10_hidden_16 : decode cX10_hidden 16 = .ok (.iload_n 2, 1) := by decide +kernel
theorem dX10_hidden_17 : decode cX10_hidden 17 = .ok (.invokestatic 186, 3) := by decide +kernel
theorem dX10_hidden_20 : decode cX10_hidden 20 = .ok (.iload_n 1, 1) := by decide +kernel
theorem dX10_hidden_21 : decode cX10_hidden 21 = .ok (.if_icmp .gt 6, 3) := by decide +kernel
theorem dX10_hidden_24 : decode cX10_hidden 24 = .ok (.goto 34, 3) := by decide +kernel
theorem dX10_hidden_27 : decode cX10_hidden 27 = .ok (.aload_n 0, 1) := by decide +kernel
theorem dX10_hidden_28 : decode cX10_hidden 28 = .ok (.getfield 9, 3) := by decide +kernel
theorem dX10_hidden_31 : decode cX10_hidden 31 = .ok (.aload_n 0, 1) := by decide +kernel
theorem dX10_hidden_32 : decode cX10_hidden 32 = .ok (.getfield 13, 3) := by decide +kernel
theorem dX10_hidden_35 : decode cX10_hidden 35 = .ok (.invokestatic 155, 3) := by decide +kernel
theorem dX10_hidden_38 : decode cX10_hidden 38 = .ok (.aload_n 0, 1) := by decide +kernel
theorem dX10_hidden_39 : decode cX10_hidden 39 = .ok (.getfield 13, 3) := by decide +kernel
theorem dX10_hidden_42 : decode cX10_hidden 42 = .ok (.iload_n 2, 1) := by decide +kernel
theorem dX10_hidden_43 : decode cX10_hidden 43 = .ok (.invokestatic 170, 3) := by decide +kernel
theorem dX10_hidden_46 : decode cX10_hidden 46 = .ok (.aload_n 0, 1) := by decide +kernel
theorem dX10_hidden_47 : decode cX10_hidden 47 = .ok (.invokevirtual 201, 3) := by decide +kernel
theorem dX10_hidden_50 : decode cX10_hidden 50 = .ok (.ifCond .eq 8, 3) := by decide +kernel
theorem dX10_hidden_53 : decode cX10_hidden 53 = .ok (.iload_n 2, 1) := by decide +kernel
theorem dX10_hidden_54 : decode cX10_hidden 54 = .ok (.invokestatic 186, 3) := by decide +kernel
theorem dX10_hidden_57 : decode cX10_hidden 57 = .ok (.istore_n 1, 1) := by decide +kernel
theorem dX10_hidden_58 : decode cX10_hidden 58 = .ok (.iinc 2 1, 3) := by decide +kernel
theorem dX10_hidden_61 : decode cX10_hidden 61 = .ok (.goto (-57), 3) := by decide +kernel
theorem dX10_hidden_64 : decode cX10_hidden 64 = .ok (.iload_n 1, 1) := by decide +kernel
theorem dX10_hidden_65 : decode cX10_hidden 65 = .ok (.ireturn, 1) := by decide +kernel
theorem dX10_areUnlike_0 : decode cX10_areUnlike 0 = .ok (.iconst 0, 1) := by decide +kernel
theorem dX10_areUnlike_1 : decode cX10_areUnlike 1 = .ok (.istore_n 2, 1) := by decide +kernel
theorem dX10_areUnlike_2 : decode cX10_areUnlike 2 = .ok (.iload_n 2, 1) := by decide +kernel
theorem dX10_areUnlike_3 : decode cX10_areUnlike 3 = .ok (.aload_n 0, 1) := by decide +kernel
theorem dX10_areUnlike_4 : decode cX10_areUnlike 4 = .ok (.getfield 9, 3) := by decide +kernel
theorem dX10_areUnlike_7 : decode cX10_areUnlike 7 = .ok (.iconst 0, 1) := by decide +kernel
theorem dX10_areUnlike_8 : decode cX10_areUnlike 8 = .ok (.iaload, 1) := by decide +kernel
theorem dX10_areUnlike_9 : decode cX10_areUnlike 9 = .ok (.if_icmp .ge 72, 3) := by decide +kernel
theorem dX10_areUnlike_12 : decode cX10_areUnlike 12 = .ok (.iload_n 2, 1) := by decide +kernel
theorem dX10_areUnlike_13 : decode cX10_areUnlike 13 = .ok (.iconst 1, 1) := by decide +kernel
theorem dX10_areUnlike_14 : decode cX10_areUnlike 14 = .ok (.iadd, 1) := by decide +kernel
theorem dX10_areUnlike_15 : decode cX10_areUnlike 15 = .ok (.istore_n 3, 1) := by decide +kernel
theorem dX10_areUnlike_16 : decode cX10_areUnlike 16 = .ok (.iload_n 3, 1) := by decide +kernel
theorem dX10_areUnlike_17 : decode cX10_areUnlike 17 = .ok (.aload_n 0, 1) := by decide +kernel
theorem dX10_areUnlike_18 : decode cX10_areUnlike 18 = .ok (.getfield 9, 3) := by decide +kernel
theorem dX10_areUnlike_21 : decode cX10_areUnlike 21 = .ok (.iconst 0, 1) := by decide +kernel
theorem dX10_areUnlike_22 : decode cX10_areUnlike 22 = .ok (.iaload, 1) := by decide +kernel
theorem dX10_areUnlike_23 : decode cX10_areUnlike 23 = .ok (.if_icmp .ge 52, 3) := by decide +kernel
theorem dX10_areUnlike_26 : decode cX10_areUnlike 26 = .ok (.aload_n 0, 1) := by decide +kernel
theorem dX10_areUnlike_27 : decode cX10_areUnlike 27 = .ok (.getfield 9, 3) := by decide +kernel
theorem dX10_areUnlike_30 : decode cX10_areUnlike 30 = .ok (.iload_n 2, 1) := by decide +kernel
theorem dX10_areUnlike_31 : decode cX10_areUnlike 31 = .ok (.invokestatic 63, 3) := by decide +kernel
theorem dX10_areUnlike_34 : decode cX10_areUnlike 34 = .ok (.ifCond .eq 35, 3) := by decide +kernel
theorem dX10_areUnlike_37 : decode cX10_areUnlike 37 = .ok (.aload_n 0, 1) := by decide +kernel
theorem dX10_areUnlike_38 : decode cX10_areUnlike 38 = .ok (.getfield 9, 3) := by decide +kernel
theorem dX10_areUnlike_41 : decode cX10_areUnlike 41 = .ok (.iload_n 3, 1) := by decide +kernel
theorem dX10_areUnlike_42 : decode cX10_areUnlike 42 = .ok (.invokestatic 63, 3) := by decide +kernel
theorem dX10_areUnlike_45 : decode cX10_areUnlike 45 = .ok (.ifCond .eq 24, 3) := by decide +kernel
theorem dX10_areUnlike_48 : decode cX10_areUnlike 48 = .ok (.aload_n 0, 1) := by decide +kernel
theorem dX10_areUnlike_49 : decode cX10_areUnlike 49 = .ok (.getfield 25, 3) := by decide +kernel
theorem dX10_areUnlike_52 : decode cX10_areUnlike 52 = .ok (.iload_n 2, 1) := by decide +kernel
theorem dX10_areUnlike_53 : decode cX10_areUnlike 53 = .ok (.iaload, 1) := by decide +kernel
theorem dX10_areUnlike_54 : decode cX10_areUnlike 54 = .ok (.iload_n 1, 1) := by decide +kernel
theorem dX10_areUnlike_55 : decode cX10_areUnlike 55 = .ok (.iand, 1) := by decide +kernel
theorem dX10_areUnlike_56 : decode cX10_areUnlike 56 = .ok (.aload_n 0, 1) := by decide +kernel
theorem dX10_areUnlike_57 : decode cX10_areUnlike 57 = .ok (.getfield 25, 3) := by decide +kernel
theorem dX10_areUnlike_60 : decode cX10_areUnlike 60 = .ok (.iload_n 3, 1) := by decide +kernel
theorem dX10_areUnlike_61 : decode cX10_areUnlike 61 = .ok (.iaload, 1) := by decide +kernel
theorem dX10_areUnlike_62 : decode cX10_areUnlike 62 = .ok (.iload_n 1, 1) := by decide +kernel
theorem dX10_areUnlike_63 : decode cX10_areUnlike 63 = .ok (.iand, 1) := by decide +kernel
theorem dX10_areUnlike_64 : decode cX10_areUnlike 64 = .ok (.if_icmp .ne 5, 3) := by decide +kernel
theorem dX10_areUnlike_67 : decode cX10_areUnlike 67 = .ok (.iconst 0, 1) := by decide +kernel
theorem dX10_areUnlike_68 : decode cX10_areUnlike 68 = .ok (.ireturn, 1) := by decide +kernel
theorem dX10_areUnlike_69 : decode cX10_areUnlike 69 = .ok (.iinc 3 1, 3) := by decide +kernel
theorem dX10_areUnlike_72 : decode cX10_areUnlike 72 = .ok (.goto (-56), 3) := by decide +kernel
theorem dX10_areUnlike_75 : decode cX10_areUnlike 75 = .ok (.iinc 2 1, 3) := by decide +kernel
theorem dX10_areUnlike_78 : decode cX10_areUnlike 78 = .ok (.goto (-76), 3) := by decide +kernel
theorem dX10_areUnlike_81 : decode cX10_areUnlike 81 = .ok (.iconst 1, 1) := by decide +kernel
theorem dX10_areUnlike_82 : decode cX10_areUnlike 82 = .ok (.ireturn, 1) := by decide +kernel
theorem dX10_looks_0 : decode cX10_looks 0 = .ok (.iconst 0, 1) := by decide +kernel
theorem dX10_looks_1 : decode cX10_looks 1 = .ok (.istore_n 1, 1) := by decide +kernel
theorem dX10_looks_2 : decode cX10_looks 2 = .ok (.iload_n 1, 1) := by decide +kernel
theorem dX10_looks_3 : decode cX10_looks 3 = .ok (.aload_n 0, 1) := by decide +kernel
theorem dX10_looks_4 : decode cX10_looks 4 = .ok (.getfield 9, 3) := by decide +kernel
theorem dX10_looks_7 : decode cX10_looks 7 = .ok (.iconst 0, 1) := by decide +kernel
theorem dX10_looks_8 : decode cX10_looks 8 = .ok (.iaload, 1) := by decide +kernel
theorem dX10_looks_9 : decode cX10_looks 9 = .ok (.if_icmp .ge 58, 3) := by decide +kernel
theorem dX10_looks_12 : decode cX10_looks 12 = .ok (.aload_n 0, 1) := by decide +kernel
theorem dX10_looks_13 : decode cX10_looks 13 = .ok (.getfield 25, 3) := by decide +kernel
theorem dX10_looks_16 : decode cX10_looks 16 = .ok (.iload_n 1, 1) := by decide +kernel
theorem dX10_looks_17 : decode cX10_looks 17 = .ok (.iconst 0, 1) := by decide +kernel
theorem dX10_looks_18 : decode cX10_looks 18 = .ok (.iastore, 1) := by decide +kernel
theorem dX10_looks_19 : decode cX10_looks 19 = .ok (.iconst 0, 1) := by decide +kernel
theorem dX10_looks_20 : decode cX10_looks 20 = .ok (.istore_n 2, 1) := by decide +kernel
theorem dX10_looks_21 : decode cX10_looks 21 = .ok (.iload_n 2, 1) := by decide +kernel
theorem dX10_looks_22 : decode cX10_looks 22 = .ok (.bipush 24, 2) := by decide +kernel
theorem dX10_looks_24 : decode cX10_looks 24 = .ok (.if_icmp .ge 37, 3) := by decide +kernel
theorem dX10_looks_27 : decode cX10_looks 27 = .ok (.aload_n 0, 1) := by decide +kernel
theorem dX10_looks_28 : decode cX10_looks 28 = .ok (.getfield 25, 3) := by decide +kernel
theorem dX10_looks_31 : decode cX10_looks 31 = .ok (.iload_n 1, 1) := by decide +kernel
theorem dX10_looks_32 : decode cX10_looks 32 = .ok (.dup2, 1) := by decide +kernel
theorem dX10_looks_33 : decode cX10_looks 33 = .ok (.iaload, 1) := by decide +kernel
theorem dX10_looks_34 : decode cX10_looks 34 = .ok (.aload_n 0, 1) := by decide +kernel
theorem dX10_looks_35 : decode cX10_looks 35 = .ok (.getfield 9, 3) := by decide +kernel
theorem dX10_looks_38 : decode cX10_looks 38 = .ok (.iload_n 1, 1) := by decide +kernel
theorem dX10_looks_39 : decode cX10_looks 39 = .ok (.iload_n 2, 1) := by decide +kernel
theorem dX10_looks_40 : decode cX10_looks 40 = .ok (.invokestatic 95, 3) := by decide +kernel
theorem dX10_looks_43 : decode cX10_looks 43 = .ok (.ifCond .eq 9, 3) := by decide +kernel
theorem dX10_looks_46 : decode cX10_looks 46 = .ok (.iconst 1, 1) := by decide +kernel
theorem dX10_looks_47 : decode cX10_looks 47 = .ok (.iload_n 2, 1) := by decide +kernel
theorem dX10_looks_48 : decode cX10_looks 48 = .ok (.ishl, 1) := by decide +kernel
theorem dX10_looks_49 : decode cX10_looks 49 = .ok (.goto 4, 3) := by decide +kernel
theorem dX10_looks_52 : decode cX10_looks 52 = .ok (.iconst 0, 1) := by decide +kernel
theorem dX10_looks_53 : decode cX10_looks 53 = .ok (.ior, 1) := by decide +kernel
theorem dX10_looks_54 : decode cX10_looks 54 = .ok (.iastore, 1) := by decide +kernel
theorem dX10_looks_55 : decode cX10_looks 55 = .ok (.iinc 2 1, 3) := by decide +kernel
theorem dX10_looks_58 : decode cX10_looks 58 = .ok (.goto (-37), 3) := by decide +kernel
theorem dX10_looks_61 : decode cX10_looks 61 = .ok (.iinc 1 1, 3) := by decide +kernel
theorem dX10_looks_64 : decode cX10_looks 64 = .ok (.goto (-62), 3) := by decide +kernel
theorem dX10_looks_67 : decode cX10_looks 67 = .ok (.aload_n 0, 1) := by decide +kernel
theorem dX10_looks_68 : decode cX10_looks 68 = .ok (.iconst 0, 1) := by decide +kernel
theorem dX10_looks_69 : decode cX10_looks 69 = .ok (.invokevirtual 204, 3) := by decide +kernel
theorem dX10_looks_72 : decode cX10_looks 72 = .ok (.ifCond .eq 5, 3) := by decide +kernel
theorem dX10_looks_75 : decode cX10_looks 75 = .ok (.iconst 0, 1) := by decide +kernel
theorem dX10_looks_76 : decode cX10_looks 76 = .ok (.ireturn, 1) := by decide +kernel
theorem dX10_looks_77 : decode cX10_looks 77 = .ok (.bipush (-4), 2) := by decide +kernel
theorem dX10_looks_79 : decode cX10_looks 79 = .ok (.istore_n 1, 1) := by decide +kernel
theorem dX10_looks_80 : decode cX10_looks 80 = .ok (.iconst 0, 1) := by decide +kernel
theorem dX10_looks_81 : decode cX10_looks 81 = .ok (.istore_n 2, 1) := by decide +kernel
theorem dX10_looks_82 : decode cX10_looks 82 = .ok (.iload_n 2, 1) := by decide +kernel
theorem dX10_looks_83 : decode cX10_looks 83 = .ok (.bipush 24, 2) := by decide +kernel
theorem dX10_looks_85 : decode cX10_looks 85 = .ok (.if_icmp .ge 27, 3) := by decide +kernel
theorem dX10_looks_88 : decode cX10_looks 88 = .ok (.iload_n 1, 1) := by decide +kernel
theorem dX10_looks_89 : decode cX10_looks 89 = .ok (.ifCond .ge 17, 3) := by decide +kernel
theorem dX10_looks_92 : decode cX10_looks 92 = .ok (.aload_n 0, 1) := by decide +kernel
theorem dX10_looks_93 : decode cX10_looks 93 = .ok (.iconst 1, 1) := by decide +kernel
theorem dX10_looks_94 : decode cX10_looks 94 = .ok (.iload_n 2, 1) := by decide +kernel
theorem dX10_looks_95 : decode cX10_looks 95 = .ok (.ishl, 1) := by decide +kernel
theorem dX10_looks_96 : decode cX10_looks 96 = .ok (.invokevirtual 204, 3) := by decide +kernel
theorem dX10_looks_99 : decode cX10_looks 99 = .ok (.ifCond .eq 7, 3) := by decide +kernel
theorem dX10_looks_102 : decode cX10_looks 102 = .ok (.iconst 1, 1) := by decide +kernel
theorem dX10_looks_103 : decode cX10_looks 103 = .ok (.iload_n 2, 1) := by decide +kernel
theorem dX10_looks_104 : decode cX10_looks 104 = .ok (.ishl, 1) := by decide +kernel
theorem dX10_looks_105 : decode cX10_looks 105 = .ok (.istore_n 1, 1) := by decide +kernel
theorem dX10_looks_106 : decode cX10_looks 106 = .ok (.iinc 2 1, 3) := by decide +kernel
theorem dX10_looks_109 : decode cX10_looks 109 = .ok (.goto (-27), 3) := by decide +kernel
theorem dX10_looks_112 : decode cX10_looks 112 = .ok (.iload_n 1, 1) := by decide +kernel
theorem dX10_looks_113 : decode cX10_looks 113 = .ok (.ifCond .lt 5, 3) := by decide +kernel
theorem dX10_looks_116 : decode cX10_looks 116 = .ok (.iload_n 1, 1) := by decide +kernel
theorem dX10_looks_117 : decode cX10_looks 117 = .ok (.ireturn, 1) := by decide +kernel
theorem dX10_looks_118 : decode cX10_looks 118 = .ok (.iconst 0, 1) := by decide +kernel
theorem dX10_looks_119 : decode cX10_looks 119 = .ok (.istore_n 2, 1) := by decide +kernel
theorem dX10_looks_120 : decode cX10_looks 120 = .ok (.iload_n 2, 1) := by decide +kernel
theorem dX10_looks_121 : decode cX10_looks 121 = .ok (.bipush 24, 2) := by decide +kernel
theorem dX10_looks_123 : decode cX10_looks 123 = .ok (.if_icmp .ge 48, 3) := by decide +kernel
theorem dX10_looks_126 : decode cX10_looks 126 = .ok (.iconst 0, 1) := by decide +kernel
theorem dX10_looks_127 : decode cX10_looks 127 = .ok (.istore_n 3, 1) := by decide +kernel
theorem dX10_looks_128 : decode cX10_looks 128 = .ok (.iload_n 3, 1) := by decide +kernel
theorem dX10_looks_129 : decode cX10_looks 129 = .ok (.iload_n 2, 1) := by decide +kernel
theorem dX10_looks_130 : decode cX10_looks 130 = .ok (.if_icmp .ge 35, 3) := by decide +kernel
theorem dX10_looks_133 : decode cX10_looks 133 = .ok (.iload_n 1, 1) := by decide +kernel
theorem dX10_looks_134 : decode cX10_looks 134 = .ok (.ifCond .ge 25, 3) := by decide +kernel
theorem dX10_looks_137 : decode cX10_looks 137 = .ok (.aload_n 0, 1) := by decide +kernel
theorem dX10_looks_138 : decode cX10_looks 138 = .ok (.iconst 1, 1) := by decide +kernel
theorem dX10_looks_139 : decode cX10_looks 139 = .ok (.iload_n 2, 1) := by decide +kernel
theorem dX10_looks_140 : decode cX10_looks 140 = .ok (.ishl, 1) := by decide +kernel
theorem dX10_looks_141 : decode cX10_looks 141 = .ok (.iconst 1, 1) := by decide +kernel
theorem dX10_looks_142 : decode cX10_looks 142 = .ok (.iload_n 3, 1) := by decide +kernel
theorem dX10_looks_143 : decode cX10_looks 143 = .ok (.ishl, 1) := by decide +kernel
theorem dX10_looks_144 : decode cX10_looks 144 = .ok (.ior, 1) := by decide +kernel
theorem dX10_looks_145 : decode cX10_looks 145 = .ok (.invokevirtual 204, 3) := by decide +kernel
theorem dX10_looks_148 : decode cX10_looks 148 = .ok (.ifCond .eq 11, 3) := by decide +kernel
theorem dX10_looks_151 : decode cX10_looks 151 = .ok (.iconst 1, 1) := by decide +kernel
theorem dX10_looks_152 : decode cX10_looks 152 = .ok (.iload_n 2, 1) := by decide +kernel
theorem dX10_looks_153 : decode cX10_looks 153 = .ok (.ishl, 1) := by decide +kernel
theorem dX10_looks_154 : decode cX10_looks 154 = .ok (.iconst 1, 1) := by decide +kernel
theorem dX10_looks_155 : decode cX10_looks 155 = .ok (.iload_n 3, 1) := by decide +kernel
theorem dX10_looks_156 : decode cX10_looks 156 = .ok (.ishl, 1) := by decide +kernel
theorem dX10_looks_157 : decode cX10_looks 157 = .ok (.ior, 1) := by decide +kernel
theorem dX10_looks_158 : decode cX10_looks 158 = .ok (.istore_n 1, 1) := by decide +kernel
theorem dX10_looks_159 : decode cX10_looks 159 = .ok (.iinc 3 1, 3) := by decide +kernel
theorem dX10_looks_162 : decode cX10_looks 162 = .ok (.goto (-34), 3) := by decide +kernel
theorem dX10_looks_165 : decode cX10_looks 165 = .ok (.iinc 2 1, 3) := by decide +kernel
theorem dX10_looks_168 : decode cX10_looks 168 = .ok (.goto (-48), 3) := by decide +kernel
theorem dX10_looks_171 : decode cX10_looks 171 = .ok (.iload_n 1, 1) := by decide +kernel
theorem dX10_looks_172 : decode cX10_looks 172 = .ok (.ifCond .lt 5, 3) := by decide +kernel
theorem dX10_looks_175 : decode cX10_looks 175 = .ok (.iload_n 1, 1) := by decide +kernel
theorem dX10_looks_176 : decode cX10_looks 176 = .ok (.ireturn, 1) := by decide +kernel
theorem dX10_looks_177 : decode cX10_looks 177 = .ok (.iconst 0, 1) := by decide +kernel
theorem dX10_looks_178 : decode cX10_looks 178 = .ok (.istore_n 2, 1) := by decide +kernel
theorem dX10_looks_179 : decode cX10_looks 179 = .ok (.iload_n 2, 1) := by decide +kernel
theorem dX10_looks_180 : decode cX10_looks 180 = .ok (.bipush 24, 2) := by decide +kernel
theorem dX10_looks_182 : decode cX10_looks 182 = .ok (.if_icmp .ge 73, 3) := by decide +kernel
theorem dX10_looks_185 : decode cX10_looks 185 = .ok (.iconst 0, 1) := by decide +kernel
theorem dX10_looks_186 : decode cX10_looks 186 = .ok (.istore_n 3, 1) := by decide +kernel
theorem dX10_looks_187 : decode cX10_looks 187 = .ok (.iload_n 3, 1) := by decide +kernel
theorem dX10_looks_188 : decode cX10_looks 188 = .ok (.iload_n 2, 1) := by decide +kernel
theorem dX10_looks_189 : decode cX10_looks 189 = .ok (.if_icmp .ge 60, 3) := by decide +kernel
theorem dX10_looks_192 : decode cX10_looks 192 = .ok (.iconst 0, 1) := by decide +kernel
theorem dX10_looks_193 : decode cX10_looks 193 = .ok (.istore 4, 2) := by decide +kernel
theorem dX10_looks_195 : decode cX10_looks 195 = .ok (.iload 4, 2) := by decide +kernel
theorem dX10_looks_197 : decode cX10_looks 197 = .ok (.iload_n 3, 1) := by decide +kernel
theorem dX10_looks_198 : decode cX10_looks 198 = .ok (.if_icmp .ge 45, 3) := by decide +kernel
theorem dX10_looks_201 : decode cX10_looks 201 = .ok (.iload_n 1, 1) := by decide +kernel
theorem dX10_looks_202 : decode cX10_looks 202 = .ok (.ifCond .ge 35, 3) := by decide +kernel
theorem dX10_looks_205 : decode cX10_looks 205 = .ok (.aload_n 0, 1) := by decide +kernel
theorem dX10_looks_206 : decode cX10_looks 206 = .ok (.iconst 1, 1) := by decide +kernel
theorem dX10_looks_207 : decode cX10_looks 207 = .ok (.iload_n 2, 1) := by decide +kernel
theorem dX10_looks_208 : decode cX10_looks 208 = .ok (.ishl, 1) := by decide +kernel
theorem dX10_looks_209 : decode cX10_looks 209 = .ok (.iconst 1, 1) := by decide +kernel
theorem dX10_looks_210 : decode cX10_looks 210 = .ok (.iload_n 3, 1) := by decide +kernel
theorem dX10_looks_211 : decode cX10_looks 211 = .ok (.ishl, 1) := by decide +kernel
theorem dX10_looks_212 : decode cX10_looks 212 = .ok (.ior, 1) := by decide +kernel
theorem dX10_looks_213 : decode cX10_looks 213 = .ok (.iconst 1, 1) := by decide +kernel
theorem dX10_looks_214 : decode cX10_looks 214 = .ok (.iload 4, 2) := by decide +kernel
theorem dX10_looks_216 : decode cX10_looks 216 = .ok (.ishl, 1) := by decide +kernel
theorem dX10_looks_217 : decode cX10_looks 217 = .ok (.ior, 1) := by decide +kernel
theorem dX10_looks_218 : decode cX10_looks 218 = .ok (.invokevirtual 204, 3) := by decide +kernel
theorem dX10_looks_221 : decode cX10_looks 221 = .ok (.ifCond .eq 16, 3) := by decide +kernel
theorem dX10_looks_224 : decode cX10_looks 224 = .ok (.iconst 1, 1) := by decide +kernel
theorem dX10_looks_225 : decode cX10_looks 225 = .ok (.iload_n 2, 1) := by decide +kernel
theorem dX10_looks_226 : decode cX10_looks 226 = .ok (.ishl, 1) := by decide +kernel
theorem dX10_looks_227 : decode cX10_looks 227 = .ok (.iconst 1, 1) := by decide +kernel
theorem dX10_looks_228 : decode cX10_looks 228 = .ok (.iload_n 3, 1) := by decide +kernel
theorem dX10_looks_229 : decode cX10_looks 229 = .ok (.ishl, 1) := by decide +kernel
theorem dX10_looks_230 : decode cX10_looks 230 = .ok (.ior, 1) := by decide +kernel
theorem dX10_looks_231 : decode cX10_looks 231 = .ok (.iconst 1, 1) := by decide +kernel
theorem dX10_looks_232 : decode cX10_looks 232 = .ok (.iload 4, 2) := by decide +kernel
theorem dX10_looks_234 : decode cX10_looks 234 = .ok (.ishl, 1) := by decide +kernel
theorem dX10_looks_235 : decode cX10_looks 235 = .ok (.ior, 1) := by decide +kernel
theorem dX10_looks_236 : decode cX10_looks 236 = .ok (.istore_n 1, 1) := by decide +kernel
theorem dX10_looks_237 : decode cX10_looks 237 = .ok (.iinc 4 1, 3) := by decide +kernel
theorem dX10_looks_240 : decode cX10_looks 240 = .ok (.goto (-45), 3) := by decide +kernel
theorem dX10_looks_243 : decode cX10_looks 243 = .ok (.iinc 3 1, 3) := by decide +kernel
theorem dX10_looks_246 : decode cX10_looks 246 = .ok (.goto (-59), 3) := by decide +kernel
theorem dX10_looks_249 : decode cX10_looks 249 = .ok (.iinc 2 1, 3) := by decide +kernel
theorem dX10_looks_252 : decode cX10_looks 252 = .ok (.goto (-73), 3) := by decide +kernel
theorem dX10_looks_255 : decode cX10_looks 255 = .ok (.iload_n 1, 1) := by decide +kernel
theorem dX10_looks_256 : decode cX10_looks 256 = .ok (.ireturn, 1) := by decide +kernel
theorem dX10_mostMoving_0 : decode cX10_mostMoving 0 = .ok (.iload_n 1, 1) := by decide +kernel
theorem dX10_mostMoving_1 : decode cX10_mostMoving 1 = .ok (.iconst 0, 1) := by decide +kernel
theorem dX10_mostMoving_2 : decode cX10_mostMoving 2 = .ok (.iconst 1, 1) := by decide +kernel
theorem dX10_mostMoving_3 : decode cX10_mostMoving 3 = .ok (.invokestatic 46, 3) := by decide +kernel
theorem dX10_mostMoving_6 : decode cX10_mostMoving 6 = .ok (.ifCond .ne 5, 3) := by decide +kernel
theorem dX10_mostMoving_9 : decode cX10_mostMoving 9 = .ok (.iconst (-1), 1) := by decide +kernel
theorem dX10_mostMoving_10 : decode cX10_mostMoving 10 = .ok (.ireturn, 1) := by decide +kernel
theorem dX10_mostMoving_11 : decode cX10_mostMoving 11 = .ok (.iconst 0, 1) := by decide +kernel
theorem dX10_mostMoving_12 : decode cX10_mostMoving 12 = .ok (.istore_n 2, 1) := by decide +kernel
theorem dX10_mostMoving_13 : decode cX10_mostMoving 13 = .ok (.iconst 1, 1) := by decide +kernel
theorem dX10_mostMoving_14 : decode cX10_mostMoving 14 = .ok (.istore_n 3, 1) := by decide +kernel
theorem dX10_mostMoving_15 : decode cX10_mostMoving 15 = .ok (.iload_n 3, 1) := by decide +kernel
theorem dX10_mostMoving_16 : decode cX10_mostMoving 16 = .ok (.bipush 24, 2) := by decide +kernel
theorem dX10_mostMoving_18 : decode cX10_mostMoving 18 = .ok (.if_icmp .ge 30, 3) := by decide +kernel
theorem dX10_mostMoving_21 : decode cX10_mostMoving 21 = .ok (.aload_n 0, 1) := by decide +kernel
theorem dX10_mostMoving_22 : decode cX10_mostMoving 22 = .ok (.getfield 9, 3) := by decide +kernel
theorem dX10_mostMoving_25 : decode cX10_mostMoving 25 = .ok (.iload_n 3, 1) := by decide +kernel
theorem dX10_mostMoving_26 : decode cX10_mostMoving 26 = .ok (.invokestatic 207, 3) := by decide +kernel
theorem dX10_mostMoving_29 : decode cX10_mostMoving 29 = .ok (.aload_n 0, 1) := by decide +kernel
theorem dX10_mostMoving_30 : decode cX10_mostMoving 30 = .ok (.getfield 9, 3) := by decide +kernel
theorem dX10_mostMoving_33 : decode cX10_mostMoving 33 = .ok (.iload_n 2, 1) := by decide +kernel
theorem dX10_mostMoving_34 : decode cX10_mostMoving 34 = .ok (.invokestatic 207, 3) := by decide +kernel
theorem dX10_mostMoving_37 : decode cX10_mostMoving 37 = .ok (.if_icmp .le 5, 3) := by decide +kernel
theorem dX10_mostMoving_40 : decode cX10_mostMoving 40 = .ok (.iload_n 3, 1) := by decide +kernel
theorem dX10_mostMoving_41 : decode cX10_mostMoving 41 = .ok (.istore_n 2, 1) := by decide +kernel
theorem dX10_mostMoving_42 : decode cX10_mostMoving 42 = .ok (.iinc 3 1, 3) := by decide +kernel
theorem dX10_mostMoving_45 : decode cX10_mostMoving 45 = .ok (.goto (-30), 3) := by decide +kernel
theorem dX10_mostMoving_48 : decode cX10_mostMoving 48 = .ok (.iload_n 1, 1) := by decide +kernel
theorem dX10_mostMoving_49 : decode cX10_mostMoving 49 = .ok (.ifCond .ne 7, 3) := by decide +kernel
theorem dX10_mostMoving_52 : decode cX10_mostMoving 52 = .ok (.iload_n 2, 1) := by decide +kernel
theorem dX10_mostMoving_53 : decode cX10_mostMoving 53 = .ok (.goto 11, 3) := by decide +kernel
theorem dX10_mostMoving_56 : decode cX10_mostMoving 56 = .ok (.aload_n 0, 1) := by decide +kernel
theorem dX10_mostMoving_57 : decode cX10_mostMoving 57 = .ok (.getfield 9, 3) := by decide +kernel
theorem dX10_mostMoving_60 : decode cX10_mostMoving 60 = .ok (.iload_n 2, 1) := by decide +kernel
theorem dX10_mostMoving_61 : decode cX10_mostMoving 61 = .ok (.invokestatic 207, 3) := by decide +kernel
theorem dX10_mostMoving_64 : decode cX10_mostMoving 64 = .ok (.ireturn, 1) := by decide +kernel
theorem dX10_taken_0 : decode cX10_taken 0 = .ok (.iload_n 1, 1) := by decide +kernel
theorem dX10_taken_1 : decode cX10_taken 1 = .ok (.iconst 0, 1) := by decide +kernel
theorem dX10_taken_2 : decode cX10_taken 2 = .ok (.bipush 20, 2) := by decide +kernel
theorem dX10_taken_4 : decode cX10_taken 4 = .ok (.invokestatic 46, 3) := by decide +kernel
theorem dX10_taken_7 : decode cX10_taken 7 = .ok (.ifCond .ne 5, 3) := by decide +kernel
theorem dX10_taken_10 : decode cX10_taken 10 = .ok (.iconst (-1), 1) := by decide +kernel
theorem dX10_taken_11 : decode cX10_taken 11 = .ok (.ireturn, 1) := by decide +kernel
theorem dX10_taken_12 : decode cX10_taken 12 = .ok (.iconst 0, 1) := by decide +kernel
theorem dX10_taken_13 : decode cX10_taken 13 = .ok (.istore_n 2, 1) := by decide +kernel
theorem dX10_taken_14 : decode cX10_taken 14 = .ok (.iconst 0, 1) := by decide +kernel
theorem dX10_taken_15 : decode cX10_taken 15 = .ok (.istore_n 3, 1) := by decide +kernel
theorem dX10_taken_16 : decode cX10_taken 16 = .ok (.iload_n 3, 1) := by decide +kernel
theorem dX10_taken_17 : decode cX10_taken 17 = .ok (.aload_n 0, 1) := by decide +kernel
theorem dX10_taken_18 : decode cX10_taken 18 = .ok (.getfield 9, 3) := by decide +kernel
theorem dX10_taken_21 : decode cX10_taken 21 = .ok (.iconst 0, 1) := by decide +kernel
theorem dX10_taken_22 : decode cX10_taken 22 = .ok (.iaload, 1) := by decide +kernel
theorem dX10_taken_23 : decode cX10_taken 23 = .ok (.if_icmp .ge 65, 3) := by decide +kernel
theorem dX10_taken_26 : decode cX10_taken 26 = .ok (.iload_n 2, 1) := by decide +kernel
theorem dX10_taken_27 : decode cX10_taken 27 = .ok (.aload_n 0, 1) := by decide +kernel
theorem dX10_taken_28 : decode cX10_taken 28 = .ok (.getfield 9, 3) := by decide +kernel
theorem dX10_taken_31 : decode cX10_taken 31 = .ok (.iload_n 3, 1) := by decide +kernel
theorem dX10_taken_32 : decode cX10_taken 32 = .ok (.invokestatic 63, 3) := by decide +kernel
theorem dX10_taken_35 : decode cX10_taken 35 = .ok (.ifCond .eq 44, 3) := by decide +kernel
theorem dX10_taken_38 : decode cX10_taken 38 = .ok (.aload_n 0, 1) := by decide +kernel
theorem dX10_taken_39 : decode cX10_taken 39 = .ok (.getfield 9, 3) := by decide +kernel
theorem dX10_taken_42 : decode cX10_taken 42 = .ok (.iload_n 3, 1) := by decide +kernel
theorem dX10_taken_43 : decode cX10_taken 43 = .ok (.aload_n 0, 1) := by decide +kernel
theorem dX10_taken_44 : decode cX10_taken 44 = .ok (.getfield 9, 3) := by decide +kernel
theorem dX10_taken_47 : decode cX10_taken 47 = .ok (.iconst 1, 1) := by decide +kernel
theorem dX10_taken_48 : decode cX10_taken 48 = .ok (.iaload, 1) := by decide +kernel
theorem dX10_taken_49 : decode cX10_taken 49 = .ok (.invokestatic 162, 3) := by decide +kernel
theorem dX10_taken_52 : decode cX10_taken 52 = .ok (.iload_n 1, 1) := by decide +kernel
theorem dX10_taken_53 : decode cX10_taken 53 = .ok (.if_icmp .lt 26, 3) := by decide +kernel
theorem dX10_taken_56 : decode cX10_taken 56 = .ok (.aload_n 0, 1) := by decide +kernel
theorem dX10_taken_57 : decode cX10_taken 57 = .ok (.getfield 9, 3) := by decide +kernel
theorem dX10_taken_60 : decode cX10_taken 60 = .ok (.iload_n 3, 1) := by decide +kernel
theorem dX10_taken_61 : decode cX10_taken 61 = .ok (.aload_n 0, 1) := by decide +kernel
theorem dX10_taken_62 : decode cX10_taken 62 = .ok (.getfield 9, 3) := by decide +kernel
theorem dX10_taken_65 : decode cX10_taken 65 = .ok (.iconst 1, 1) := by decide +kernel
theorem dX10_taken_66 : decode cX10_taken 66 = .ok (.iaload, 1) := by decide +kernel
theorem dX10_taken_67 : decode cX10_taken 67 = .ok (.invokestatic 83, 3) := by decide +kernel
theorem dX10_taken_70 : decode cX10_taken 70 = .ok (.ifCond .ne 9, 3) := by decide +kernel
theorem dX10_taken_73 : decode cX10_taken 73 = .ok (.iconst 1, 1) := by decide +kernel
theorem dX10_taken_74 : decode cX10_taken 74 = .ok (.iload_n 3, 1) := by decide +kernel
theorem dX10_taken_75 : decode cX10_taken 75 = .ok (.ishl, 1) := by decide +kernel
theorem dX10_taken_76 : decode cX10_taken 76 = .ok (.goto 4, 3) := by decide +kernel
theorem dX10_taken_79 : decode cX10_taken 79 = .ok (.iconst 0, 1) := by decide +kernel
theorem dX10_taken_80 : decode cX10_taken 80 = .ok (.ior, 1) := by decide +kernel
theorem dX10_taken_81 : decode cX10_taken 81 = .ok (.istore_n 2, 1) := by decide +kernel
theorem dX10_taken_82 : decode cX10_taken 82 = .ok (.iinc 3 1, 3) := by decide +kernel
theorem dX10_taken_85 : decode cX10_taken 85 = .ok (.goto (-69), 3) := by decide +kernel
theorem dX10_taken_88 : decode cX10_taken 88 = .ok (.iload_n 2, 1) := by decide +kernel
theorem dX10_taken_89 : decode cX10_taken 89 = .ok (.ireturn, 1) := by decide +kernel
theorem dX10_isPainted_0 : decode cX10_isPainted 0 = .ok (.iload_n 0, 1) := by decide +kernel
theorem dX10_isPainted_1 : decode cX10_isPainted 1 = .ok (.iconst 1, 1) := by decide +kernel
theorem dX10_isPainted_2 : decode cX10_isPainted 2 = .ok (.if_icmp .eq 19, 3) := by decide +kernel
theorem dX10_isPainted_5 : decode cX10_isPainted 5 = .ok (.iload_n 0, 1) := by decide +kernel
theorem dX10_isPainted_6 : decode cX10_isPainted 6 = .ok (.iconst 3, 1) := by decide +kernel
theorem dX10_isPainted_7 : decode cX10_isPainted 7 = .ok (.if_icmp .eq 14, 3) := by decide +kernel
theorem dX10_isPainted_10 : decode cX10_isPainted 10 = .ok (.iload_n 0, 1) := by decide +kernel
theorem dX10_isPainted_11 : decode cX10_isPainted 11 = .ok (.iconst 4, 1) := by decide +kernel
theorem dX10_isPainted_12 : decode cX10_isPainted 12 = .ok (.if_icmp .eq 9, 3) := by decide +kernel
theorem dX10_isPainted_15 : decode cX10_isPainted 15 = .ok (.iload_n 0, 1) := by decide +kernel
theorem dX10_isPainted_16 : decode cX10_isPainted 16 = .ok (.bipush 6, 2) := by decide +kernel
theorem dX10_isPainted_18 : decode cX10_isPainted 18 = .ok (.if_icmp .ne 7, 3) := by decide +kernel
theorem dX10_isPainted_21 : decode cX10_isPainted 21 = .ok (.iconst 1, 1) := by decide +kernel
theorem dX10_isPainted_22 : decode cX10_isPainted 22 = .ok (.goto 4, 3) := by decide +kernel
theorem dX10_isPainted_25 : decode cX10_isPainted 25 = .ok (.iconst 0, 1) := by decide +kernel
theorem dX10_isPainted_26 : decode cX10_isPainted 26 = .ok (.ireturn, 1) := by decide +kernel
theorem dX10_bestHour_0 : decode cX10_bestHour 0 = .ok (.aload_n 0, 1) := by decide +kernel
theorem dX10_bestHour_1 : decode cX10_bestHour 1 = .ok (.iload_n 1, 1) := by decide +kernel
theorem dX10_bestHour_2 : decode cX10_bestHour 2 = .ok (.invokevirtual 141, 3) := by decide +kernel
theorem dX10_bestHour_5 : decode cX10_bestHour 5 = .ok (.ifCond .ne 5, 3) := by decide +kernel
theorem dX10_bestHour_8 : decode cX10_bestHour 8 = .ok (.iconst (-1), 1) := by decide +kernel
theorem dX10_bestHour_9 : decode cX10_bestHour 9 = .ok (.ireturn, 1) := by decide +kernel
theorem dX10_bestHour_10 : decode cX10_bestHour 10 = .ok (.aload_n 0, 1) := by decide +kernel
theorem dX10_bestHour_11 : decode cX10_bestHour 11 = .ok (.getfield 9, 3) := by decide +kernel
theorem dX10_bestHour_14 : decode cX10_bestHour 14 = .ok (.iload_n 1, 1) := by decide +kernel
theorem dX10_bestHour_15 : decode cX10_bestHour 15 = .ok (.iconst 0, 1) := by decide +kernel
theorem dX10_bestHour_16 : decode cX10_bestHour 16 = .ok (.invokestatic 57, 3) := by decide +kernel
theorem dX10_bestHour_19 : decode cX10_bestHour 19 = .ok (.iaload, 1) := by decide +kernel
theorem dX10_bestHour_20 : decode cX10_bestHour 20 = .ok (.istore_n 2, 1) := by decide +kernel
theorem dX10_bestHour_21 : decode cX10_bestHour 21 = .ok (.iload_n 2, 1) := by decide +kernel
theorem dX10_bestHour_22 : decode cX10_bestHour 22 = .ok (.invokestatic 210, 3) := by decide +kernel
theorem dX10_bestHour_25 : decode cX10_bestHour 25 = .ok (.ifCond .ne 6, 3) := by decide +kernel
theorem dX10_bestHour_28 : decode cX10_bestHour 28 = .ok (.bipush (-4), 2) := by decide +kernel
theorem dX10_bestHour_30 : decode cX10_bestHour 30 = .ok (.ireturn, 1) := by decide +kernel
theorem dX10_bestHour_31 : decode cX10_bestHour 31 = .ok (.iconst 0, 1) := by decide +kernel
theorem dX10_bestHour_32 : decode cX10_bestHour 32 = .ok (.istore_n 3, 1) := by decide +kernel
theorem dX10_bestHour_33 : decode cX10_bestHour 33 = .ok (.iconst (-1), 1) := by decide +kernel
theorem dX10_bestHour_34 : decode cX10_bestHour 34 = .ok (.istore 4, 2) := by decide +kernel
theorem dX10_bestHour_36 : decode cX10_bestHour 36 = .ok (.iconst 0, 1) := by decide +kernel
theorem dX10_bestHour_37 : decode cX10_bestHour 37 = .ok (.istore 5, 2) := by decide +kernel
theorem dX10_bestHour_39 : decode cX10_bestHour 39 = .ok (.iload 5, 2) := by decide +kernel
theorem dX10_bestHour_41 : decode cX10_bestHour 41 = .ok (.bipush 24, 2) := by decide +kernel
theorem dX10_bestHour_43 : decode cX10_bestHour 43 = .ok (.if_icmp .ge 54, 3) := by decide +kernel
theorem dX10_bestHour_46 : decode cX10_bestHour 46 = .ok (.iload_n 2, 1) := by decide +kernel
theorem dX10_bestHour_47 : decode cX10_bestHour 47 = .ok (.aload_n 0, 1) := by decide +kernel
theorem dX10_bestHour_48 : decode cX10_bestHour 48 = .ok (.getfield 9, 3) := by decide +kernel
theorem dX10_bestHour_51 : decode cX10_bestHour 51 = .ok (.iload_n 1, 1) := by decide +kernel
theorem dX10_bestHour_52 : decode cX10_bestHour 52 = .ok (.iconst 1, 1) := by decide +kernel
theorem dX10_bestHour_53 : decode cX10_bestHour 53 = .ok (.invokestatic 57, 3) := by decide +kernel
theorem dX10_bestHour_56 : decode cX10_bestHour 56 = .ok (.iaload, 1) := by decide +kernel
theorem dX10_bestHour_57 : decode cX10_bestHour 57 = .ok (.aload_n 0, 1) := by decide +kernel
theorem dX10_bestHour_58 : decode cX10_bestHour 58 = .ok (.getfield 9, 3) := by decide +kernel
theorem dX10_bestHour_61 : decode cX10_bestHour 61 = .ok (.iload_n 1, 1) := by decide +kernel
theorem dX10_bestHour_62 : decode cX10_bestHour 62 = .ok (.iload 5, 2) := by decide +kernel
theorem dX10_bestHour_64 : decode cX10_bestHour 64 = .ok (.invokestatic 67, 3) := by decide +kernel
theorem dX10_bestHour_67 : decode cX10_bestHour 67 = .ok (.iload 5, 2) := by decide +kernel
theorem dX10_bestHour_69 : decode cX10_bestHour 69 = .ok (.invokestatic 79, 3) := by decide +kernel
theorem dX10_bestHour_72 : decode cX10_bestHour 72 = .ok (.istore 6, 2) := by decide +kernel
theorem dX10_bestHour_74 : decode cX10_bestHour 74 = .ok (.iload 6, 2) := by decide +kernel
theorem dX10_bestHour_76 : decode cX10_bestHour 76 = .ok (.iload 4, 2) := by decide +kernel
theorem dX10_bestHour_78 : decode cX10_bestHour 78 = .ok (.if_icmp .gt 6, 3) := by decide +kernel
theorem dX10_bestHour_81 : decode cX10_bestHour 81 = .ok (.goto 10, 3) := by decide +kernel
theorem dX10_bestHour_84 : decode cX10_bestHour 84 = .ok (.iload 5, 2) := by decide +kernel
theorem dX10_bestHour_86 : decode cX10_bestHour 86 = .ok (.istore_n 3, 1) := by decide +kernel
theorem dX10_bestHour_87 : decode cX10_bestHour 87 = .ok (.iload 6, 2) := by decide +kernel
theorem dX10_bestHour_89 : decode cX10_bestHour 89 = .ok (.istore 4, 2) := by decide +kernel
theorem dX10_bestHour_91 : decode cX10_bestHour 91 = .ok (.iinc 5 1, 3) := by decide +kernel
theorem dX10_bestHour_94 : decode cX10_bestHour 94 = .ok (.goto (-55), 3) := by decide +kernel
theorem dX10_bestHour_97 : decode cX10_bestHour 97 = .ok (.iload_n 3, 1) := by decide +kernel
theorem dX10_bestHour_98 : decode cX10_bestHour 98 = .ok (.ireturn, 1) := by decide +kernel
theorem dX10_assessed_0 : decode cX10_assessed 0 = .ok (.iload_n 1, 1) := by decide +kernel
theorem dX10_assessed_1 : decode cX10_assessed 1 = .ok (.ifCond .ne 5, 3) := by decide +kernel
theorem dX10_assessed_4 : decode cX10_assessed 4 = .ok (.iconst 0, 1) := by decide +kernel
theorem dX10_assessed_5 : decode cX10_assessed 5 = .ok (.ireturn, 1) := by decide +kernel
theorem dX10_assessed_6 : decode cX10_assessed 6 = .ok (.iconst (-1), 1) := by decide +kernel
theorem dX10_assessed_7 : decode cX10_assessed 7 = .ok (.istore_n 3, 1) := by decide +kernel
theorem dX10_assessed_8 : decode cX10_assessed 8 = .ok (.bipush (-4), 2) := by decide +kernel
theorem dX10_assessed_10 : decode cX10_assessed 10 = .ok (.istore 4, 2) := by decide +kernel
theorem dX10_assessed_12 : decode cX10_assessed 12 = .ok (.iconst 0, 1) := by decide +kernel
theorem dX10_assessed_13 : decode cX10_assessed 13 = .ok (.istore 5, 2) := by decide +kernel
theorem dX10_assessed_15 : decode cX10_assessed 15 = .ok (.iload 5, 2) := by decide +kernel
theorem dX10_assessed_17 : decode cX10_assessed 17 = .ok (.iconst 4, 1) := by decide +kernel
theorem dX10_assessed_18 : decode cX10_assessed 18 = .ok (.if_icmp .ge 68, 3) := by decide +kernel
theorem dX10_assessed_21 : decode cX10_assessed 21 = .ok (.iload_n 2, 1) := by decide +kernel
theorem dX10_assessed_22 : decode cX10_assessed 22 = .ok (.iload 5, 2) := by decide +kernel
theorem dX10_assessed_24 : decode cX10_assessed 24 = .ok (.invokestatic 183, 3) := by decide +kernel
theorem dX10_assessed_27 : decode cX10_assessed 27 = .ok (.ifCond .eq 6, 3) := by decide +kernel
theorem dX10_assessed_30 : decode cX10_assessed 30 = .ok (.goto 50, 3) := by decide +kernel
theorem dX10_assessed_33 : decode cX10_assessed 33 = .ok (.aload_n 0, 1) := by decide +kernel
theorem dX10_assessed_34 : decode cX10_assessed 34 = .ok (.getfield 13, 3) := by decide +kernel
theorem dX10_assessed_37 : decode cX10_assessed 37 = .ok (.bipush 6, 2) := by decide +kernel
theorem dX10_assessed_39 : decode cX10_assessed 39 = .ok (.iload 5, 2) := by decide +kernel
theorem dX10_assessed_41 : decode cX10_assessed 41 = .ok (.imul, 1) := by decide +kernel
theorem dX10_assessed_42 : decode cX10_assessed 42 = .ok (.invokestatic 104, 3) := by decide +kernel
theorem dX10_assessed_45 : decode cX10_assessed 45 = .ok (.aload_n 0, 1) := by decide +kernel
theorem dX10_assessed_46 : decode cX10_assessed 46 = .ok (.iload_n 1, 1) := by decide +kernel
theorem dX10_assessed_47 : decode cX10_assessed 47 = .ok (.iconst 1, 1) := by decide +kernel
theorem dX10_assessed_48 : decode cX10_assessed 48 = .ok (.isub, 1) := by decide +kernel
theorem dX10_assessed_49 : decode cX10_assessed 49 = .ok (.iload_n 2, 1) := by decide +kernel
theorem dX10_assessed_50 : decode cX10_assessed 50 = .ok (.iconst 1, 1) := by decide +kernel
theorem dX10_assessed_51 : decode cX10_assessed 51 = .ok (.iload 5, 2) := by decide +kernel
theorem dX10_assessed_53 : decode cX10_assessed 53 = .ok (.ishl, 1) := by decide +kernel
theorem dX10_assessed_54 : decode cX10_assessed 54 = .ok (.ior, 1) := by decide +kernel
theorem dX10_assessed_55 : decode cX10_assessed 55 = .ok (.invokevirtual 213, 3) := by decide +kernel
theorem dX10_assessed_58 : decode cX10_assessed 58 = .ok (.iadd, 1) := by decide +kernel
theorem dX10_assessed_59 : decode cX10_assessed 59 = .ok (.istore 6, 2) := by decide +kernel
theorem dX10_assessed_61 : decode cX10_assessed 61 = .ok (.iload 6, 2) := by decide +kernel
theorem dX10_assessed_63 : decode cX10_assessed 63 = .ok (.iload_n 3, 1) := by decide +kernel
theorem dX10_assessed_64 : decode cX10_assessed 64 = .ok (.if_icmp .gt 6, 3) := by decide +kernel
theorem dX10_assessed_67 : decode cX10_assessed 67 = .ok (.goto 13, 3) := by decide +kernel
theorem dX10_assessed_70 : decode cX10_assessed 70 = .ok (.iload 6, 2) := by decide +kernel
theorem dX10_assessed_72 : decode cX10_assessed 72 = .ok (.istore_n 3, 1) := by decide +kernel
theorem dX10_assessed_73 : decode cX10_assessed 73 = .ok (.bipush 6, 2) := by decide +kernel
theorem dX10_assessed_75 : decode cX10_assessed 75 = .ok (.iload 5, 2) := by decide +kernel
theorem dX10_assessed_77 : decode cX10_assessed 77 = .ok (.imul, 1) := by decide +kernel
theorem dX10_assessed_78 : decode cX10_assessed 78 = .ok (.istore 4, 2) := by decide +kernel
theorem dX10_assessed_80 : decode cX10_assessed 80 = .ok (.iinc 5 1, 3) := by decide +kernel
theorem dX10_assessed_83 : decode cX10_assessed 83 = .ok (.goto (-68), 3) := by decide +kernel
theorem dX10_assessed_86 : decode cX10_assessed 86 = .ok (.aload_n 0, 1) := by decide +kernel
theorem dX10_assessed_87 : decode cX10_assessed 87 = .ok (.iload 4, 2) := by decide +kernel
theorem dX10_assessed_89 : decode cX10_assessed 89 = .ok (.putfield 216, 3) := by decide +kernel
theorem dX10_assessed_92 : decode cX10_assessed 92 = .ok (.iload_n 3, 1) := by decide +kernel
theorem dX10_assessed_93 : decode cX10_assessed 93 = .ok (.ireturn, 1) := by decide +kernel
theorem dX10_answered_0 : decode cX10_answered 0 = .ok (.aload_n 0, 1) := by decide +kernel
theorem dX10_answered_1 : decode cX10_answered 1 = .ok (.iload_n 1, 1) := by decide +kernel
theorem dX10_answered_2 : decode cX10_answered 2 = .ok (.iload_n 2, 1) := by decide +kernel
theorem dX10_answered_3 : decode cX10_answered 3 = .ok (.invokevirtual 219, 3) := by decide +kernel
theorem dX10_answered_6 : decode cX10_answered 6 = .ok (.istore_n 3, 1) := by decide +kernel
theorem dX10_answered_7 : decode cX10_answered 7 = .ok (.iconst 0, 1) := by decide +kernel
theorem dX10_answered_8 : decode cX10_answered 8 = .ok (.istore 4, 2) := by decide +kernel
theorem dX10_answered_10 : decode cX10_answered 10 = .ok (.iload 4, 2) := by decide +kernel
theorem dX10_answered_12 : decode cX10_answered 12 = .ok (.aload_n 0, 1) := by decide +kernel
theorem dX10_answered_13 : decode cX10_answered 13 = .ok (.getfield 9, 3) := by decide +kernel
theorem dX10_answered_16 : decode cX10_answered 16 = .ok (.iconst 0, 1) := by decide +kernel
theorem dX10_answered_17 : decode cX10_answered 17 = .ok (.iaload, 1) := by decide +kernel
theorem dX10_answered_18 : decode cX10_answered 18 = .ok (.if_icmp .ge 63, 3) := by decide +kernel
theorem dX10_answered_21 : decode cX10_answered 21 = .ok (.iload_n 1, 1) := by decide +kernel
theorem dX10_answered_22 : decode cX10_answered 22 = .ok (.ifCond .le 59, 3) := by decide +kernel
theorem dX10_answered_25 : decode cX10_answered 25 = .ok (.aload_n 0, 1) := by decide +kernel
theorem dX10_answered_26 : decode cX10_answered 26 = .ok (.getfield 13, 3) := by decide +kernel
theorem dX10_answered_29 : decode cX10_answered 29 = .ok (.iload 4, 2) := by decide +kernel
theorem dX10_answered_31 : decode cX10_answered 31 = .ok (.invokestatic 63, 3) := by decide +kernel
theorem dX10_answered_34 : decode cX10_answered 34 = .ok (.ifCond .ne 6, 3) := by decide +kernel
theorem dX10_answered_37 : decode cX10_answered 37 = .ok (.goto 38, 3) := by decide +kernel
theorem dX10_answered_40 : decode cX10_answered 40 = .ok (.aload_n 0, 1) := by decide +kernel
theorem dX10_answered_41 : decode cX10_answered 41 = .ok (.getfield 13, 3) := by decide +kernel
theorem dX10_answered_44 : decode cX10_answered 44 = .ok (.iload 4, 2) := by decide +kernel
theorem dX10_answered_46 : decode cX10_answered 46 = .ok (.iconst 4, 1) := by decide +kernel
theorem dX10_answered_47 : decode cX10_answered 47 = .ok (.invokestatic 57, 3) := by decide +kernel
theorem dX10_answered_50 : decode cX10_answered 50 = .ok (.iconst 1, 1) := by decide +kernel
theorem dX10_answered_51 : decode cX10_answered 51 = .ok (.iastore, 1) := by decide +kernel
theorem dX10_answered_52 : decode cX10_answered 52 = .ok (.iload_n 3, 1) := by decide +kernel
theorem dX10_answered_53 : decode cX10_answered 53 = .ok (.aload_n 0, 1) := by decide +kernel
theorem dX10_answered_54 : decode cX10_answered 54 = .ok (.iload_n 1, 1) := by decide +kernel
theorem dX10_answered_55 : decode cX10_answered 55 = .ok (.iload_n 2, 1) := by decide +kernel
theorem dX10_answered_56 : decode cX10_answered 56 = .ok (.invokevirtual 219, 3) := by decide +kernel
theorem dX10_answered_59 : decode cX10_answered 59 = .ok (.invokestatic 50, 3) := by decide +kernel
theorem dX10_answered_62 : decode cX10_answered 62 = .ok (.istore_n 3, 1) := by decide +kernel
theorem dX10_answered_63 : decode cX10_answered 63 = .ok (.aload_n 0, 1) := by decide +kernel
theorem dX10_answered_64 : decode cX10_answered 64 = .ok (.getfield 13, 3) := by decide +kernel
theorem dX10_answered_67 : decode cX10_answered 67 = .ok (.iload 4, 2) := by decide +kernel
theorem dX10_answered_69 : decode cX10_answered 69 = .ok (.iconst 4, 1) := by decide +kernel
theorem dX10_answered_70 : decode cX10_answered 70 = .ok (.invokestatic 57, 3) := by decide +kernel
theorem dX10_answered_73 : decode cX10_answered 73 = .ok (.iconst 0, 1) := by decide +kernel
theorem dX10_answered_74 : decode cX10_answered 74 = .ok (.iastore, 1) := by decide +kernel
theorem dX10_answered_75 : decode cX10_answered 75 = .ok (.iinc 4 1, 3) := by decide +kernel
theorem dX10_answered_78 : decode cX10_answered 78 = .ok (.goto (-68), 3) := by decide +kernel
theorem dX10_answered_81 : decode cX10_answered 81 = .ok (.iload_n 3, 1) := by decide +kernel
theorem dX10_answered_82 : decode cX10_answered 82 = .ok (.ireturn, 1) := by decide +kernel
theorem dX10_game_0 : decode cX10_game 0 = .ok (.iload_n 1, 1) := by decide +kernel
theorem dX10_game_1 : decode cX10_game 1 = .ok (.iconst 0, 1) := by decide +kernel
theorem dX10_game_2 : decode cX10_game 2 = .ok (.iconst 4, 1) := by decide +kernel
theorem dX10_game_3 : decode cX10_game 3 = .ok (.invokestatic 46, 3) := by decide +kernel
theorem dX10_game_6 : decode cX10_game 6 = .ok (.ifCond .eq 12, 3) := by decide +kernel
theorem dX10_game_9 : decode cX10_game 9 = .ok (.iload_n 2, 1) := by decide +kernel
theorem dX10_game_10 : decode cX10_game 10 = .ok (.iconst 0, 1) := by decide +kernel
theorem dX10_game_11 : decode cX10_game 11 = .ok (.iconst 1, 1) := by decide +kernel
theorem dX10_game_12 : decode cX10_game 12 = .ok (.invokestatic 46, 3) := by decide +kernel
theorem dX10_game_15 : decode cX10_game 15 = .ok (.ifCond .ne 5, 3) := by decide +kernel
theorem dX10_game_18 : decode cX10_game 18 = .ok (.iconst (-1), 1) := by decide +kernel
theorem dX10_game_19 : decode cX10_game 19 = .ok (.ireturn, 1) := by decide +kernel
theorem dX10_game_20 : decode cX10_game 20 = .ok (.aload_n 0, 1) := by decide +kernel
theorem dX10_game_21 : decode cX10_game 21 = .ok (.getfield 9, 3) := by decide +kernel
theorem dX10_game_24 : decode cX10_game 24 = .ok (.aload_n 0, 1) := by decide +kernel
theorem dX10_game_25 : decode cX10_game 25 = .ok (.getfield 13, 3) := by decide +kernel
theorem dX10_game_28 : decode cX10_game 28 = .ok (.invokestatic 155, 3) := by decide +kernel
theorem dX10_game_31 : decode cX10_game 31 = .ok (.aload_n 0, 1) := by decide +kernel
theorem dX10_game_32 : decode cX10_game 32 = .ok (.bipush (-4), 2) := by decide +kernel
theorem dX10_game_34 : decode cX10_game 34 = .ok (.putfield 216, 3) := by decide +kernel
theorem dX10_game_37 : decode cX10_game 37 = .ok (.aload_n 0, 1) := by decide +kernel
theorem dX10_game_38 : decode cX10_game 38 = .ok (.iload_n 1, 1) := by decide +kernel
theorem dX10_game_39 : decode cX10_game 39 = .ok (.iconst 0, 1) := by decide +kernel
theorem dX10_game_40 : decode cX10_game 40 = .ok (.invokevirtual 219, 3) := by decide +kernel
theorem dX10_game_43 : decode cX10_game 43 = .ok (.istore_n 3, 1) := by decide +kernel
theorem dX10_game_44 : decode cX10_game 44 = .ok (.iload_n 2, 1) := by decide +kernel
theorem dX10_game_45 : decode cX10_game 45 = .ok (.ifCond .ne 7, 3) := by decide +kernel
theorem dX10_game_48 : decode cX10_game 48 = .ok (.iload_n 3, 1) := by decide +kernel
theorem dX10_game_49 : decode cX10_game 49 = .ok (.goto 16, 3) := by decide +kernel
theorem dX10_game_52 : decode cX10_game 52 = .ok (.iload_n 1, 1) := by decide +kernel
theorem dX10_game_53 : decode cX10_game 53 = .ok (.ifCond .ne 8, 3) := by decide +kernel
theorem dX10_game_56 : decode cX10_game 56 = .ok (.bipush (-4), 2) := by decide +kernel
theorem dX10_game_58 : decode cX10_game 58 = .ok (.goto 7, 3) := by decide +kernel
theorem dX10_game_61 : decode cX10_game 61 = .ok (.aload_n 0, 1) := by decide +kernel
theorem dX10_game_62 : decode cX10_game 62 = .ok (.getfield 216, 3) := by decide +kernel
theorem dX10_game_65 : decode cX10_game 65 = .ok (.ireturn, 1) := by decide +kernel
theorem dX10_addressed_0 : decode cX10_addressed 0 = .ok (.bipush (-4), 2) := by decide +kernel
theorem dX10_addressed_2 : decode cX10_addressed 2 = .ok (.istore_n 2, 1) := by decide +kernel
theorem dX10_addressed_3 : decode cX10_addressed 3 = .ok (.iconst 0, 1) := by decide +kernel
theorem dX10_addressed_4 : decode cX10_addressed 4 = .ok (.istore_n 3, 1) := by decide +kernel
theorem dX10_addressed_5 : decode cX10_addressed 5 = .ok (.iload_n 3, 1) := by decide +kernel
theorem dX10_addressed_6 : decode cX10_addressed 6 = .ok (.aload_n 0, 1) := by decide +kernel
theorem dX10_addressed_7 : decode cX10_addressed 7 = .ok (.getfield 9, 3) := by decide +kernel
theorem dX10_addressed_10 : decode cX10_addressed 10 = .ok (.iconst 0, 1) := by decide +kernel
theorem dX10_addressed_11 : decode cX10_addressed 11 = .ok (.iaload, 1) := by decide +kernel
theorem dX10_addressed_12 : decode cX10_addressed 12 = .ok (.if_icmp .ge 86, 3) := by decide +kernel
theorem dX10_addressed_15 : decode cX10_addressed 15 = .ok (.aload_n 0, 1) := by decide +kernel
theorem dX10_addressed_16 : decode cX10_addressed 16 = .ok (.getfield 9, 3) := by decide +kernel
theorem dX10_addressed_19 : decode cX10_addressed 19 = .ok (.iload_n 3, 1) := by decide +kernel
theorem dX10_addressed_20 : decode cX10_addressed 20 = .ok (.iload_n 1, 1) := by decide +kernel
theorem dX10_addressed_21 : decode cX10_addressed 21 = .ok (.invokestatic 162, 3) := by decide +kernel
theorem dX10_addressed_24 : decode cX10_addressed 24 = .ok (.istore 4, 2) := by decide +kernel
theorem dX10_addressed_26 : decode cX10_addressed 26 = .ok (.iload 4, 2) := by decide +kernel
theorem dX10_addressed_28 : decode cX10_addressed 28 = .ok (.ifCond .ne 6, 3) := by decide +kernel
theorem dX10_addressed_31 : decode cX10_addressed 31 = .ok (.goto 61, 3) := by decide +kernel
theorem dX10_addressed_34 : decode cX10_addressed 34 = .ok (.iload_n 2, 1) := by decide +kernel
theorem dX10_addressed_35 : decode cX10_addressed 35 = .ok (.ifCond .ge 7, 3) := by decide +kernel
theorem dX10_addressed_38 : decode cX10_addressed 38 = .ok (.iconst 0, 1) := by decide +kernel
theorem dX10_addressed_39 : decode cX10_addressed 39 = .ok (.goto 12, 3) := by decide +kernel
theorem dX10_addressed_42 : decode cX10_addressed 42 = .ok (.aload_n 0, 1) := by decide +kernel
theorem dX10_addressed_43 : decode cX10_addressed 43 = .ok (.getfield 9, 3) := by decide +kernel
theorem dX10_addressed_46 : decode cX10_addressed 46 = .ok (.iload_n 2, 1) := by decide +kernel
theorem dX10_addressed_47 : decode cX10_addressed 47 = .ok (.iload_n 1, 1) := by decide +kernel
theorem dX10_addressed_48 : decode cX10_addressed 48 = .ok (.invokestatic 162, 3) := by decide +kernel
theorem dX10_addressed_51 : decode cX10_addressed 51 = .ok (.istore 5, 2) := by decide +kernel
theorem dX10_addressed_53 : decode cX10_addressed 53 = .ok (.iload 4, 2) := by decide +kernel
theorem dX10_addressed_55 : decode cX10_addressed 55 = .ok (.iload 5, 2) := by decide +kernel
theorem dX10_addressed_57 : decode cX10_addressed 57 = .ok (.if_icmp .gt 33, 3) := by decide +kernel
theorem dX10_addressed_60 : decode cX10_addressed 60 = .ok (.iload 4, 2) := by decide +kernel
theorem dX10_addressed_62 : decode cX10_addressed 62 = .ok (.iload 5, 2) := by decide +kernel
theorem dX10_addressed_64 : decode cX10_addressed 64 = .ok (.if_icmp .ne 28, 3) := by decide +kernel
theorem dX10_addressed_67 : decode cX10_addressed 67 = .ok (.aload_n 0, 1) := by decide +kernel
theorem dX10_addressed_68 : decode cX10_addressed 68 = .ok (.getfield 9, 3) := by decide +kernel
theorem dX10_addressed_71 : decode cX10_addressed 71 = .ok (.iload_n 3, 1) := by decide +kernel
theorem dX10_addressed_72 : decode cX10_addressed 72 = .ok (.iconst 1, 1) := by decide +kernel
theorem dX10_addressed_73 : decode cX10_addressed 73 = .ok (.invokestatic 57, 3) := by decide +kernel
theorem dX10_addressed_76 : decode cX10_addressed 76 = .ok (.iaload, 1) := by decide +kernel
theorem dX10_addressed_77 : decode cX10_addressed 77 = .ok (.aload_n 0, 1) := by decide +kernel
theorem dX10_addressed_78 : decode cX10_addressed 78 = .ok (.getfield 9, 3) := by decide +kernel
theorem dX10_addressed_81 : decode cX10_addressed 81 = .ok (.iload_n 2, 1) := by decide +kernel
theorem dX10_addressed_82 : decode cX10_addressed 82 = .ok (.iconst 1, 1) := by decide +kernel
theorem dX10_addressed_83 : decode cX10_addressed 83 = .ok (.invokestatic 57, 3) := by decide +kernel
theorem dX10_addressed_86 : decode cX10_addressed 86 = .ok (.iaload, 1) := by decide +kernel
theorem dX10_addressed_87 : decode cX10_addressed 87 = .ok (.if_icmp .le 5, 3) := by decide +kernel
theorem dX10_addressed_90 : decode cX10_addressed 90 = .ok (.iload_n 3, 1) := by decide +kernel
theorem dX10_addressed_91 : decode cX10_addressed 91 = .ok (.istore_n 2, 1) := by decide +kernel
theorem dX10_addressed_92 : decode cX10_addressed 92 = .ok (.iinc 3 1, 3) := by decide +kernel
theorem dX10_addressed_95 : decode cX10_addressed 95 = .ok (.goto (-90), 3) := by decide +kernel
theorem dX10_addressed_98 : decode cX10_addressed 98 = .ok (.iload_n 2, 1) := by decide +kernel
theorem dX10_addressed_99 : decode cX10_addressed 99 = .ok (.ireturn, 1) := by decide +kernel
theorem dX10_suitor_0 : decode cX10_suitor 0 = .ok (.iload_n 1, 1) := by decide +kernel
theorem dX10_suitor_1 : decode cX10_suitor 1 = .ok (.iconst 0, 1) := by decide +kernel
theorem dX10_suitor_2 : decode cX10_suitor 2 = .ok (.iconst 1, 1) := by decide +kernel
theorem dX10_suitor_3 : decode cX10_suitor 3 = .ok (.invokestatic 46, 3) := by decide +kernel
theorem dX10_suitor_6 : decode cX10_suitor 6 = .ok (.ifCond .ne 5, 3) := by decide +kernel
theorem dX10_suitor_9 : decode cX10_suitor 9 = .ok (.iconst (-1), 1) := by decide +kernel
theorem dX10_suitor_10 : decode cX10_suitor 10 = .ok (.ireturn, 1) := by decide +kernel
theorem dX10_suitor_11 : decode cX10_suitor 11 = .ok (.aload_n 0, 1) := by decide +kernel
theorem dX10_suitor_12 : decode cX10_suitor 12 = .ok (.aload_n 0, 1) := by decide +kernel
theorem dX10_suitor_13 : decode cX10_suitor 13 = .ok (.getfield 9, 3) := by decide +kernel
theorem dX10_suitor_16 : decode cX10_suitor 16 = .ok (.iconst 1, 1) := by decide +kernel
theorem dX10_suitor_17 : decode cX10_suitor 17 = .ok (.iaload, 1) := by decide +kernel
theorem dX10_suitor_18 : decode cX10_suitor 18 = .ok (.invokevirtual 222, 3) := by decide +kernel
theorem dX10_suitor_21 : decode cX10_suitor 21 = .ok (.istore_n 2, 1) := by decide +kernel
theorem dX10_suitor_22 : decode cX10_suitor 22 = .ok (.iload_n 1, 1) := by decide +kernel
theorem dX10_suitor_23 : decode cX10_suitor 23 = .ok (.ifCond .eq 7, 3) := by decide +kernel
theorem dX10_suitor_26 : decode cX10_suitor 26 = .ok (.iload_n 2, 1) := by decide +kernel
theorem dX10_suitor_27 : decode cX10_suitor 27 = .ok (.ifCond .ge 5, 3) := by decide +kernel
theorem dX10_suitor_30 : decode cX10_suitor 30 = .ok (.iload_n 2, 1) := by decide +kernel
theorem dX10_suitor_31 : decode cX10_suitor 31 = .ok (.ireturn, 1) := by decide +kernel
theorem dX10_suitor_32 : decode cX10_suitor 32 = .ok (.iconst 0, 1) := by decide +kernel
theorem dX10_suitor_33 : decode cX10_suitor 33 = .ok (.istore_n 3, 1) := by decide +kernel
theorem dX10_suitor_34 : decode cX10_suitor 34 = .ok (.iload_n 3, 1) := by decide +kernel
theorem dX10_suitor_35 : decode cX10_suitor 35 = .ok (.bipush 24, 2) := by decide +kernel
theorem dX10_suitor_37 : decode cX10_suitor 37 = .ok (.if_icmp .ge 39, 3) := by decide +kernel
theorem dX10_suitor_40 : decode cX10_suitor 40 = .ok (.aload_n 0, 1) := by decide +kernel
theorem dX10_suitor_41 : decode cX10_suitor 41 = .ok (.aload_n 0, 1) := by decide +kernel
theorem dX10_suitor_42 : decode cX10_suitor 42 = .ok (.getfield 9, 3) := by decide +kernel
theorem dX10_suitor_45 : decode cX10_suitor 45 = .ok (.iconst 1, 1) := by decide +kernel
theorem dX10_suitor_46 : decode cX10_suitor 46 = .ok (.iaload, 1) := by decide +kernel
theorem dX10_suitor_47 : decode cX10_suitor 47 = .ok (.iload_n 3, 1) := by decide +kernel
theorem dX10_suitor_48 : decode cX10_suitor 48 = .ok (.iadd, 1) := by decide +kernel
theorem dX10_suitor_49 : decode cX10_suitor 49 = .ok (.bipush 24, 2) := by decide +kernel
theorem dX10_suitor_51 : decode cX10_suitor 51 = .ok (.irem, 1) := by decide +kernel
theorem dX10_suitor_52 : decode cX10_suitor 52 = .ok (.invokevirtual 222, 3) := by decide +kernel
theorem dX10_suitor_55 : decode cX10_suitor 55 = .ok (.istore 4, 2) := by decide +kernel
theorem dX10_suitor_57 : decode cX10_suitor 57 = .ok (.iload 4, 2) := by decide +kernel
theorem dX10_suitor_59 : decode cX10_suitor 59 = .ok (.ifCond .lt 11, 3) := by decide +kernel
theorem dX10_suitor_62 : decode cX10_suitor 62 = .ok (.iload 4, 2) := by decide +kernel
theorem dX10_suitor_64 : decode cX10_suitor 64 = .ok (.iload_n 2, 1) := by decide +kernel
theorem dX10_suitor_65 : decode cX10_suitor 65 = .ok (.if_icmp .eq 5, 3) := by decide +kernel
theorem dX10_suitor_68 : decode cX10_suitor 68 = .ok (.iload_n 3, 1) := by decide +kernel
theorem dX10_suitor_69 : decode cX10_suitor 69 = .ok (.ireturn, 1) := by decide +kernel
theorem dX10_suitor_70 : decode cX10_suitor 70 = .ok (.iinc 3 1, 3) := by decide +kernel
theorem dX10_suitor_73 : decode cX10_suitor 73 = .ok (.goto (-39), 3) := by decide +kernel
theorem dX10_suitor_76 : decode cX10_suitor 76 = .ok (.bipush (-4), 2) := by decide +kernel
theorem dX10_suitor_78 : decode cX10_suitor 78 = .ok (.ireturn, 1) := by decide +kernel
theorem dX10_areTwins_0 : decode cX10_areTwins 0 = .ok (.iconst 0, 1) := by decide +kernel
theorem dX10_areTwins_1 : decode cX10_areTwins 1 = .ok (.istore_n 3, 1) := by decide +kernel
theorem dX10_areTwins_2 : decode cX10_areTwins 2 = .ok (.iload_n 3, 1) := by decide +kernel
theorem dX10_areTwins_3 : decode cX10_areTwins 3 = .ok (.bipush 24, 2) := by decide +kernel
theorem dX10_areTwins_5 : decode cX10_areTwins 5 = .ok (.if_icmp .ge 53, 3) := by decide +kernel
theorem dX10_areTwins_8 : decode cX10_areTwins 8 = .ok (.aload_n 0, 1) := by decide +kernel
theorem dX10_areTwins_9 : decode cX10_areTwins 9 = .ok (.getfield 9, 3) := by decide +kernel
theorem dX10_areTwins_12 : decode cX10_areTwins 12 = .ok (.iload_n 1, 1) := by decide +kernel
theorem dX10_areTwins_13 : decode cX10_areTwins 13 = .ok (.iload_n 3, 1) := by decide +kernel
theorem dX10_areTwins_14 : decode cX10_areTwins 14 = .ok (.invokestatic 83, 3) := by decide +kernel
theorem dX10_areTwins_17 : decode cX10_areTwins 17 = .ok (.aload_n 0, 1) := by decide +kernel
theorem dX10_areTwins_18 : decode cX10_areTwins 18 = .ok (.getfield 9, 3) := by decide +kernel
theorem dX10_areTwins_21 : decode cX10_areTwins 21 = .ok (.iload_n 2, 1) := by decide +kernel
theorem dX10_areTwins_22 : decode cX10_areTwins 22 = .ok (.iload_n 3, 1) := by decide +kernel
theorem dX10_areTwins_23 : decode cX10_areTwins 23 = .ok (.invokestatic 83, 3) := by decide +kernel
theorem dX10_areTwins_26 : decode cX10_areTwins 26 = .ok (.if_icmp .ne 24, 3) := by decide +kernel
theorem dX10_areTwins_29 : decode cX10_areTwins 29 = .ok (.aload_n 0, 1) := by decide +kernel
theorem dX10_areTwins_30 : decode cX10_areTwins 30 = .ok (.getfield 9, 3) := by decide +kernel
theorem dX10_areTwins_33 : decode cX10_areTwins 33 = .ok (.iload_n 1, 1) := by decide +kernel
theorem dX10_areTwins_34 : decode cX10_areTwins 34 = .ok (.iload_n 3, 1) := by decide +kernel
theorem dX10_areTwins_35 : decode cX10_areTwins 35 = .ok (.invokestatic 95, 3) := by decide +kernel
theorem dX10_areTwins_38 : decode cX10_areTwins 38 = .ok (.aload_n 0, 1) := by decide +kernel
theorem dX10_areTwins_39 : decode cX10_areTwins 39 = .ok (.getfield 9, 3) := by decide +kernel
theorem dX10_areTwins_42 : decode cX10_areTwins 42 = .ok (.iload_n 2, 1) := by decide +kernel
theorem dX10_areTwins_43 : decode cX10_areTwins 43 = .ok (.iload_n 3, 1) := by decide +kernel
theorem dX10_areTwins_44 : decode cX10_areTwins 44 = .ok (.invokestatic 95, 3) := by decide +kernel
theorem dX10_areTwins_47 : decode cX10_areTwins 47 = .ok (.if_icmp .eq 5, 3) := by decide +kernel
theorem dX10_areTwins_50 : decode cX10_areTwins 50 = .ok (.iconst 0, 1) := by decide +kernel
theorem dX10_areTwins_51 : decode cX10_areTwins 51 = .ok (.ireturn, 1) := by decide +kernel
theorem dX10_areTwins_52 : decode cX10_areTwins 52 = .ok (.iinc 3 1, 3) := by decide +kernel
theorem dX10_areTwins_55 : decode cX10_areTwins 55 = .ok (.goto (-53), 3) := by decide +kernel
theorem dX10_areTwins_58 : decode cX10_areTwins 58 = .ok (.iconst 1, 1) := by decide +kernel
theorem dX10_areTwins_59 : decode cX10_areTwins 59 = .ok (.ireturn, 1) := by decide +kernel
theorem dX10_twins_0 : decode cX10_twins 0 = .ok (.iload_n 1, 1) := by decide +kernel
theorem dX10_twins_1 : decode cX10_twins 1 = .ok (.iconst 0, 1) := by decide +kernel
theorem dX10_twins_2 : decode cX10_twins 2 = .ok (.iconst 1, 1) := by decide +kernel
theorem dX10_twins_3 : decode cX10_twins 3 = .ok (.invokestatic 46, 3) := by decide +kernel
theorem dX10_twins_6 : decode cX10_twins 6 = .ok (.ifCond .ne 5, 3) := by decide +kernel
theorem dX10_twins_9 : decode cX10_twins 9 = .ok (.iconst (-1), 1) := by decide +kernel
theorem dX10_twins_10 : decode cX10_twins 10 = .ok (.ireturn, 1) := by decide +kernel
theorem dX10_twins_11 : decode cX10_twins 11 = .ok (.iconst 0, 1) := by decide +kernel
theorem dX10_twins_12 : decode cX10_twins 12 = .ok (.istore_n 2, 1) := by decide +kernel
theorem dX10_twins_13 : decode cX10_twins 13 = .ok (.bipush (-4), 2) := by decide +kernel
theorem dX10_twins_15 : decode cX10_twins 15 = .ok (.istore_n 3, 1) := by decide +kernel
theorem dX10_twins_16 : decode cX10_twins 16 = .ok (.iconst 0, 1) := by decide +kernel
theorem dX10_twins_17 : decode cX10_twins 17 = .ok (.istore 4, 2) := by decide +kernel
theorem dX10_twins_19 : decode cX10_twins 19 = .ok (.iload 4, 2) := by decide +kernel
theorem dX10_twins_21 : decode cX10_twins 21 = .ok (.aload_n 0, 1) := by decide +kernel
theorem dX10_twins_22 : decode cX10_twins 22 = .ok (.getfield 9, 3) := by decide +kernel
theorem dX10_twins_25 : decode cX10_twins 25 = .ok (.iconst 0, 1) := by decide +kernel
theorem dX10_twins_26 : decode cX10_twins 26 = .ok (.iaload, 1) := by decide +kernel
theorem dX10_twins_27 : decode cX10_twins 27 = .ok (.if_icmp .ge 66, 3) := by decide +kernel
theorem dX10_twins_30 : decode cX10_twins 30 = .ok (.iload 4, 2) := by decide +kernel
theorem dX10_twins_32 : decode cX10_twins 32 = .ok (.iconst 1, 1) := by decide +kernel
theorem dX10_twins_33 : decode cX10_twins 33 = .ok (.iadd, 1) := by decide +kernel
theorem dX10_twins_34 : decode cX10_twins 34 = .ok (.istore 5, 2) := by decide +kernel
theorem dX10_twins_36 : decode cX10_twins 36 = .ok (.iload 5, 2) := by decide +kernel
theorem dX10_twins_38 : decode cX10_twins 38 = .ok (.aload_n 0, 1) := by decide +kernel
theorem dX10_twins_39 : decode cX10_twins 39 = .ok (.getfield 9, 3) := by decide +kernel
theorem dX10_twins_42 : decode cX10_twins 42 = .ok (.iconst 0, 1) := by decide +kernel
theorem dX10_twins_43 : decode cX10_twins 43 = .ok (.iaload, 1) := by decide +kernel
theorem dX10_twins_44 : decode cX10_twins 44 = .ok (.if_icmp .ge 43, 3) := by decide +kernel
theorem dX10_twins_47 : decode cX10_twins 47 = .ok (.aload_n 0, 1) := by decide +kernel
theorem dX10_twins_48 : decode cX10_twins 48 = .ok (.iload 4, 2) := by decide +kernel
theorem dX10_twins_50 : decode cX10_twins 50 = .ok (.iload 5, 2) := by decide +kernel
theorem dX10_twins_52 : decode cX10_twins 52 = .ok (.invokevirtual 225, 3) := by decide +kernel
theorem dX10_twins_55 : decode cX10_twins 55 = .ok (.ifCond .ne 6, 3) := by decide +kernel
theorem dX10_twins_58 : decode cX10_twins 58 = .ok (.goto 23, 3) := by decide +kernel
theorem dX10_twins_61 : decode cX10_twins 61 = .ok (.iload_n 2, 1) := by decide +kernel
theorem dX10_twins_62 : decode cX10_twins 62 = .ok (.ifCond .ne 14, 3) := by decide +kernel
theorem dX10_twins_65 : decode cX10_twins 65 = .ok (.bipush 10, 2) := by decide +kernel
theorem dX10_twins_67 : decode cX10_twins 67 = .ok (.iload 4, 2) := by decide +kernel
theorem dX10_twins_69 : decode cX10_twins 69 = .ok (.imul, 1) := by decide +kernel
theorem dX10_twins_70 : decode cX10_twins 70 = .ok (.iload 5, 2) := by decide +kernel
theorem dX10_twins_72 : decode cX10_twins 72 = .ok (.iadd, 1) := by decide +kernel
theorem dX10_twins_73 : decode cX10_twins 73 = .ok (.goto 4, 3) := by decide +kernel
theorem dX10_twins_76 : decode cX10_twins 76 = .ok (.iload_n 3, 1) := by decide +kernel
theorem dX10_twins_77 : decode cX10_twins 77 = .ok (.istore_n 3, 1) := by decide +kernel
theorem dX10_twins_78 : decode cX10_twins 78 = .ok (.iinc 2 1, 3) := by decide +kernel
theorem dX10_twins_81 : decode cX10_twins 81 = .ok (.iinc 5 1, 3) := by decide +kernel
theorem dX10_twins_84 : decode cX10_twins 84 = .ok (.goto (-48), 3) := by decide +kernel
theorem dX10_twins_87 : decode cX10_twins 87 = .ok (.iinc 4 1, 3) := by decide +kernel
theorem dX10_twins_90 : decode cX10_twins 90 = .ok (.goto (-71), 3) := by decide +kernel
theorem dX10_twins_93 : decode cX10_twins 93 = .ok (.iload_n 1, 1) := by decide +kernel
theorem dX10_twins_94 : decode cX10_twins 94 = .ok (.ifCond .ne 7, 3) := by decide +kernel
theorem dX10_twins_97 : decode cX10_twins 97 = .ok (.iload_n 2, 1) := by decide +kernel
theorem dX10_twins_98 : decode cX10_twins 98 = .ok (.goto 4, 3) := by decide +kernel
theorem dX10_twins_101 : decode cX10_twins 101 = .ok (.iload_n 3, 1) := by decide +kernel
theorem dX10_twins_102 : decode cX10_twins 102 = .ok (.ireturn, 1) := by decide +kernel
theorem dX10_leastOf_0 : decode cX10_leastOf 0 = .ok (.iload_n 0, 1) := by decide +kernel
theorem dX10_leastOf_1 : decode cX10_leastOf 1 = .ok (.ifCond .ne 8, 3) := by decide +kernel
theorem dX10_leastOf_4 : decode cX10_leastOf 4 = .ok (.bipush (-128), 2) := by decide +kernel
theorem dX10_leastOf_6 : decode cX10_leastOf 6 = .ok (.goto 16, 3) := by decide +kernel
theorem dX10_leastOf_9 : decode cX10_leastOf 9 = .ok (.iload_n 0, 1) := by decide +kernel
theorem dX10_leastOf_10 : decode cX10_leastOf 10 = .ok (.iconst 1, 1) := by decide +kernel
theorem dX10_leastOf_11 : decode cX10_leastOf 11 = .ok (.if_icmp .ne 9, 3) := by decide +kernel
theorem dX10_leastOf_14 : decode cX10_leastOf 14 = .ok (.sipush (-32768), 3) := by decide +kernel
theorem dX10_leastOf_17 : decode cX10_leastOf 17 = .ok (.goto 5, 3) := by decide +kernel
theorem dX10_leastOf_20 : decode cX10_leastOf 20 = .ok (.ldc 228, 2) := by decide +kernel
theorem dX10_leastOf_22 : decode cX10_leastOf 22 = .ok (.ireturn, 1) := by decide +kernel
theorem dX10_whatWas_0 : decode cX10_whatWas 0 = .ok (.iload_n 2, 1) := by decide +kernel
theorem dX10_whatWas_1 : decode cX10_whatWas 1 = .ok (.iconst 0, 1) := by decide +kernel
theorem dX10_whatWas_2 : decode cX10_whatWas 2 = .ok (.bipush 9, 2) := by decide +kernel
theorem dX10_whatWas_4 : decode cX10_whatWas 4 = .ok (.invokestatic 46, 3) := by decide +kernel
theorem dX10_whatWas_7 : decode cX10_whatWas 7 = .ok (.ifCond .eq 20, 3) := by decide +kernel
theorem dX10_whatWas_10 : decode cX10_whatWas 10 = .ok (.iload_n 3, 1) := by decide +kernel
theorem dX10_whatWas_11 : decode cX10_whatWas 11 = .ok (.invokestatic 134, 3) := by decide +kernel
theorem dX10_whatWas_14 : decode cX10_whatWas 14 = .ok (.ifCond .eq 13, 3) := by decide +kernel
theorem dX10_whatWas_17 : decode cX10_whatWas 17 = .ok (.iload 4, 2) := by decide +kernel
theorem dX10_whatWas_19 : decode cX10_whatWas 19 = .ok (.iconst 0, 1) := by decide +kernel
theorem dX10_whatWas_20 : decode cX10_whatWas 20 = .ok (.iconst 1, 1) := by decide +kernel
theorem dX10_whatWas_21 : decode cX10_whatWas 21 = .ok (.invokestatic 46, 3) := by decide +kernel
theorem dX10_whatWas_24 : decode cX10_whatWas 24 = .ok (.ifCond .ne 5, 3) := by decide +kernel
theorem dX10_whatWas_27 : decode cX10_whatWas 27 = .ok (.iconst (-1), 1) := by decide +kernel
theorem dX10_whatWas_28 : decode cX10_whatWas 28 = .ok (.ireturn, 1) := by decide +kernel
theorem dX10_whatWas_29 : decode cX10_whatWas 29 = .ok (.aload_n 0, 1) := by decide +kernel
theorem dX10_whatWas_30 : decode cX10_whatWas 30 = .ok (.iload_n 1, 1) := by decide +kernel
theorem dX10_whatWas_31 : decode cX10_whatWas 31 = .ok (.iconst (-1), 1) := by decide +kernel
theorem dX10_whatWas_32 : decode cX10_whatWas 32 = .ok (.invokevirtual 148, 3) := by decide +kernel
theorem dX10_whatWas_35 : decode cX10_whatWas 35 = .ok (.istore 5, 2) := by decide +kernel
theorem dX10_whatWas_37 : decode cX10_whatWas 37 = .ok (.iload 5, 2) := by decide +kernel
theorem dX10_whatWas_39 : decode cX10_whatWas 39 = .ok (.ifCond .ne 18, 3) := by decide +kernel
theorem dX10_whatWas_42 : decode cX10_whatWas 42 = .ok (.aload_n 0, 1) := by decide +kernel
theorem dX10_whatWas_43 : decode cX10_whatWas 43 = .ok (.getfield 40, 3) := by decide +kernel
theorem dX10_whatWas_46 : decode cX10_whatWas 46 = .ok (.iload_n 1, 1) := by decide +kernel
theorem dX10_whatWas_47 : decode cX10_whatWas 47 = .ok (.iaload, 1) := by decide +kernel
theorem dX10_whatWas_48 : decode cX10_whatWas 48 = .ok (.bipush 24, 2) := by decide +kernel
theorem dX10_whatWas_50 : decode cX10_whatWas 50 = .ok (.if_icmp .le 7, 3) := by decide +kernel
theorem dX10_whatWas_53 : decode cX10_whatWas 53 = .ok (.bipush (-13), 2) := by decide +kernel
theorem dX10_whatWas_55 : decode cX10_whatWas 55 = .ok (.istore 5, 2) := by decide +kernel
theorem dX10_whatWas_57 : decode cX10_whatWas 57 = .ok (.iload 5, 2) := by decide +kernel
theorem dX10_whatWas_59 : decode cX10_whatWas 59 = .ok (.ifCond .eq 6, 3) := by decide +kernel
theorem dX10_whatWas_62 : decode cX10_whatWas 62 = .ok (.iload 5, 2) := by decide +kernel
theorem dX10_whatWas_64 : decode cX10_whatWas 64 = .ok (.ireturn, 1) := by decide +kernel
theorem dX10_whatWas_65 : decode cX10_whatWas 65 = .ok (.iconst 0, 1) := by decide +kernel
theorem dX10_whatWas_66 : decode cX10_whatWas 66 = .ok (.istore 6, 2) := by decide +kernel
theorem dX10_whatWas_68 : decode cX10_whatWas 68 = .ok (.iconst 0, 1) := by decide +kernel
theorem dX10_whatWas_69 : decode cX10_whatWas 69 = .ok (.istore 7, 2) := by decide +kernel
theorem dX10_whatWas_71 : decode cX10_whatWas 71 = .ok (.iload 7, 2) := by decide +kernel
theorem dX10_whatWas_73 : decode cX10_whatWas 73 = .ok (.bipush 8, 2) := by decide +kernel
theorem dX10_whatWas_75 : decode cX10_whatWas 75 = .ok (.if_icmp .ge 105, 3) := by decide +kernel
theorem dX10_whatWas_78 : decode cX10_whatWas 78 = .ok (.iconst 1, 1) := by decide +kernel
theorem dX10_whatWas_79 : decode cX10_whatWas 79 = .ok (.istore 8, 2) := by decide +kernel
theorem dX10_whatWas_81 : decode cX10_whatWas 81 = .ok (.iconst 0, 1) := by decide +kernel
theorem dX10_whatWas_82 : decode cX10_whatWas 82 = .ok (.istore 9, 2) := by decide +kernel
theorem dX10_whatWas_84 : decode cX10_whatWas 84 = .ok (.iload 9, 2) := by decide +kernel
theorem dX10_whatWas_86 : decode cX10_whatWas 86 = .ok (.aload_n 0, 1) := by decide +kernel
theorem dX10_whatWas_87 : decode cX10_whatWas 87 = .ok (.getfield 40, 3) := by decide +kernel
theorem dX10_whatWas_90 : decode cX10_whatWas 90 = .ok (.iload_n 1, 1) := by decide +kernel
theorem dX10_whatWas_91 : decode cX10_whatWas 91 = .ok (.iaload, 1) := by decide +kernel
theorem dX10_whatWas_92 : decode cX10_whatWas 92 = .ok (.if_icmp .ge 64, 3) := by decide +kernel
theorem dX10_whatWas_95 : decode cX10_whatWas 95 = .ok (.aload_n 0, 1) := by decide +kernel
theorem dX10_whatWas_96 : decode cX10_whatWas 96 = .ok (.getfield 43, 3) := by decide +kernel
theorem dX10_whatWas_99 : decode cX10_whatWas 99 = .ok (.bipush 100, 2) := by decide +kernel
theorem dX10_whatWas_101 : decode cX10_whatWas 101 = .ok (.iload_n 1, 1) := by decide +kernel
theorem dX10_whatWas_102 : decode cX10_whatWas 102 = .ok (.imul, 1) := by decide +kernel
theorem dX10_whatWas_103 : decode cX10_whatWas 103 = .ok (.iload 9, 2) := by decide +kernel
theorem dX10_whatWas_105 : decode cX10_whatWas 105 = .ok (.iadd, 1) := by decide +kernel
theorem dX10_whatWas_106 : decode cX10_whatWas 106 = .ok (.iaload, 1) := by decide +kernel
theorem dX10_whatWas_107 : decode cX10_whatWas 107 = .ok (.istore 10, 2) := by decide +kernel
theorem dX10_whatWas_109 : decode cX10_whatWas 109 = .ok (.iload 8, 2) := by decide +kernel
theorem dX10_whatWas_111 : decode cX10_whatWas 111 = .ok (.iload 10, 2) := by decide +kernel
theorem dX10_whatWas_113 : decode cX10_whatWas 113 = .ok (.aload_n 0, 1) := by decide +kernel
theorem dX10_whatWas_114 : decode cX10_whatWas 114 = .ok (.getfield 37, 3) := by decide +kernel
theorem dX10_whatWas_117 : decode cX10_whatWas 117 = .ok (.iload_n 1, 1) := by decide +kernel
theorem dX10_whatWas_118 : decode cX10_whatWas 118 = .ok (.iaload, 1) := by decide +kernel
theorem dX10_whatWas_119 : decode cX10_whatWas 119 = .ok (.invokestatic 229, 3) := by decide +kernel
theorem dX10_whatWas_122 : decode cX10_whatWas 122 = .ok (.if_icmp .eq 20, 3) := by decide +kernel
theorem dX10_whatWas_125 : decode cX10_whatWas 125 = .ok (.iload 10, 2) := by decide +kernel
theorem dX10_whatWas_127 : decode cX10_whatWas 127 = .ok (.iload 7, 2) := by decide +kernel
theorem dX10_whatWas_129 : decode cX10_whatWas 129 = .ok (.iload_n 2, 1) := by decide +kernel
theorem dX10_whatWas_130 : decode cX10_whatWas 130 = .ok (.iload 9, 2) := by decide +kernel
theorem dX10_whatWas_132 : decode cX10_whatWas 132 = .ok (.iload_n 3, 1) := by decide +kernel
theorem dX10_whatWas_133 : decode cX10_whatWas 133 = .ok (.invokestatic 60, 3) := by decide +kernel
theorem dX10_whatWas_136 : decode cX10_whatWas 136 = .ok (.invokestatic 71, 3) := by decide +kernel
theorem dX10_whatWas_139 : decode cX10_whatWas 139 = .ok (.if_icmp .ne 7, 3) := by decide +kernel
theorem dX10_whatWas_142 : decode cX10_whatWas 142 = .ok (.iconst 1, 1) := by decide +kernel
theorem dX10_whatWas_143 : decode cX10_whatWas 143 = .ok (.goto 4, 3) := by decide +kernel
theorem dX10_whatWas_146 : decode cX10_whatWas 146 = .ok (.iconst 0, 1) := by decide +kernel
theorem dX10_whatWas_147 : decode cX10_whatWas 147 = .ok (.iand, 1) := by decide +kernel
theorem dX10_whatWas_148 : decode cX10_whatWas 148 = .ok (.istore 8, 2) := by decide +kernel
theorem dX10_whatWas_150 : decode cX10_whatWas 150 = .ok (.iinc 9 1, 3) := by decide +kernel
theorem dX10_whatWas_153 : decode cX10_whatWas 153 = .ok (.goto (-69), 3) := by decide +kernel
theorem dX10_whatWas_156 : decode cX10_whatWas 156 = .ok (.iload 6, 2) := by decide +kernel
theorem dX10_whatWas_158 : decode cX10_whatWas 158 = .ok (.iload 8, 2) := by decide +kernel
theorem dX10_whatWas_160 : decode cX10_whatWas 160 = .ok (.ifCond .eq 10, 3) := by decide +kernel
theorem dX10_whatWas_163 : decode cX10_whatWas 163 = .ok (.iconst 1, 1) := by decide +kernel
theorem dX10_whatWas_164 : decode cX10_whatWas 164 = .ok (.iload 7, 2) := by decide +kernel
theorem dX10_whatWas_166 : decode cX10_whatWas 166 = .ok (.ishl, 1) := by decide +kernel
theorem dX10_whatWas_167 : decode cX10_whatWas 167 = .ok (.goto 4, 3) := by decide +kernel
theorem dX10_whatWas_170 : decode cX10_whatWas 170 = .ok (.iconst 0, 1) := by decide +kernel
theorem dX10_whatWas_171 : decode cX10_whatWas 171 = .ok (.ior, 1) := by decide +kernel
theorem dX10_whatWas_172 : decode cX10_whatWas 172 = .ok (.istore 6, 2) := by decide +kernel
theorem dX10_whatWas_174 : decode cX10_whatWas 174 = .ok (.iinc 7 1, 3) := by decide +kernel
theorem dX10_whatWas_177 : decode cX10_whatWas 177 = .ok (.goto (-106), 3) := by decide +kernel
theorem dX10_whatWas_180 : decode cX10_whatWas 180 = .ok (.iload 4, 2) := by decide +kernel
theorem dX10_whatWas_182 : decode cX10_whatWas 182 = .ok (.ifCond .ne 8, 3) := by decide +kernel
theorem dX10_whatWas_185 : decode cX10_whatWas 185 = .ok (.iload 6, 2) := by decide +kernel
theorem dX10_whatWas_187 : decode cX10_whatWas 187 = .ok (.goto 8, 3) := by decide +kernel
theorem dX10_whatWas_190 : decode cX10_whatWas 190 = .ok (.iload 6, 2) := by decide +kernel
theorem dX10_whatWas_192 : decode cX10_whatWas 192 = .ok (.invokestatic 186, 3) := by decide +kernel
theorem dX10_whatWas_195 : decode cX10_whatWas 195 = .ok (.ireturn, 1) := by decide +kernel
theorem dX10_paidOff_0 : decode cX10_paidOff 0 = .ok (.iload_n 1, 1) := by decide +kernel
theorem dX10_paidOff_1 : decode cX10_paidOff 1 = .ok (.iconst 0, 1) := by decide +kernel
theorem dX10_paidOff_2 : decode cX10_paidOff 2 = .ok (.sipush 999, 3) := by decide +kernel
theorem dX10_paidOff_5 : decode cX10_paidOff 5 = .ok (.invokestatic 46, 3) := by decide +kernel
theorem dX10_paidOff_8 : decode cX10_paidOff 8 = .ok (.ifCond .ne 5, 3) := by decide +kernel
theorem dX10_paidOff_11 : decode cX10_paidOff 11 = .ok (.iconst (-1), 1) := by decide +kernel
theorem dX10_paidOff_12 : decode cX10_paidOff 12 = .ok (.ireturn, 1) := by decide +kernel
theorem dX10_paidOff_13 : decode cX10_paidOff 13 = .ok (.aload_n 0, 1) := by decide +kernel
theorem dX10_paidOff_14 : decode cX10_paidOff 14 = .ok (.getfield 9, 3) := by decide +kernel
theorem dX10_paidOff_17 : decode cX10_paidOff 17 = .ok (.aload_n 0, 1) := by decide +kernel
theorem dX10_paidOff_18 : decode cX10_paidOff 18 = .ok (.getfield 13, 3) := by decide +kernel
theorem dX10_paidOff_21 : decode cX10_paidOff 21 = .ok (.invokestatic 155, 3) := by decide +kernel
theorem dX10_paidOff_24 : decode cX10_paidOff 24 = .ok (.iconst 0, 1) := by decide +kernel
theorem dX10_paidOff_25 : decode cX10_paidOff 25 = .ok (.istore_n 2, 1) := by decide +kernel
theorem dX10_paidOff_26 : decode cX10_paidOff 26 = .ok (.iload_n 2, 1) := by decide +kernel
theorem dX10_paidOff_27 : decode cX10_paidOff 27 = .ok (.bipush 60, 2) := by decide +kernel
theorem dX10_paidOff_29 : decode cX10_paidOff 29 = .ok (.if_icmp .gt 45, 3) := by decide +kernel
theorem dX10_paidOff_32 : decode cX10_paidOff 32 = .ok (.aload_n 0, 1) := by decide +kernel
theorem dX10_paidOff_33 : decode cX10_paidOff 33 = .ok (.getfield 13, 3) := by decide +kernel
theorem dX10_paidOff_36 : decode cX10_paidOff 36 = .ok (.iconst 3, 1) := by decide +kernel
theorem dX10_paidOff_37 : decode cX10_paidOff 37 = .ok (.iaload, 1) := by decide +kernel
theorem dX10_paidOff_38 : decode cX10_paidOff 38 = .ok (.ifCond .ne 5, 3) := by decide +kernel
theorem dX10_paidOff_41 : decode cX10_paidOff 41 = .ok (.iload_n 2, 1) := by decide +kernel
theorem dX10_paidOff_42 : decode cX10_paidOff 42 = .ok (.ireturn, 1) := by decide +kernel
theorem dX10_paidOff_43 : decode cX10_paidOff 43 = .ok (.aload_n 0, 1) := by decide +kernel
theorem dX10_paidOff_44 : decode cX10_paidOff 44 = .ok (.getfield 13, 3) := by decide +kernel
theorem dX10_paidOff_47 : decode cX10_paidOff 47 = .ok (.invokestatic 126, 3) := by decide +kernel
theorem dX10_paidOff_50 : decode cX10_paidOff 50 = .ok (.aload_n 0, 1) := by decide +kernel
theorem dX10_paidOff_51 : decode cX10_paidOff 51 = .ok (.getfield 13, 3) := by decide +kernel
theorem dX10_paidOff_54 : decode cX10_paidOff 54 = .ok (.iconst 3, 1) := by decide +kernel
theorem dX10_paidOff_55 : decode cX10_paidOff 55 = .ok (.iconst 0, 1) := by decide +kernel
theorem dX10_paidOff_56 : decode cX10_paidOff 56 = .ok (.aload_n 0, 1) := by decide +kernel
theorem dX10_paidOff_57 : decode cX10_paidOff 57 = .ok (.getfield 13, 3) := by decide +kernel
theorem dX10_paidOff_60 : decode cX10_paidOff 60 = .ok (.iconst 3, 1) := by decide +kernel
theorem dX10_paidOff_61 : decode cX10_paidOff 61 = .ok (.iaload, 1) := by decide +kernel
theorem dX10_paidOff_62 : decode cX10_paidOff 62 = .ok (.iload_n 1, 1) := by decide +kernel
theorem dX10_paidOff_63 : decode cX10_paidOff 63 = .ok (.isub, 1) := by decide +kernel
theorem dX10_paidOff_64 : decode cX10_paidOff 64 = .ok (.invokestatic 54, 3) := by decide +kernel
theorem dX10_paidOff_67 : decode cX10_paidOff 67 = .ok (.iastore, 1) := by decide +kernel
theorem dX10_paidOff_68 : decode cX10_paidOff 68 = .ok (.iinc 2 1, 3) := by decide +kernel
theorem dX10_paidOff_71 : decode cX10_paidOff 71 = .ok (.goto (-45), 3) := by decide +kernel
theorem dX10_paidOff_74 : decode cX10_paidOff 74 = .ok (.bipush (-4), 2) := by decide +kernel
theorem dX10_paidOff_76 : decode cX10_paidOff 76 = .ok (.ireturn, 1) := by decide +kernel
theorem dX10_rain_0 : decode cX10_rain 0 = .ok (.iload_n 1, 1) := by decide +kernel
theorem dX10_rain_1 : decode cX10_rain 1 = .ok (.iconst 2, 1) := by decide +kernel
theorem dX10_rain_2 : decode cX10_rain 2 = .ok (.bipush 20, 2) := by decide +kernel
theorem dX10_rain_4 : decode cX10_rain 4 = .ok (.invokestatic 46, 3) := by decide +kernel
theorem dX10_rain_7 : decode cX10_rain 7 = .ok (.ifCond .eq 33, 3) := by decide +kernel
theorem dX10_rain_10 : decode cX10_rain 10 = .ok (.iload_n 2, 1) := by decide +kernel
theorem dX10_rain_11 : decode cX10_rain 11 = .ok (.iconst 0, 1) := by decide +kernel
theorem dX10_rain_12 : decode cX10_rain 12 = .ok (.bipush 8, 2) := by decide +kernel
theorem dX10_rain_14 : decode cX10_rain 14 = .ok (.invokestatic 46, 3) := by decide +kernel
theorem dX10_rain_17 : decode cX10_rain 17 = .ok (.ifCond .eq 23, 3) := by decide +kernel
theorem dX10_rain_20 : decode cX10_rain 20 = .ok (.iload_n 3, 1) := by decide +kernel
theorem dX10_rain_21 : decode cX10_rain 21 = .ok (.iconst 0, 1) := by decide +kernel
theorem dX10_rain_22 : decode cX10_rain 22 = .ok (.bipush 8, 2) := by decide +kernel
theorem dX10_rain_24 : decode cX10_rain 24 = .ok (.invokestatic 46, 3) := by decide +kernel
theorem dX10_rain_27 : decode cX10_rain 27 = .ok (.ifCond .eq 13, 3) := by decide +kernel
theorem dX10_rain_30 : decode cX10_rain 30 = .ok (.iload 4, 2) := by decide +kernel
theorem dX10_rain_32 : decode cX10_rain 32 = .ok (.iconst 0, 1) := by decide +kernel
theorem dX10_rain_33 : decode cX10_rain 33 = .ok (.iconst 1, 1) := by decide +kernel
theorem dX10_rain_34 : decode cX10_rain 34 = .ok (.invokestatic 46, 3) := by decide +kernel
theorem dX10_rain_37 : decode cX10_rain 37 = .ok (.ifCond .ne 7, 3) := by decide +kernel
theorem dX10_rain_40 : decode cX10_rain 40 = .ok (.ldc2_w 193, 3) := by decide +kernel
theorem dX10_rain_43 : decode cX10_rain 43 = .ok (.lreturn, 1) := by decide +kernel
theorem dX10_rain_44 : decode cX10_rain 44 = .ok (.lconst 0, 1) := by decide +kernel
theorem dX10_rain_45 : decode cX10_rain 45 = .ok (.lstore 5, 2) := by decide +kernel
theorem dX10_rain_47 : decode cX10_rain 47 = .ok (.lconst 1, 1) := by decide +kernel
theorem dX10_rain_48 : decode cX10_rain 48 = .ok (.lstore 7, 2) := by decide +kernel
theorem dX10_rain_50 : decode cX10_rain 50 = .ok (.iconst 0, 1) := by decide +kernel
theorem dX10_rain_51 : decode cX10_rain 51 = .ok (.istore 9, 2) := by decide +kernel
theorem dX10_rain_53 : decode cX10_rain 53 = .ok (.iload 9, 2) := by decide +kernel
theorem dX10_rain_55 : decode cX10_rain 55 = .ok (.iload_n 2, 1) := by decide +kernel
theorem dX10_rain_56 : decode cX10_rain 56 = .ok (.if_icmp .ge 16, 3) := by decide +kernel
theorem dX10_rain_59 : decode cX10_rain 59 = .ok (.lload 7, 2) := by decide +kernel
theorem dX10_rain_61 : decode cX10_rain 61 = .ok (.iload_n 1, 1) := by decide +kernel
theorem dX10_rain_62 : decode cX10_rain 62 = .ok (.i2l, 1) := by decide +kernel
theorem dX10_rain_63 : decode cX10_rain 63 = .ok (.lmul, 1) := by decide +kernel
theorem dX10_rain_64 : decode cX10_rain 64 = .ok (.lstore 7, 2) := by decide +kernel
theorem dX10_rain_66 : decode cX10_rain 66 = .ok (.iinc 9 1, 3) := by decide +kernel
theorem dX10_rain_69 : decode cX10_rain 69 = .ok (.goto (-16), 3) := by decide +kernel
theorem dX10_rain_72 : decode cX10_rain 72 = .ok (.iconst 0, 1) := by decide +kernel
theorem dX10_rain_73 : decode cX10_rain 73 = .ok (.istore 9, 2) := by decide +kernel
theorem dX10_rain_75 : decode cX10_rain 75 = .ok (.iload 9, 2) := by decide +kernel
theorem dX10_rain_77 : decode cX10_rain 77 = .ok (.iconst 1, 1) := by decide +kernel
theorem dX10_rain_78 : decode cX10_rain 78 = .ok (.iload_n 2, 1) := by decide +kernel
theorem dX10_rain_79 : decode cX10_rain 79 = .ok (.ishl, 1) := by decide +kernel
theorem dX10_rain_80 : decode cX10_rain 80 = .ok (.if_icmp .ge 60, 3) := by decide +kernel
theorem dX10_rain_83 : decode cX10_rain 83 = .ok (.lconst 1, 1) := by decide +kernel
theorem dX10_rain_84 : decode cX10_rain 84 = .ok (.lstore 10, 2) := by decide +kernel
theorem dX10_rain_86 : decode cX10_rain 86 = .ok (.iload 9, 2) := by decide +kernel
theorem dX10_rain_88 : decode cX10_rain 88 = .ok (.invokestatic 186, 3) := by decide +kernel
theorem dX10_rain_91 : decode cX10_rain 91 = .ok (.istore 12, 2) := by decide +kernel
theorem dX10_rain_93 : decode cX10_rain 93 = .ok (.iload 12, 2) := by decide +kernel
theorem dX10_rain_95 : decode cX10_rain 95 = .ok (.iload_n 2, 1) := by decide +kernel
theorem dX10_rain_96 : decode cX10_rain 96 = .ok (.if_icmp .ge 18, 3) := by decide +kernel
theorem dX10_rain_99 : decode cX10_rain 99 = .ok (.lload 10, 2) := by decide +kernel
theorem dX10_rain_101 : decode cX10_rain 101 = .ok (.iload_n 1, 1) := by decide +kernel
theorem dX10_rain_102 : decode cX10_rain 102 = .ok (.iconst 1, 1) := by decide +kernel
theorem dX10_rain_103 : decode cX10_rain 103 = .ok (.isub, 1) := by decide +kernel
theorem dX10_rain_104 : decode cX10_rain 104 = .ok (.i2l, 1) := by decide +kernel
theorem dX10_rain_105 : decode cX10_rain 105 = .ok (.lmul, 1) := by decide +kernel
theorem dX10_rain_106 : decode cX10_rain 106 = .ok (.lstore 10, 2) := by decide +kernel
theorem dX10_rain_108 : decode cX10_rain 108 = .ok (.iinc 12 1, 3) := by decide +kernel
theorem dX10_rain_111 : decode cX10_rain 111 = .ok (.goto (-18), 3) := by decide +kernel
theorem dX10_rain_114 : decode cX10_rain 114 = .ok (.lload 5, 2) := by decide +kernel
theorem dX10_rain_116 : decode cX10_rain 116 = .ok (.iload 9, 2) := by decide +kernel
theorem dX10_rain_118 : decode cX10_rain 118 = .ok (.invokestatic 186, 3) := by decide +kernel
theorem dX10_rain_121 : decode cX10_rain 121 = .ok (.iload_n 3, 1) := by decide +kernel
theorem dX10_rain_122 : decode cX10_rain 122 = .ok (.if_icmp .lt 8, 3) := by decide +kernel
theorem dX10_rain_125 : decode cX10_rain 125 = .ok (.lload 10, 2) := by decide +kernel
theorem dX10_rain_127 : decode cX10_rain 127 = .ok (.goto 4, 3) := by decide +kernel
theorem dX10_rain_130 : decode cX10_rain 130 = .ok (.lconst 0, 1) := by decide +kernel
theorem dX10_rain_131 : decode cX10_rain 131 = .ok (.ladd, 1) := by decide +kernel
theorem dX10_rain_132 : decode cX10_rain 132 = .ok (.lstore 5, 2) := by decide +kernel
theorem dX10_rain_134 : decode cX10_rain 134 = .ok (.iinc 9 1, 3) := by decide +kernel
theorem dX10_rain_137 : decode cX10_rain 137 = .ok (.goto (-62), 3) := by decide +kernel
theorem dX10_rain_140 : decode cX10_rain 140 = .ok (.lload 5, 2) := by decide +kernel
theorem dX10_rain_142 : decode cX10_rain 142 = .ok (.lload 7, 2) := by decide +kernel
theorem dX10_rain_144 : decode cX10_rain 144 = .ok (.iload 4, 2) := by decide +kernel
theorem dX10_rain_146 : decode cX10_rain 146 = .ok (.invokestatic 197, 3) := by decide +kernel
theorem dX10_rain_149 : decode cX10_rain 149 = .ok (.lreturn, 1) := by decide +kernel
theorem dX10_loophole_0 : decode cX10_loophole 0 = .ok (.bipush (-4), 2) := by decide +kernel
theorem dX10_loophole_2 : decode cX10_loophole 2 = .ok (.istore_n 1, 1) := by decide +kernel
theorem dX10_loophole_3 : decode cX10_loophole 3 = .ok (.aload_n 0, 1) := by decide +kernel
theorem dX10_loophole_4 : decode cX10_loophole 4 = .ok (.getfield 9, 3) := by decide +kernel
theorem dX10_loophole_7 : decode cX10_loophole 7 = .ok (.invokestatic 100, 3) := by decide +kernel
theorem dX10_loophole_10 : decode cX10_loophole 10 = .ok (.istore_n 2, 1) := by decide +kernel
theorem dX10_loophole_11 : decode cX10_loophole 11 = .ok (.iconst 0, 1) := by decide +kernel
theorem dX10_loophole_12 : decode cX10_loophole 12 = .ok (.istore_n 3, 1) := by decide +kernel
theorem dX10_loophole_13 : decode cX10_loophole 13 = .ok (.iload_n 3, 1) := by decide +kernel
theorem dX10_loophole_14 : decode cX10_loophole 14 = .ok (.aload_n 0, 1) := by decide +kernel
theorem dX10_loophole_15 : decode cX10_loophole 15 = .ok (.getfield 9, 3) := by decide +kernel
theorem dX10_loophole_18 : decode cX10_loophole 18 = .ok (.iconst 0, 1) := by decide +kernel
theorem dX10_loophole_19 : decode cX10_loophole 19 = .ok (.iaload, 1) := by decide +kernel
theorem dX10_loophole_20 : decode cX10_loophole 20 = .ok (.if_icmp .ge 148, 3) := by decide +kernel
theorem dX10_loophole_23 : decode cX10_loophole 23 = .ok (.iconst 0, 1) := by decide +kernel
theorem dX10_loophole_24 : decode cX10_loophole 24 = .ok (.istore 4, 2) := by decide +kernel
theorem dX10_loophole_26 : decode cX10_loophole 26 = .ok (.iload 4, 2) := by decide +kernel
theorem dX10_loophole_28 : decode cX10_loophole 28 = .ok (.bipush 8, 2) := by decide +kernel
theorem dX10_loophole_30 : decode cX10_loophole 30 = .ok (.if_icmp .ge 132, 3) := by decide +kernel
theorem dX10_loophole_33 : decode cX10_loophole 33 = .ok (.aload_n 0, 1) := by decide +kernel
theorem dX10_loophole_34 : decode cX10_loophole 34 = .ok (.getfield 9, 3) := by decide +kernel
theorem dX10_loophole_37 : decode cX10_loophole 37 = .ok (.aload_n 0, 1) := by decide +kernel
theorem dX10_loophole_38 : decode cX10_loophole 38 = .ok (.getfield 13, 3) := by decide +kernel
theorem dX10_loophole_41 : decode cX10_loophole 41 = .ok (.invokestatic 155, 3) := by decide +kernel
theorem dX10_loophole_44 : decode cX10_loophole 44 = .ok (.aload_n 0, 1) := by decide +kernel
theorem dX10_loophole_45 : decode cX10_loophole 45 = .ok (.getfield 13, 3) := by decide +kernel
theorem dX10_loophole_48 : decode cX10_loophole 48 = .ok (.iload_n 3, 1) := by decide +kernel
theorem dX10_loophole_49 : decode cX10_loophole 49 = .ok (.iconst 0, 1) := by decide +kernel
theorem dX10_loophole_50 : decode cX10_loophole 50 = .ok (.invokestatic 57, 3) := by decide +kernel
theorem dX10_loophole_53 : decode cX10_loophole 53 = .ok (.iload 4, 2) := by decide +kernel
theorem dX10_loophole_55 : decode cX10_loophole 55 = .ok (.iastore, 1) := by decide +kernel
theorem dX10_loophole_56 : decode cX10_loophole 56 = .ok (.aload_n 0, 1) := by decide +kernel
theorem dX10_loophole_57 : decode cX10_loophole 57 = .ok (.getfield 13, 3) := by decide +kernel
theorem dX10_loophole_60 : decode cX10_loophole 60 = .ok (.invokestatic 100, 3) := by decide +kernel
theorem dX10_loophole_63 : decode cX10_loophole 63 = .ok (.iload_n 2, 1) := by decide +kernel
theorem dX10_loophole_64 : decode cX10_loophole 64 = .ok (.if_icmp .ge 7, 3) := by decide +kernel
theorem dX10_loophole_67 : decode cX10_loophole 67 = .ok (.iconst 1, 1) := by decide +kernel
theorem dX10_loophole_68 : decode cX10_loophole 68 = .ok (.goto 4, 3) := by decide +kernel
theorem dX10_loophole_71 : decode cX10_loophole 71 = .ok (.iconst 0, 1) := by decide +kernel
theorem dX10_loophole_72 : decode cX10_loophole 72 = .ok (.istore 5, 2) := by decide +kernel
theorem dX10_loophole_74 : decode cX10_loophole 74 = .ok (.iconst 0, 1) := by decide +kernel
theorem dX10_loophole_75 : decode cX10_loophole 75 = .ok (.istore 6, 2) := by decide +kernel
theorem dX10_loophole_77 : decode cX10_loophole 77 = .ok (.iload 6, 2) := by decide +kernel
theorem dX10_loophole_79 : decode cX10_loophole 79 = .ok (.iconst 4, 1) := by decide +kernel
theorem dX10_loophole_80 : decode cX10_loophole 80 = .ok (.if_icmp .ge 52, 3) := by decide +kernel
theorem dX10_loophole_83 : decode cX10_loophole 83 = .ok (.iload 5, 2) := by decide +kernel
theorem dX10_loophole_85 : decode cX10_loophole 85 = .ok (.aload_n 0, 1) := by decide +kernel
theorem dX10_loophole_86 : decode cX10_loophole 86 = .ok (.getfield 13, 3) := by decide +kernel
theorem dX10_loophole_89 : decode cX10_loophole 89 = .ok (.iload 6, 2) := by decide +kernel
theorem dX10_loophole_91 : decode cX10_loophole 91 = .ok (.aload_n 0, 1) := by decide +kernel
theorem dX10_loophole_92 : decode cX10_loophole 92 = .ok (.getfield 9, 3) := by decide +kernel
theorem dX10_loophole_95 : decode cX10_loophole 95 = .ok (.iconst 1, 1) := by decide +kernel
theorem dX10_loophole_96 : decode cX10_loophole 96 = .ok (.iaload, 1) := by decide +kernel
theorem dX10_loophole_97 : decode cX10_loophole 97 = .ok (.invokestatic 89, 3) := by decide +kernel
theorem dX10_loophole_100 : decode cX10_loophole 100 = .ok (.aload_n 0, 1) := by decide +kernel
theorem dX10_loophole_101 : decode cX10_loophole 101 = .ok (.getfield 9, 3) := by decide +kernel
theorem dX10_loophole_104 : decode cX10_loophole 104 = .ok (.iload 6, 2) := by decide +kernel
theorem dX10_loophole_106 : decode cX10_loophole 106 = .ok (.aload_n 0, 1) := by decide +kernel
theorem dX10_loophole_107 : decode cX10_loophole 107 = .ok (.getfield 9, 3) := by decide +kernel
theorem dX10_loophole_110 : decode cX10_loophole 110 = .ok (.iconst 1, 1) := by decide +kernel
theorem dX10_loophole_111 : decode cX10_loophole 111 = .ok (.iaload, 1) := by decide +kernel
theorem dX10_loophole_112 : decode cX10_loophole 112 = .ok (.invokestatic 89, 3) := by decide +kernel
theorem dX10_loophole_115 : decode cX10_loophole 115 = .ok (.if_icmp .gt 7, 3) := by decide +kernel
theorem dX10_loophole_118 : decode cX10_loophole 118 = .ok (.iconst 1, 1) := by decide +kernel
theorem dX10_loophole_119 : decode cX10_loophole 119 = .ok (.goto 4, 3) := by decide +kernel
theorem dX10_loophole_122 : decode cX10_loophole 122 = .ok (.iconst 0, 1) := by decide +kernel
theorem dX10_loophole_123 : decode cX10_loophole 123 = .ok (.iand, 1) := by decide +kernel
theorem dX10_loophole_124 : decode cX10_loophole 124 = .ok (.istore 5, 2) := by decide +kernel
theorem dX10_loophole_126 : decode cX10_loophole 126 = .ok (.iinc 6 1, 3) := by decide +kernel
theorem dX10_loophole_129 : decode cX10_loophole 129 = .ok (.goto (-52), 3) := by decide +kernel
theorem dX10_loophole_132 : decode cX10_loophole 132 = .ok (.iload 5, 2) := by decide +kernel
theorem dX10_loophole_134 : decode cX10_loophole 134 = .ok (.ifCond .ne 6, 3) := by decide +kernel
theorem dX10_loophole_137 : decode cX10_loophole 137 = .ok (.goto 19, 3) := by decide +kernel
theorem dX10_loophole_140 : decode cX10_loophole 140 = .ok (.bipush 10, 2) := by decide +kernel
theorem dX10_loophole_142 : decode cX10_loophole 142 = .ok (.iload_n 3, 1) := by decide +kernel
theorem dX10_loophole_143 : decode cX10_loophole 143 = .ok (.imul, 1) := by decide +kernel
theorem dX10_loophole_144 : decode cX10_loophole 144 = .ok (.iload 4, 2) := by decide +kernel
theorem dX10_loophole_146 : decode cX10_loophole 146 = .ok (.iadd, 1) := by decide +kernel
theorem dX10_loophole_147 : decode cX10_loophole 147 = .ok (.istore_n 1, 1) := by decide +kernel
theorem dX10_loophole_148 : decode cX10_loophole 148 = .ok (.aload_n 0, 1) := by decide +kernel
theorem dX10_loophole_149 : decode cX10_loophole 149 = .ok (.getfield 13, 3) := by decide +kernel
theorem dX10_loophole_152 : decode cX10_loophole 152 = .ok (.invokestatic 100, 3) := by decide +kernel
theorem dX10_loophole_155 : decode cX10_loophole 155 = .ok (.istore_n 2, 1) := by decide +kernel
theorem dX10_loophole_156 : decode cX10_loophole 156 = .ok (.iinc 4 1, 3) := by decide +kernel
theorem dX10_loophole_159 : decode cX10_loophole 159 = .ok (.goto (-133), 3) := by decide +kernel
theorem dX10_loophole_162 : decode cX10_loophole 162 = .ok (.iinc 3 1, 3) := by decide +kernel
theorem dX10_loophole_165 : decode cX10_loophole 165 = .ok (.goto (-152), 3) := by decide +kernel
theorem dX10_loophole_168 : decode cX10_loophole 168 = .ok (.iload_n 1, 1) := by decide +kernel
theorem dX10_loophole_169 : decode cX10_loophole 169 = .ok (.ireturn, 1) := by decide +kernel
theorem dX10_forged_0 : decode cX10_forged 0 = .ok (.aload_n 0, 1) := by decide +kernel
theorem dX10_forged_1 : decode cX10_forged 1 = .ok (.iload_n 1, 1) := by decide +kernel
theorem dX10_forged_2 : decode cX10_forged 2 = .ok (.iconst (-1), 1) := by decide +kernel
theorem dX10_forged_3 : decode cX10_forged 3 = .ok (.invokevirtual 148, 3) := by decide +kernel
theorem dX10_forged_6 : decode cX10_forged 6 = .ok (.istore_n 2, 1) := by decide +kernel
theorem dX10_forged_7 : decode cX10_forged 7 = .ok (.iload_n 2, 1) := by decide +kernel
theorem dX10_forged_8 : decode cX10_forged 8 = .ok (.ifCond .eq 5, 3) := by decide +kernel
theorem dX10_forged_11 : decode cX10_forged 11 = .ok (.iload_n 2, 1) := by decide +kernel
theorem dX10_forged_12 : decode cX10_forged 12 = .ok (.ireturn, 1) := by decide +kernel
theorem dX10_forged_13 : decode cX10_forged 13 = .ok (.iconst 0, 1) := by decide +kernel
theorem dX10_forged_14 : decode cX10_forged 14 = .ok (.istore_n 3, 1) := by decide +kernel
theorem dX10_forged_15 : decode cX10_forged 15 = .ok (.iconst 0, 1) := by decide +kernel
theorem dX10_forged_16 : decode cX10_forged 16 = .ok (.istore 4, 2) := by decide +kernel
theorem dX10_forged_18 : decode cX10_forged 18 = .ok (.iload 4, 2) := by decide +kernel
theorem dX10_forged_20 : decode cX10_forged 20 = .ok (.bipush 24, 2) := by decide +kernel
theorem dX10_forged_22 : decode cX10_forged 22 = .ok (.if_icmp .ge 66, 3) := by decide +kernel
theorem dX10_forged_25 : decode cX10_forged 25 = .ok (.iconst 0, 1) := by decide +kernel
theorem dX10_forged_26 : decode cX10_forged 26 = .ok (.istore 5, 2) := by decide +kernel
theorem dX10_forged_28 : decode cX10_forged 28 = .ok (.iload 5, 2) := by decide +kernel
theorem dX10_forged_30 : decode cX10_forged 30 = .ok (.aload_n 0, 1) := by decide +kernel
theorem dX10_forged_31 : decode cX10_forged 31 = .ok (.getfield 40, 3) := by decide +kernel
theorem dX10_forged_34 : decode cX10_forged 34 = .ok (.iload_n 1, 1) := by decide +kernel
theorem dX10_forged_35 : decode cX10_forged 35 = .ok (.iaload, 1) := by decide +kernel
theorem dX10_forged_36 : decode cX10_forged 36 = .ok (.if_icmp .ge 39, 3) := by decide +kernel
theorem dX10_forged_39 : decode cX10_forged 39 = .ok (.aload_n 0, 1) := by decide +kernel
theorem dX10_forged_40 : decode cX10_forged 40 = .ok (.getfield 43, 3) := by decide +kernel
theorem dX10_forged_43 : decode cX10_forged 43 = .ok (.bipush 100, 2) := by decide +kernel
theorem dX10_forged_45 : decode cX10_forged 45 = .ok (.iload_n 1, 1) := by decide +kernel
theorem dX10_forged_46 : decode cX10_forged 46 = .ok (.imul, 1) := by decide +kernel
theorem dX10_forged_47 : decode cX10_forged 47 = .ok (.iload 5, 2) := by decide +kernel
theorem dX10_forged_49 : decode cX10_forged 49 = .ok (.iadd, 1) := by decide +kernel
theorem dX10_forged_50 : decode cX10_forged 50 = .ok (.iaload, 1) := by decide +kernel
theorem dX10_forged_51 : decode cX10_forged 51 = .ok (.aload_n 0, 1) := by decide +kernel
theorem dX10_forged_52 : decode cX10_forged 52 = .ok (.getfield 9, 3) := by decide +kernel
theorem dX10_forged_55 : decode cX10_forged 55 = .ok (.iload 4, 2) := by decide +kernel
theorem dX10_forged_57 : decode cX10_forged 57 = .ok (.iload 5, 2) := by decide +kernel
theorem dX10_forged_59 : decode cX10_forged 59 = .ok (.iadd, 1) := by decide +kernel
theorem dX10_forged_60 : decode cX10_forged 60 = .ok (.bipush 24, 2) := by decide +kernel
theorem dX10_forged_62 : decode cX10_forged 62 = .ok (.irem, 1) := by decide +kernel
theorem dX10_forged_63 : decode cX10_forged 63 = .ok (.invokestatic 207, 3) := by decide +kernel
theorem dX10_forged_66 : decode cX10_forged 66 = .ok (.if_icmp .ne 9, 3) := by decide +kernel
theorem dX10_forged_69 : decode cX10_forged 69 = .ok (.iinc 5 1, 3) := by decide +kernel
theorem dX10_forged_72 : decode cX10_forged 72 = .ok (.goto (-44), 3) := by decide +kernel
theorem dX10_forged_75 : decode cX10_forged 75 = .ok (.iload_n 3, 1) := by decide +kernel
theorem dX10_forged_76 : decode cX10_forged 76 = .ok (.iload 5, 2) := by decide +kernel
theorem dX10_forged_78 : decode cX10_forged 78 = .ok (.invokestatic 54, 3) := by decide +kernel
theorem dX10_forged_81 : decode cX10_forged 81 = .ok (.istore_n 3, 1) := by decide +kernel
theorem dX10_forged_82 : decode cX10_forged 82 = .ok (.iinc 4 1, 3) := by decide +kernel
theorem dX10_forged_85 : decode cX10_forged 85 = .ok (.goto (-67), 3) := by decide +kernel
theorem dX10_forged_88 : decode cX10_forged 88 = .ok (.iload_n 3, 1) := by decide +kernel
theorem dX10_forged_89 : decode cX10_forged 89 = .ok (.aload_n 0, 1) := by decide +kernel
theorem dX10_forged_90 : decode cX10_forged 90 = .ok (.getfield 40, 3) := by decide +kernel
theorem dX10_forged_93 : decode cX10_forged 93 = .ok (.iload_n 1, 1) := by decide +kernel
theorem dX10_forged_94 : decode cX10_forged 94 = .ok (.iaload, 1) := by decide +kernel
theorem dX10_forged_95 : decode cX10_forged 95 = .ok (.if_icmp .ne 8, 3) := by decide +kernel
theorem dX10_forged_98 : decode cX10_forged 98 = .ok (.bipush (-4), 2) := by decide +kernel
theorem dX10_forged_100 : decode cX10_forged 100 = .ok (.goto 4, 3) := by decide +kernel
theorem dX10_forged_103 : decode cX10_forged 103 = .ok (.iload_n 3, 1) := by decide +kernel
theorem dX10_forged_104 : decode cX10_forged 104 = .ok (.ireturn, 1) := by decide +kernel
theorem dX10_judge_0 : decode cX10_judge 0 = .ok (.aload_n 0, 1) := by decide +kernel
theorem dX10_judge_1 : decode cX10_judge 1 = .ok (.iload_n 1, 1) := by decide +kernel
theorem dX10_judge_2 : decode cX10_judge 2 = .ok (.iconst (-1), 1) := by decide +kernel
theorem dX10_judge_3 : decode cX10_judge 3 = .ok (.invokevirtual 148, 3) := by decide +kernel
theorem dX10_judge_6 : decode cX10_judge 6 = .ok (.istore_n 2, 1) := by decide +kernel
theorem dX10_judge_7 : decode cX10_judge 7 = .ok (.iload_n 2, 1) := by decide +kernel
theorem dX10_judge_8 : decode cX10_judge 8 = .ok (.ifCond .eq 5, 3) := by decide +kernel
theorem dX10_judge_11 : decode cX10_judge 11 = .ok (.iload_n 2, 1) := by decide +kernel
theorem dX10_judge_12 : decode cX10_judge 12 = .ok (.ireturn, 1) := by decide +kernel
theorem dX10_judge_13 : decode cX10_judge 13 = .ok (.aload_n 0, 1) := by decide +kernel
theorem dX10_judge_14 : decode cX10_judge 14 = .ok (.getfield 9, 3) := by decide +kernel
theorem dX10_judge_17 : decode cX10_judge 17 = .ok (.aload_n 0, 1) := by decide +kernel
theorem dX10_judge_18 : decode cX10_judge 18 = .ok (.getfield 13, 3) := by decide +kernel
theorem dX10_judge_21 : decode cX10_judge 21 = .ok (.invokestatic 155, 3) := by decide +kernel
theorem dX10_judge_24 : decode cX10_judge 24 = .ok (.iconst 0, 1) := by decide +kernel
theorem dX10_judge_25 : decode cX10_judge 25 = .ok (.istore_n 3, 1) := by decide +kernel
theorem dX10_judge_26 : decode cX10_judge 26 = .ok (.iload_n 3, 1) := by decide +kernel
theorem dX10_judge_27 : decode cX10_judge 27 = .ok (.aload_n 0, 1) := by decide +kernel
theorem dX10_judge_28 : decode cX10_judge 28 = .ok (.getfield 40, 3) := by decide +kernel
theorem dX10_judge_31 : decode cX10_judge 31 = .ok (.iload_n 1, 1) := by decide +kernel
theorem dX10_judge_32 : decode cX10_judge 32 = .ok (.iaload, 1) := by decide +kernel
theorem dX10_judge_33 : decode cX10_judge 33 = .ok (.if_icmp .ge 56, 3) := by decide +kernel
theorem dX10_judge_36 : decode cX10_judge 36 = .ok (.aload_n 0, 1) := by decide +kernel
theorem dX10_judge_37 : decode cX10_judge 37 = .ok (.getfield 43, 3) := by decide +kernel
theorem dX10_judge_40 : decode cX10_judge 40 = .ok (.bipush 100, 2) := by decide +kernel
theorem dX10_judge_42 : decode cX10_judge 42 = .ok (.iload_n 1, 1) := by decide +kernel
theorem dX10_judge_43 : decode cX10_judge 43 = .ok (.imul, 1) := by decide +kernel
theorem dX10_judge_44 : decode cX10_judge 44 = .ok (.iload_n 3, 1) := by decide +kernel
theorem dX10_judge_45 : decode cX10_judge 45 = .ok (.iadd, 1) := by decide +kernel
theorem dX10_judge_46 : decode cX10_judge 46 = .ok (.iaload, 1) := by decide +kernel
theorem dX10_judge_47 : decode cX10_judge 47 = .ok (.istore 4, 2) := by decide +kernel
theorem dX10_judge_49 : decode cX10_judge 49 = .ok (.iload 4, 2) := by decide +kernel
theorem dX10_judge_51 : decode cX10_judge 51 = .ok (.aload_n 0, 1) := by decide +kernel
theorem dX10_judge_52 : decode cX10_judge 52 = .ok (.getfield 37, 3) := by decide +kernel
theorem dX10_judge_55 : decode cX10_judge 55 = .ok (.iload_n 1, 1) := by decide +kernel
theorem dX10_judge_56 : decode cX10_judge 56 = .ok (.iaload, 1) := by decide +kernel
theorem dX10_judge_57 : decode cX10_judge 57 = .ok (.invokestatic 229, 3) := by decide +kernel
theorem dX10_judge_60 : decode cX10_judge 60 = .ok (.if_icmp .eq 16, 3) := by decide +kernel
theorem dX10_judge_63 : decode cX10_judge 63 = .ok (.iload 4, 2) := by decide +kernel
theorem dX10_judge_65 : decode cX10_judge 65 = .ok (.aload_n 0, 1) := by decide +kernel
theorem dX10_judge_66 : decode cX10_judge 66 = .ok (.getfield 13, 3) := by decide +kernel
theorem dX10_judge_69 : decode cX10_judge 69 = .ok (.iconst 3, 1) := by decide +kernel
theorem dX10_judge_70 : decode cX10_judge 70 = .ok (.iaload, 1) := by decide +kernel
theorem dX10_judge_71 : decode cX10_judge 71 = .ok (.if_icmp .eq 5, 3) := by decide +kernel
theorem dX10_judge_74 : decode cX10_judge 74 = .ok (.iload_n 3, 1) := by decide +kernel
theorem dX10_judge_75 : decode cX10_judge 75 = .ok (.ireturn, 1) := by decide +kernel
theorem dX10_judge_76 : decode cX10_judge 76 = .ok (.aload_n 0, 1) := by decide +kernel
theorem dX10_judge_77 : decode cX10_judge 77 = .ok (.getfield 13, 3) := by decide +kernel
theorem dX10_judge_80 : decode cX10_judge 80 = .ok (.invokestatic 126, 3) := by decide +kernel
theorem dX10_judge_83 : decode cX10_judge 83 = .ok (.iinc 3 1, 3) := by decide +kernel
theorem dX10_judge_86 : decode cX10_judge 86 = .ok (.goto (-60), 3) := by decide +kernel
theorem dX10_judge_89 : decode cX10_judge 89 = .ok (.bipush (-4), 2) := by decide +kernel
theorem dX10_judge_91 : decode cX10_judge 91 = .ok (.ireturn, 1) := by decide +kernel
theorem dX10_drawn_0 : decode cX10_drawn 0 = .ok (.aload_n 0, 1) := by decide +kernel
theorem dX10_drawn_1 : decode cX10_drawn 1 = .ok (.aload_n 0, 1) := by decide +kernel
theorem dX10_drawn_2 : decode cX10_drawn 2 = .ok (.getfield 232, 3) := by decide +kernel
theorem dX10_drawn_5 : decode cX10_drawn 5 = .ok (.ldc 235, 2) := by decide +kernel
theorem dX10_drawn_7 : decode cX10_drawn 7 = .ok (.imul, 1) := by decide +kernel
theorem dX10_drawn_8 : decode cX10_drawn 8 = .ok (.sipush 12345, 3) := by decide +kernel
theorem dX10_drawn_11 : decode cX10_drawn 11 = .ok (.iadd, 1) := by decide +kernel
theorem dX10_drawn_12 : decode cX10_drawn 12 = .ok (.putfield 232, 3) := by decide +kernel
theorem dX10_drawn_15 : decode cX10_drawn 15 = .ok (.aload_n 0, 1) := by decide +kernel
theorem dX10_drawn_16 : decode cX10_drawn 16 = .ok (.getfield 232, 3) := by decide +kernel
theorem dX10_drawn_19 : decode cX10_drawn 19 = .ok (.ldc 236, 2) := by decide +kernel
theorem dX10_drawn_21 : decode cX10_drawn 21 = .ok (.iand, 1) := by decide +kernel
theorem dX10_drawn_22 : decode cX10_drawn 22 = .ok (.ldc 237, 2) := by decide +kernel
theorem dX10_drawn_24 : decode cX10_drawn 24 = .ok (.idiv, 1) := by decide +kernel
theorem dX10_drawn_25 : decode cX10_drawn 25 = .ok (.iload_n 1, 1) := by decide +kernel
theorem dX10_drawn_26 : decode cX10_drawn 26 = .ok (.irem, 1) := by decide +kernel
theorem dX10_drawn_27 : decode cX10_drawn 27 = .ok (.ireturn, 1) := by decide +kernel
theorem dX10_lots_0 : decode cX10_lots 0 = .ok (.iload_n 1, 1) := by decide +kernel
theorem dX10_lots_1 : decode cX10_lots 1 = .ok (.iconst 1, 1) := by decide +kernel
theorem dX10_lots_2 : decode cX10_lots 2 = .ok (.bipush 20, 2) := by decide +kernel
theorem dX10_lots_4 : decode cX10_lots 4 = .ok (.invokestatic 46, 3) := by decide +kernel
theorem dX10_lots_7 : decode cX10_lots 7 = .ok (.ifCond .eq 12, 3) := by decide +kernel
theorem dX10_lots_10 : decode cX10_lots 10 = .ok (.iload_n 3, 1) := by decide +kernel
theorem dX10_lots_11 : decode cX10_lots 11 = .ok (.iconst 0, 1) := by decide +kernel
theorem dX10_lots_12 : decode cX10_lots 12 = .ok (.iconst 1, 1) := by decide +kernel
theorem dX10_lots_13 : decode cX10_lots 13 = .ok (.invokestatic 46, 3) := by decide +kernel
theorem dX10_lots_16 : decode cX10_lots 16 = .ok (.ifCond .ne 5, 3) := by decide +kernel
theorem dX10_lots_19 : decode cX10_lots 19 = .ok (.iconst (-1), 1) := by decide +kernel
theorem dX10_lots_20 : decode cX10_lots 20 = .ok (.ireturn, 1) := by decide +kernel
theorem dX10_lots_21 : decode cX10_lots 21 = .ok (.aload_n 0, 1) := by decide +kernel
theorem dX10_lots_22 : decode cX10_lots 22 = .ok (.iload_n 2, 1) := by decide +kernel
theorem dX10_lots_23 : decode cX10_lots 23 = .ok (.putfield 232, 3) := by decide +kernel
theorem dX10_lots_26 : decode cX10_lots 26 = .ok (.iconst 0, 1) := by decide +kernel
theorem dX10_lots_27 : decode cX10_lots 27 = .ok (.istore 4, 2) := by decide +kernel
theorem dX10_lots_29 : decode cX10_lots 29 = .ok (.iconst 0, 1) := by decide +kernel
theorem dX10_lots_30 : decode cX10_lots 30 = .ok (.istore 5, 2) := by decide +kernel
theorem dX10_lots_32 : decode cX10_lots 32 = .ok (.iconst 0, 1) := by decide +kernel
theorem dX10_lots_33 : decode cX10_lots 33 = .ok (.istore 6, 2) := by decide +kernel
theorem dX10_lots_35 : decode cX10_lots 35 = .ok (.iload 6, 2) := by decide +kernel
theorem dX10_lots_37 : decode cX10_lots 37 = .ok (.iload_n 1, 1) := by decide +kernel
theorem dX10_lots_38 : decode cX10_lots 38 = .ok (.if_icmp .ge 99, 3) := by decide +kernel
theorem dX10_lots_41 : decode cX10_lots 41 = .ok (.aload_n 0, 1) := by decide +kernel
theorem dX10_lots_42 : decode cX10_lots 42 = .ok (.getfield 9, 3) := by decide +kernel
theorem dX10_lots_45 : decode cX10_lots 45 = .ok (.aload_n 0, 1) := by decide +kernel
theorem dX10_lots_46 : decode cX10_lots 46 = .ok (.getfield 13, 3) := by decide +kernel
theorem dX10_lots_49 : decode cX10_lots 49 = .ok (.invokestatic 155, 3) := by decide +kernel
theorem dX10_lots_52 : decode cX10_lots 52 = .ok (.iconst 0, 1) := by decide +kernel
theorem dX10_lots_53 : decode cX10_lots 53 = .ok (.istore 7, 2) := by decide +kernel
theorem dX10_lots_55 : decode cX10_lots 55 = .ok (.iload 7, 2) := by decide +kernel
theorem dX10_lots_57 : decode cX10_lots 57 = .ok (.bipush 10, 2) := by decide +kernel
theorem dX10_lots_59 : decode cX10_lots 59 = .ok (.if_icmp .ge 54, 3) := by decide +kernel
theorem dX10_lots_62 : decode cX10_lots 62 = .ok (.aload_n 0, 1) := by decide +kernel
theorem dX10_lots_63 : decode cX10_lots 63 = .ok (.getfield 13, 3) := by decide +kernel
theorem dX10_lots_66 : decode cX10_lots 66 = .ok (.iconst 1, 1) := by decide +kernel
theorem dX10_lots_67 : decode cX10_lots 67 = .ok (.aload_n 0, 1) := by decide +kernel
theorem dX10_lots_68 : decode cX10_lots 68 = .ok (.bipush 24, 2) := by decide +kernel
theorem dX10_lots_70 : decode cX10_lots 70 = .ok (.invokevirtual 238, 3) := by decide +kernel
theorem dX10_lots_73 : decode cX10_lots 73 = .ok (.iastore, 1) := by decide +kernel
theorem dX10_lots_74 : decode cX10_lots 74 = .ok (.iload 5, 2) := by decide +kernel
theorem dX10_lots_76 : decode cX10_lots 76 = .ok (.aload_n 0, 1) := by decide +kernel
theorem dX10_lots_77 : decode cX10_lots 77 = .ok (.getfield 13, 3) := by decide +kernel
theorem dX10_lots_80 : decode cX10_lots 80 = .ok (.aload_n 0, 1) := by decide +kernel
theorem dX10_lots_81 : decode cX10_lots 81 = .ok (.getfield 13, 3) := by decide +kernel
theorem dX10_lots_84 : decode cX10_lots 84 = .ok (.iconst 1, 1) := by decide +kernel
theorem dX10_lots_85 : decode cX10_lots 85 = .ok (.iaload, 1) := by decide +kernel
theorem dX10_lots_86 : decode cX10_lots 86 = .ok (.invokestatic 207, 3) := by decide +kernel
theorem dX10_lots_89 : decode cX10_lots 89 = .ok (.ifCond .le 7, 3) := by decide +kernel
theorem dX10_lots_92 : decode cX10_lots 92 = .ok (.iconst 1, 1) := by decide +kernel
theorem dX10_lots_93 : decode cX10_lots 93 = .ok (.goto 4, 3) := by decide +kernel
theorem dX10_lots_96 : decode cX10_lots 96 = .ok (.iconst 0, 1) := by decide +kernel
theorem dX10_lots_97 : decode cX10_lots 97 = .ok (.iadd, 1) := by decide +kernel
theorem dX10_lots_98 : decode cX10_lots 98 = .ok (.istore 5, 2) := by decide +kernel
theorem dX10_lots_100 : decode cX10_lots 100 = .ok (.aload_n 0, 1) := by decide +kernel
theorem dX10_lots_101 : decode cX10_lots 101 = .ok (.getfield 13, 3) := by decide +kernel
theorem dX10_lots_104 : decode cX10_lots 104 = .ok (.invokestatic 126, 3) := by decide +kernel
theorem dX10_lots_107 : decode cX10_lots 107 = .ok (.iinc 7 1, 3) := by decide +kernel
theorem dX10_lots_110 : decode cX10_lots 110 = .ok (.goto (-55), 3) := by decide +kernel
theorem dX10_lots_113 : decode cX10_lots 113 = .ok (.iload 4, 2) := by decide +kernel
theorem dX10_lots_115 : decode cX10_lots 115 = .ok (.aload_n 0, 1) := by decide +kernel
theorem dX10_lots_116 : decode cX10_lots 116 = .ok (.getfield 13, 3) := by decide +kernel
theorem dX10_lots_119 : decode cX10_lots 119 = .ok (.iconst 3, 1) := by decide +kernel
theorem dX10_lots_120 : decode cX10_lots 120 = .ok (.iaload, 1) := by decide +kernel
theorem dX10_lots_121 : decode cX10_lots 121 = .ok (.aload_n 0, 1) := by decide +kernel
theorem dX10_lots_122 : decode cX10_lots 122 = .ok (.getfield 9, 3) := by decide +kernel
theorem dX10_lots_125 : decode cX10_lots 125 = .ok (.iconst 3, 1) := by decide +kernel
theorem dX10_lots_126 : decode cX10_lots 126 = .ok (.iaload, 1) := by decide +kernel
theorem dX10_lots_127 : decode cX10_lots 127 = .ok (.isub, 1) := by decide +kernel
theorem dX10_lots_128 : decode cX10_lots 128 = .ok (.iadd, 1) := by decide +kernel
theorem dX10_lots_129 : decode cX10_lots 129 = .ok (.istore 4, 2) := by decide +kernel
theorem dX10_lots_131 : decode cX10_lots 131 = .ok (.iinc 6 1, 3) := by decide +kernel
theorem dX10_lots_134 : decode cX10_lots 134 = .ok (.goto (-99), 3) := by decide +kernel
theorem dX10_lots_137 : decode cX10_lots 137 = .ok (.iload_n 3, 1) := by decide +kernel
theorem dX10_lots_138 : decode cX10_lots 138 = .ok (.ifCond .ne 8, 3) := by decide +kernel
theorem dX10_lots_141 : decode cX10_lots 141 = .ok (.iload 4, 2) := by decide +kernel
theorem dX10_lots_143 : decode cX10_lots 143 = .ok (.goto 5, 3) := by decide +kernel
theorem dX10_lots_146 : decode cX10_lots 146 = .ok (.iload 5, 2) := by decide +kernel
theorem dX10_lots_148 : decode cX10_lots 148 = .ok (.ireturn, 1) := by decide +kernel
theorem dX10_image_0 : decode cX10_image 0 = .ok (.aload_n 0, 1) := by decide +kernel
theorem dX10_image_1 : decode cX10_image 1 = .ok (.getfield 9, 3) := by decide +kernel
theorem dX10_image_4 : decode cX10_image 4 = .ok (.aload_n 0, 1) := by decide +kernel
theorem dX10_image_5 : decode cX10_image 5 = .ok (.getfield 16, 3) := by decide +kernel
theorem dX10_image_8 : decode cX10_image 8 = .ok (.invokestatic 155, 3) := by decide +kernel
theorem dX10_image_11 : decode cX10_image 11 = .ok (.aload_n 0, 1) := by decide +kernel
theorem dX10_image_12 : decode cX10_image 12 = .ok (.iconst 1, 1) := by decide +kernel
theorem dX10_image_13 : decode cX10_image 13 = .ok (.putfield 241, 3) := by decide +kernel
theorem dX10_image_16 : decode cX10_image 16 = .ok (.aload_n 0, 1) := by decide +kernel
theorem dX10_image_17 : decode cX10_image 17 = .ok (.getfield 9, 3) := by decide +kernel
theorem dX10_image_20 : decode cX10_image 20 = .ok (.iconst 2, 1) := by decide +kernel
theorem dX10_image_21 : decode cX10_image 21 = .ok (.iaload, 1) := by decide +kernel
theorem dX10_image_22 : decode cX10_image 22 = .ok (.ireturn, 1) := by decide +kernel
theorem dX10_restore_0 : decode cX10_restore 0 = .ok (.aload_n 0, 1) := by decide +kernel
theorem dX10_restore_1 : decode cX10_restore 1 = .ok (.getfield 241, 3) := by decide +kernel
theorem dX10_restore_4 : decode cX10_restore 4 = .ok (.ifCond .ne 6, 3) := by decide +kernel
theorem dX10_restore_7 : decode cX10_restore 7 = .ok (.bipush (-3), 2) := by decide +kernel
theorem dX10_restore_9 : decode cX10_restore 9 = .ok (.ireturn, 1) := by decide +kernel
theorem dX10_restore_10 : decode cX10_restore 10 = .ok (.aload_n 0, 1) := by decide +kernel
theorem dX10_restore_11 : decode cX10_restore 11 = .ok (.getfield 16, 3) := by decide +kernel
theorem dX10_restore_14 : decode cX10_restore 14 = .ok (.aload_n 0, 1) := by decide +kernel
theorem dX10_restore_15 : decode cX10_restore 15 = .ok (.getfield 9, 3) := by decide +kernel
theorem dX10_restore_18 : decode cX10_restore 18 = .ok (.invokestatic 155, 3) := by decide +kernel
theorem dX10_restore_21 : decode cX10_restore 21 = .ok (.aload_n 0, 1) := by decide +kernel
theorem dX10_restore_22 : decode cX10_restore 22 = .ok (.getfield 9, 3) := by decide +kernel
theorem dX10_restore_25 : decode cX10_restore 25 = .ok (.iconst 2, 1) := by decide +kernel
theorem dX10_restore_26 : decode cX10_restore 26 = .ok (.iaload, 1) := by decide +kernel
theorem dX10_restore_27 : decode cX10_restore 27 = .ok (.ireturn, 1) := by decide +kernel
theorem dX10_count_0 : decode cX10_count 0 = .ok (.iload_n 1, 1) := by decide +kernel
theorem dX10_count_1 : decode cX10_count 1 = .ok (.iconst 0, 1) := by decide +kernel
theorem dX10_count_2 : decode cX10_count 2 = .ok (.iconst 4, 1) := by decide +kernel
theorem dX10_count_3 : decode cX10_count 3 = .ok (.invokestatic 46, 3) := by decide +kernel
theorem dX10_count_6 : decode cX10_count 6 = .ok (.ifCond .eq 10, 3) := by decide +kernel
theorem dX10_count_9 : decode cX10_count 9 = .ok (.aload_n 0, 1) := by decide +kernel
theorem dX10_count_10 : decode cX10_count 10 = .ok (.getfield 9, 3) := by decide +kernel
theorem dX10_count_13 : decode cX10_count 13 = .ok (.iload_n 1, 1) := by decide +kernel
theorem dX10_count_14 : decode cX10_count 14 = .ok (.iaload, 1) := by decide +kernel
theorem dX10_count_15 : decode cX10_count 15 = .ok (.ireturn, 1) := by decide +kernel
theorem dX10_count_16 : decode cX10_count 16 = .ok (.iconst 0, 1) := by decide +kernel
theorem dX10_count_17 : decode cX10_count 17 = .ok (.istore_n 2, 1) := by decide +kernel
theorem dX10_count_18 : decode cX10_count 18 = .ok (.iload_n 1, 1) := by decide +kernel
theorem dX10_count_19 : decode cX10_count 19 = .ok (.tableswitch 100 5 7 #[25, 60, 86], 25) := by decide +kernel
theorem dX10_count_44 : decode cX10_count 44 = .ok (.iconst 0, 1) := by decide +kernel
theorem dX10_count_45 : decode cX10_count 45 = .ok (.istore_n 3, 1) := by decide +kernel
theorem dX10_count_46 : decode cX10_count 46 = .ok (.iload_n 3, 1) := by decide +kernel
theorem dX10_count_47 : decode cX10_count 47 = .ok (.aload_n 0, 1) := by decide +kernel
theorem dX10_count_48 : decode cX10_count 48 = .ok (.getfield 9, 3) := by decide +kernel
theorem dX10_count_51 : decode cX10_count 51 = .ok (.iconst 0, 1) := by decide +kernel
theorem dX10_count_52 : decode cX10_count 52 = .ok (.iaload, 1) := by decide +kernel
theorem dX10_count_53 : decode cX10_count 53 = .ok (.if_icmp .ge 24, 3) := by decide +kernel
theorem dX10_count_56 : decode cX10_count 56 = .ok (.iload_n 2, 1) := by decide +kernel
theorem dX10_count_57 : decode cX10_count 57 = .ok (.aload_n 0, 1) := by decide +kernel
theorem dX10_count_58 : decode cX10_count 58 = .ok (.getfield 9, 3) := by decide +kernel
theorem dX10_count_61 : decode cX10_count 61 = .ok (.iload_n 3, 1) := by decide +kernel
theorem dX10_count_62 : decode cX10_count 62 = .ok (.iconst 4, 1) := by decide +kernel
theorem dX10_count_63 : decode cX10_count 63 = .ok (.invokestatic 57, 3) := by decide +kernel
theorem dX10_count_66 : decode cX10_count 66 = .ok (.iaload, 1) := by decide +kernel
theorem dX10_count_67 : decode cX10_count 67 = .ok (.iload_n 3, 1) := by decide +kernel
theorem dX10_count_68 : decode cX10_count 68 = .ok (.ishl, 1) := by decide +kernel
theorem dX10_count_69 : decode cX10_count 69 = .ok (.ior, 1) := by decide +kernel
theorem dX10_count_70 : decode cX10_count 70 = .ok (.istore_n 2, 1) := by decide +kernel
theorem dX10_count_71 : decode cX10_count 71 = .ok (.iinc 3 1, 3) := by decide +kernel
theorem dX10_count_74 : decode cX10_count 74 = .ok (.goto (-28), 3) := by decide +kernel
theorem dX10_count_77 : decode cX10_count 77 = .ok (.iload_n 2, 1) := by decide +kernel
theorem dX10_count_78 : decode cX10_count 78 = .ok (.ireturn, 1) := by decide +kernel
theorem dX10_count_79 : decode cX10_count 79 = .ok (.iconst 0, 1) := by decide +kernel
theorem dX10_count_80 : decode cX10_count 80 = .ok (.istore_n 3, 1) := by decide +kernel
theorem dX10_count_81 : decode cX10_count 81 = .ok (.iload_n 3, 1) := by decide +kernel
theorem dX10_count_82 : decode cX10_count 82 = .ok (.iconst 4, 1) := by decide +kernel
theorem dX10_count_83 : decode cX10_count 83 = .ok (.if_icmp .ge 20, 3) := by decide +kernel
theorem dX10_count_86 : decode cX10_count 86 = .ok (.iload_n 2, 1) := by decide +kernel
theorem dX10_count_87 : decode cX10_count 87 = .ok (.aload_n 0, 1) := by decide +kernel
theorem dX10_count_88 : decode cX10_count 88 = .ok (.getfield 9, 3) := by decide +kernel
theorem dX10_count_91 : decode cX10_count 91 = .ok (.iconst 5, 1) := by decide +kernel
theorem dX10_count_92 : decode cX10_count 92 = .ok (.iload_n 3, 1) := by decide +kernel
theorem dX10_count_93 : decode cX10_count 93 = .ok (.iadd, 1) := by decide +kernel
theorem dX10_count_94 : decode cX10_count 94 = .ok (.iaload, 1) := by decide +kernel
theorem dX10_count_95 : decode cX10_count 95 = .ok (.iadd, 1) := by decide +kernel
theorem dX10_count_96 : decode cX10_count 96 = .ok (.istore_n 2, 1) := by decide +kernel
theorem dX10_count_97 : decode cX10_count 97 = .ok (.iinc 3 1, 3) := by decide +kernel
theorem dX10_count_100 : decode cX10_count 100 = .ok (.goto (-19), 3) := by decide +kernel
theorem dX10_count_103 : decode cX10_count 103 = .ok (.iload_n 2, 1) := by decide +kernel
theorem dX10_count_104 : decode cX10_count 104 = .ok (.ireturn, 1) := by decide +kernel
theorem dX10_count_105 : decode cX10_count 105 = .ok (.aload_n 0, 1) := by decide +kernel
theorem dX10_count_106 : decode cX10_count 106 = .ok (.getfield 9, 3) := by decide +kernel
theorem dX10_count_109 : decode cX10_count 109 = .ok (.aload_n 0, 1) := by decide +kernel
theorem dX10_count_110 : decode cX10_count 110 = .ok (.getfield 9, 3) := by decide +kernel
theorem dX10_count_113 : decode cX10_count 113 = .ok (.iconst 1, 1) := by decide +kernel
theorem dX10_count_114 : decode cX10_count 114 = .ok (.iaload, 1) := by decide +kernel
theorem dX10_count_115 : decode cX10_count 115 = .ok (.invokestatic 177, 3) := by decide +kernel
theorem dX10_count_118 : decode cX10_count 118 = .ok (.ireturn, 1) := by decide +kernel
theorem dX10_count_119 : decode cX10_count 119 = .ok (.iconst (-1), 1) := by decide +kernel
theorem dX10_count_120 : decode cX10_count 120 = .ok (.ireturn, 1) := by decide +kernel
theorem dX10_thrown_0 : decode cX10_thrown 0 = .ok (.aload_n 0, 1) := by decide +kernel
theorem dX10_thrown_1 : decode cX10_thrown 1 = .ok (.getfield 245, 3) := by decide +kernel
theorem dX10_thrown_4 : decode cX10_thrown 4 = .ok (.ireturn, 1) := by decide +kernel
theorem dX10_isShelf_0 : decode cX10_isShelf 0 = .ok (.iload_n 0, 1) := by decide +kernel
theorem dX10_isShelf_1 : decode cX10_isShelf 1 = .ok (.iconst 0, 1) := by decide +kernel
theorem dX10_isShelf_2 : decode cX10_isShelf 2 = .ok (.bipush 7, 2) := by decide +kernel
theorem dX10_isShelf_4 : decode cX10_isShelf 4 = .ok (.invokestatic 46, 3) := by decide +kernel
theorem dX10_isShelf_7 : decode cX10_isShelf 7 = .ok (.ireturn, 1) := by decide +kernel
theorem dX10_wrongRow_0 : decode cX10_wrongRow 0 = .ok (.iload_n 1, 1) := by decide +kernel
theorem dX10_wrongRow_1 : decode cX10_wrongRow 1 = .ok (.invokestatic 248, 3) := by decide +kernel
theorem dX10_wrongRow_4 : decode cX10_wrongRow 4 = .ok (.ifCond .ne 7, 3) := by decide +kernel
theorem dX10_wrongRow_7 : decode cX10_wrongRow 7 = .ok (.iconst (-1), 1) := by decide +kernel
theorem dX10_wrongRow_8 : decode cX10_wrongRow 8 = .ok (.goto 47, 3) := by decide +kernel
theorem dX10_wrongRow_11 : decode cX10_wrongRow 11 = .ok (.aload_n 0, 1) := by decide +kernel
theorem dX10_wrongRow_12 : decode cX10_wrongRow 12 = .ok (.getfield 28, 3) := by decide +kernel
theorem dX10_wrongRow_15 : decode cX10_wrongRow 15 = .ok (.iload_n 1, 1) := by decide +kernel
theorem dX10_wrongRow_16 : decode cX10_wrongRow 16 = .ok (.iaload, 1) := by decide +kernel
theorem dX10_wrongRow_17 : decode cX10_wrongRow 17 = .ok (.ifCond .ne 8, 3) := by decide +kernel
theorem dX10_wrongRow_20 : decode cX10_wrongRow 20 = .ok (.bipush (-11), 2) := by decide +kernel
theorem dX10_wrongRow_22 : decode cX10_wrongRow 22 = .ok (.goto 33, 3) := by decide +kernel
theorem dX10_wrongRow_25 : decode cX10_wrongRow 25 = .ok (.aload_n 0, 1) := by decide +kernel
theorem dX10_wrongRow_26 : decode cX10_wrongRow 26 = .ok (.getfield 28, 3) := by decide +kernel
theorem dX10_wrongRow_29 : decode cX10_wrongRow 29 = .ok (.iload_n 1, 1) := by decide +kernel
theorem dX10_wrongRow_30 : decode cX10_wrongRow 30 = .ok (.iaload, 1) := by decide +kernel
theorem dX10_wrongRow_31 : decode cX10_wrongRow 31 = .ok (.iconst 2, 1) := by decide +kernel
theorem dX10_wrongRow_32 : decode cX10_wrongRow 32 = .ok (.if_icmp .ne 17, 3) := by decide +kernel
theorem dX10_wrongRow_35 : decode cX10_wrongRow 35 = .ok (.iload_n 2, 1) := by decide +kernel
theorem dX10_wrongRow_36 : decode cX10_wrongRow 36 = .ok (.ifCond .lt 18, 3) := by decide +kernel
theorem dX10_wrongRow_39 : decode cX10_wrongRow 39 = .ok (.aload_n 0, 1) := by decide +kernel
theorem dX10_wrongRow_40 : decode cX10_wrongRow 40 = .ok (.getfield 37, 3) := by decide +kernel
theorem dX10_wrongRow_43 : decode cX10_wrongRow 43 = .ok (.iload_n 1, 1) := by decide +kernel
theorem dX10_wrongRow_44 : decode cX10_wrongRow 44 = .ok (.iaload, 1) := by decide +kernel
theorem dX10_wrongRow_45 : decode cX10_wrongRow 45 = .ok (.iload_n 2, 1) := by decide +kernel
theorem dX10_wrongRow_46 : decode cX10_wrongRow 46 = .ok (.if_icmp .eq 8, 3) := by decide +kernel
theorem dX10_wrongRow_49 : decode cX10_wrongRow 49 = .ok (.bipush (-12), 2) := by decide +kernel
theorem dX10_wrongRow_51 : decode cX10_wrongRow 51 = .ok (.goto 4, 3) := by decide +kernel
theorem dX10_wrongRow_54 : decode cX10_wrongRow 54 = .ok (.iconst 0, 1) := by decide +kernel
theorem dX10_wrongRow_55 : decode cX10_wrongRow 55 = .ok (.ireturn, 1) := by decide +kernel
theorem dX10_wrongKept_0 : decode cX10_wrongKept 0 = .ok (.iload_n 1, 1) := by decide +kernel
theorem dX10_wrongKept_1 : decode cX10_wrongKept 1 = .ok (.invokestatic 248, 3) := by decide +kernel
theorem dX10_wrongKept_4 : decode cX10_wrongKept 4 = .ok (.ifCond .ne 7, 3) := by decide +kernel
theorem dX10_wrongKept_7 : decode cX10_wrongKept 7 = .ok (.iconst (-1), 1) := by decide +kernel
theorem dX10_wrongKept_8 : decode cX10_wrongKept 8 = .ok (.goto 33, 3) := by decide +kernel
theorem dX10_wrongKept_11 : decode cX10_wrongKept 11 = .ok (.aload_n 0, 1) := by decide +kernel
theorem dX10_wrongKept_12 : decode cX10_wrongKept 12 = .ok (.getfield 28, 3) := by decide +kernel
theorem dX10_wrongKept_15 : decode cX10_wrongKept 15 = .ok (.iload_n 1, 1) := by decide +kernel
theorem dX10_wrongKept_16 : decode cX10_wrongKept 16 = .ok (.iaload, 1) := by decide +kernel
theorem dX10_wrongKept_17 : decode cX10_wrongKept 17 = .ok (.ifCond .ne 8, 3) := by decide +kernel
theorem dX10_wrongKept_20 : decode cX10_wrongKept 20 = .ok (.bipush (-11), 2) := by decide +kernel
theorem dX10_wrongKept_22 : decode cX10_wrongKept 22 = .ok (.goto 19, 3) := by decide +kernel
theorem dX10_wrongKept_25 : decode cX10_wrongKept 25 = .ok (.aload_n 0, 1) := by decide +kernel
theorem dX10_wrongKept_26 : decode cX10_wrongKept 26 = .ok (.getfield 28, 3) := by decide +kernel
theorem dX10_wrongKept_29 : decode cX10_wrongKept 29 = .ok (.iload_n 1, 1) := by decide +kernel
theorem dX10_wrongKept_30 : decode cX10_wrongKept 30 = .ok (.iaload, 1) := by decide +kernel
theorem dX10_wrongKept_31 : decode cX10_wrongKept 31 = .ok (.iconst 2, 1) := by decide +kernel
theorem dX10_wrongKept_32 : decode cX10_wrongKept 32 = .ok (.if_icmp .ne 8, 3) := by decide +kernel
theorem dX10_wrongKept_35 : decode cX10_wrongKept 35 = .ok (.bipush (-12), 2) := by decide +kernel
theorem dX10_wrongKept_37 : decode cX10_wrongKept 37 = .ok (.goto 4, 3) := by decide +kernel
theorem dX10_wrongKept_40 : decode cX10_wrongKept 40 = .ok (.iconst 0, 1) := by decide +kernel
theorem dX10_wrongKept_41 : decode cX10_wrongKept 41 = .ok (.ireturn, 1) := by decide +kernel
theorem dX10_keep_0 : decode cX10_keep 0 = .ok (.iload_n 1, 1) := by decide +kernel
theorem dX10_keep_1 : decode cX10_keep 1 = .ok (.invokestatic 248, 3) := by decide +kernel
theorem dX10_keep_4 : decode cX10_keep 4 = .ok (.ifCond .eq 38, 3) := by decide +kernel
theorem dX10_keep_7 : decode cX10_keep 7 = .ok (.iload_n 2, 1) := by decide +kernel
theorem dX10_keep_8 : decode cX10_keep 8 = .ok (.iconst 0, 1) := by decide +kernel
theorem dX10_keep_9 : decode cX10_keep 9 = .ok (.iconst 1, 1) := by decide +kernel
theorem dX10_keep_10 : decode cX10_keep 10 = .ok (.invokestatic 46, 3) := by decide +kernel
theorem dX10_keep_13 : decode cX10_keep 13 = .ok (.ifCond .eq 29, 3) := by decide +kernel
theorem dX10_keep_16 : decode cX10_keep 16 = .ok (.iload_n 2, 1) := by decide +kernel
theorem dX10_keep_17 : decode cX10_keep 17 = .ok (.iconst 1, 1) := by decide +kernel
theorem dX10_keep_18 : decode cX10_keep 18 = .ok (.if_icmp .ne 26, 3) := by decide +kernel
theorem dX10_keep_21 : decode cX10_keep 21 = .ok (.iload_n 3, 1) := by decide +kernel
theorem dX10_keep_22 : decode cX10_keep 22 = .ok (.iconst 0, 1) := by decide +kernel
theorem dX10_keep_23 : decode cX10_keep 23 = .ok (.bipush 7, 2) := by decide +kernel
theorem dX10_keep_25 : decode cX10_keep 25 = .ok (.invokestatic 46, 3) := by decide +kernel
theorem dX10_keep_28 : decode cX10_keep 28 = .ok (.ifCond .eq 14, 3) := by decide +kernel
theorem dX10_keep_31 : decode cX10_keep 31 = .ok (.iload 4, 2) := by decide +kernel
theorem dX10_keep_33 : decode cX10_keep 33 = .ok (.iconst 0, 1) := by decide +kernel
theorem dX10_keep_34 : decode cX10_keep 34 = .ok (.bipush 9, 2) := by decide +kernel
theorem dX10_keep_36 : decode cX10_keep 36 = .ok (.invokestatic 46, 3) := by decide +kernel
theorem dX10_keep_39 : decode cX10_keep 39 = .ok (.ifCond .ne 5, 3) := by decide +kernel
theorem dX10_keep_42 : decode cX10_keep 42 = .ok (.iconst (-1), 1) := by decide +kernel
theorem dX10_keep_43 : decode cX10_keep 43 = .ok (.ireturn, 1) := by decide +kernel
theorem dX10_keep_44 : decode cX10_keep 44 = .ok (.aload_n 0, 1) := by decide +kernel
theorem dX10_keep_45 : decode cX10_keep 45 = .ok (.getfield 28, 3) := by decide +kernel
theorem dX10_keep_48 : decode cX10_keep 48 = .ok (.iload_n 1, 1) := by decide +kernel
theorem dX10_keep_49 : decode cX10_keep 49 = .ok (.iload_n 2, 1) := by decide +kernel
theorem dX10_keep_50 : decode cX10_keep 50 = .ok (.iastore, 1) := by decide +kernel
theorem dX10_keep_51 : decode cX10_keep 51 = .ok (.aload_n 0, 1) := by decide +kernel
theorem dX10_keep_52 : decode cX10_keep 52 = .ok (.getfield 31, 3) := by decide +kernel
theorem dX10_keep_55 : decode cX10_keep 55 = .ok (.iload_n 1, 1) := by decide +kernel
theorem dX10_keep_56 : decode cX10_keep 56 = .ok (.iload_n 3, 1) := by decide +kernel
theorem dX10_keep_57 : decode cX10_keep 57 = .ok (.iastore, 1) := by decide +kernel
theorem dX10_keep_58 : decode cX10_keep 58 = .ok (.aload_n 0, 1) := by decide +kernel
theorem dX10_keep_59 : decode cX10_keep 59 = .ok (.getfield 34, 3) := by decide +kernel
theorem dX10_keep_62 : decode cX10_keep 62 = .ok (.iload_n 1, 1) := by decide +kernel
theorem dX10_keep_63 : decode cX10_keep 63 = .ok (.iload 4, 2) := by decide +kernel
theorem dX10_keep_65 : decode cX10_keep 65 = .ok (.iastore, 1) := by decide +kernel
theorem dX10_keep_66 : decode cX10_keep 66 = .ok (.iconst 0, 1) := by decide +kernel
theorem dX10_keep_67 : decode cX10_keep 67 = .ok (.ireturn, 1) := by decide +kernel
theorem dX10_row_0 : decode cX10_row 0 = .ok (.iload_n 1, 1) := by decide +kernel
theorem dX10_row_1 : decode cX10_row 1 = .ok (.invokestatic 248, 3) := by decide +kernel
theorem dX10_row_4 : decode cX10_row 4 = .ok (.ifCond .eq 18, 3) := by decide +kernel
theorem dX10_row_7 : decode cX10_row 7 = .ok (.iload_n 2, 1) := by decide +kernel
theorem dX10_row_8 : decode cX10_row 8 = .ok (.iconst 0, 1) := by decide +kernel
theorem dX10_row_9 : decode cX10_row 9 = .ok (.iconst 2, 1) := by decide +kernel
theorem dX10_row_10 : decode cX10_row 10 = .ok (.invokestatic 46, 3) := by decide +kernel
theorem dX10_row_13 : decode cX10_row 13 = .ok (.ifCond .eq 9, 3) := by decide +kernel
theorem dX10_row_16 : decode cX10_row 16 = .ok (.iload_n 3, 1) := by decide +kernel
theorem dX10_row_17 : decode cX10_row 17 = .ok (.bipush 100, 2) := by decide +kernel
theorem dX10_row_19 : decode cX10_row 19 = .ok (.if_icmp .le 5, 3) := by decide +kernel
theorem dX10_row_22 : decode cX10_row 22 = .ok (.iconst (-1), 1) := by decide +kernel
theorem dX10_row_23 : decode cX10_row 23 = .ok (.ireturn, 1) := by decide +kernel
theorem dX10_row_24 : decode cX10_row 24 = .ok (.iload_n 3, 1) := by decide +kernel
theorem dX10_row_25 : decode cX10_row 25 = .ok (.ifCond .ge 6, 3) := by decide +kernel
theorem dX10_row_28 : decode cX10_row 28 = .ok (.bipush (-14), 2) := by decide +kernel
theorem dX10_row_30 : decode cX10_row 30 = .ok (.ireturn, 1) := by decide +kernel
theorem dX10_row_31 : decode cX10_row 31 = .ok (.aload_n 0, 1) := by decide +kernel
theorem dX10_row_32 : decode cX10_row 32 = .ok (.getfield 28, 3) := by decide +kernel
theorem dX10_row_35 : decode cX10_row 35 = .ok (.iload_n 1, 1) := by decide +kernel
theorem dX10_row_36 : decode cX10_row 36 = .ok (.iconst 2, 1) := by decide +kernel
theorem dX10_row_37 : decode cX10_row 37 = .ok (.iastore, 1) := by decide +kernel
theorem dX10_row_38 : decode cX10_row 38 = .ok (.aload_n 0, 1) := by decide +kernel
theorem dX10_row_39 : decode cX10_row 39 = .ok (.getfield 37, 3) := by decide +kernel
theorem dX10_row_42 : decode cX10_row 42 = .ok (.iload_n 1, 1) := by decide +kernel
theorem dX10_row_43 : decode cX10_row 43 = .ok (.iload_n 2, 1) := by decide +kernel
theorem dX10_row_44 : decode cX10_row 44 = .ok (.iastore, 1) := by decide +kernel
theorem dX10_row_45 : decode cX10_row 45 = .ok (.aload_n 0, 1) := by decide +kernel
theorem dX10_row_46 : decode cX10_row 46 = .ok (.getfield 40, 3) := by decide +kernel
theorem dX10_row_49 : decode cX10_row 49 = .ok (.iload_n 1, 1) := by decide +kernel
theorem dX10_row_50 : decode cX10_row 50 = .ok (.iload_n 3, 1) := by decide +kernel
theorem dX10_row_51 : decode cX10_row 51 = .ok (.iastore, 1) := by decide +kernel
theorem dX10_row_52 : decode cX10_row 52 = .ok (.iconst 0, 1) := by decide +kernel
theorem dX10_row_53 : decode cX10_row 53 = .ok (.istore 4, 2) := by decide +kernel
theorem dX10_row_55 : decode cX10_row 55 = .ok (.iload 4, 2) := by decide +kernel
theorem dX10_row_57 : decode cX10_row 57 = .ok (.bipush 100, 2) := by decide +kernel
theorem dX10_row_59 : decode cX10_row 59 = .ok (.if_icmp .ge 22, 3) := by decide +kernel
theorem dX10_row_62 : decode cX10_row 62 = .ok (.aload_n 0, 1) := by decide +kernel
theorem dX10_row_63 : decode cX10_row 63 = .ok (.getfield 43, 3) := by decide +kernel
theorem dX10_row_66 : decode cX10_row 66 = .ok (.bipush 100, 2) := by decide +kernel
theorem dX10_row_68 : decode cX10_row 68 = .ok (.iload_n 1, 1) := by decide +kernel
theorem dX10_row_69 : decode cX10_row 69 = .ok (.imul, 1) := by decide +kernel
theorem dX10_row_70 : decode cX10_row 70 = .ok (.iload 4, 2) := by decide +kernel
theorem dX10_row_72 : decode cX10_row 72 = .ok (.iadd, 1) := by decide +kernel
theorem dX10_row_73 : decode cX10_row 73 = .ok (.iconst 0, 1) := by decide +kernel
theorem dX10_row_74 : decode cX10_row 74 = .ok (.iastore, 1) := by decide +kernel
theorem dX10_row_75 : decode cX10_row 75 = .ok (.iinc 4 1, 3) := by decide +kernel
theorem dX10_row_78 : decode cX10_row 78 = .ok (.goto (-23), 3) := by decide +kernel
theorem dX10_row_81 : decode cX10_row 81 = .ok (.iconst 0, 1) := by decide +kernel
theorem dX10_row_82 : decode cX10_row 82 = .ok (.ireturn, 1) := by decide +kernel
theorem dX10_put_0 : decode cX10_put 0 = .ok (.aload_n 0, 1) := by decide +kernel
theorem dX10_put_1 : decode cX10_put 1 = .ok (.iload_n 1, 1) := by decide +kernel
theorem dX10_put_2 : decode cX10_put 2 = .ok (.iconst (-1), 1) := by decide +kernel
theorem dX10_put_3 : decode cX10_put 3 = .ok (.invokevirtual 148, 3) := by decide +kernel
theorem dX10_put_6 : decode cX10_put 6 = .ok (.istore 4, 2) := by decide +kernel
theorem dX10_put_8 : decode cX10_put 8 = .ok (.iload 4, 2) := by decide +kernel
theorem dX10_put_10 : decode cX10_put 10 = .ok (.ifCond .eq 6, 3) := by decide +kernel
theorem dX10_put_13 : decode cX10_put 13 = .ok (.iload 4, 2) := by decide +kernel
theorem dX10_put_15 : decode cX10_put 15 = .ok (.ireturn, 1) := by decide +kernel
theorem dX10_put_16 : decode cX10_put 16 = .ok (.iload_n 2, 1) := by decide +kernel
theorem dX10_put_17 : decode cX10_put 17 = .ok (.iconst 0, 1) := by decide +kernel
theorem dX10_put_18 : decode cX10_put 18 = .ok (.aload_n 0, 1) := by decide +kernel
theorem dX10_put_19 : decode cX10_put 19 = .ok (.getfield 40, 3) := by decide +kernel
theorem dX10_put_22 : decode cX10_put 22 = .ok (.iload_n 1, 1) := by decide +kernel
theorem dX10_put_23 : decode cX10_put 23 = .ok (.iaload, 1) := by decide +kernel
theorem dX10_put_24 : decode cX10_put 24 = .ok (.iconst 1, 1) := by decide +kernel
theorem dX10_put_25 : decode cX10_put 25 = .ok (.isub, 1) := by decide +kernel
theorem dX10_put_26 : decode cX10_put 26 = .ok (.invokestatic 46, 3) := by decide +kernel
theorem dX10_put_29 : decode cX10_put 29 = .ok (.ifCond .ne 6, 3) := by decide +kernel
theorem dX10_put_32 : decode cX10_put 32 = .ok (.bipush (-13), 2) := by decide +kernel
theorem dX10_put_34 : decode cX10_put 34 = .ok (.ireturn, 1) := by decide +kernel
theorem dX10_put_35 : decode cX10_put 35 = .ok (.aload_n 0, 1) := by decide +kernel
theorem dX10_put_36 : decode cX10_put 36 = .ok (.getfield 43, 3) := by decide +kernel
theorem dX10_put_39 : decode cX10_put 39 = .ok (.bipush 100, 2) := by decide +kernel
theorem dX10_put_41 : decode cX10_put 41 = .ok (.iload_n 1, 1) := by decide +kernel
theorem dX10_put_42 : decode cX10_put 42 = .ok (.imul, 1) := by decide +kernel
theorem dX10_put_43 : decode cX10_put 43 = .ok (.iload_n 2, 1) := by decide +kernel
theorem dX10_put_44 : decode cX10_put 44 = .ok (.iadd, 1) := by decide +kernel
theorem dX10_put_45 : decode cX10_put 45 = .ok (.aload_n 0, 1) := by decide +kernel
theorem dX10_put_46 : decode cX10_put 46 = .ok (.getfield 37, 3) := by decide +kernel
theorem dX10_put_49 : decode cX10_put 49 = .ok (.iload_n 1, 1) := by decide +kernel
theorem dX10_put_50 : decode cX10_put 50 = .ok (.iaload, 1) := by decide +kernel
theorem dX10_put_51 : decode cX10_put 51 = .ok (.ifCond .ne 8, 3) := by decide +kernel
theorem dX10_put_54 : decode cX10_put 54 = .ok (.iload_n 3, 1) := by decide +kernel
theorem dX10_put_55 : decode cX10_put 55 = .ok (.i2b, 1) := by decide +kernel
theorem dX10_put_56 : decode cX10_put 56 = .ok (.goto 19, 3) := by decide +kernel
theorem dX10_put_59 : decode cX10_put 59 = .ok (.aload_n 0, 1) := by decide +kernel
theorem dX10_put_60 : decode cX10_put 60 = .ok (.getfield 37, 3) := by decide +kernel
theorem dX10_put_63 : decode cX10_put 63 = .ok (.iload_n 1, 1) := by decide +kernel
theorem dX10_put_64 : decode cX10_put 64 = .ok (.iaload, 1) := by decide +kernel
theorem dX10_put_65 : decode cX10_put 65 = .ok (.iconst 1, 1) := by decide +kernel
theorem dX10_put_66 : decode cX10_put 66 = .ok (.if_icmp .ne 8, 3) := by decide +kernel
theorem dX10_put_69 : decode cX10_put 69 = .ok (.iload_n 3, 1) := by decide +kernel
theorem dX10_put_70 : decode cX10_put 70 = .ok (.i2s, 1) := by decide +kernel
theorem dX10_put_71 : decode cX10_put 71 = .ok (.goto 4, 3) := by decide +kernel
theorem dX10_put_74 : decode cX10_put 74 = .ok (.iload_n 3, 1) := by decide +kernel
theorem dX10_put_75 : decode cX10_put 75 = .ok (.iastore, 1) := by decide +kernel
theorem dX10_put_76 : decode cX10_put 76 = .ok (.iconst 0, 1) := by decide +kernel
theorem dX10_put_77 : decode cX10_put 77 = .ok (.ireturn, 1) := by decide +kernel
theorem dX10_element_0 : decode cX10_element 0 = .ok (.aload_n 0, 1) := by decide +kernel
theorem dX10_element_1 : decode cX10_element 1 = .ok (.iload_n 1, 1) := by decide +kernel
theorem dX10_element_2 : decode cX10_element 2 = .ok (.invokestatic 248, 3) := by decide +kernel
theorem dX10_element_5 : decode cX10_element 5 = .ok (.ifCond .ne 7, 3) := by decide +kernel
theorem dX10_element_8 : decode cX10_element 8 = .ok (.iconst 1, 1) := by decide +kernel
theorem dX10_element_9 : decode cX10_element 9 = .ok (.goto 34, 3) := by decide +kernel
theorem dX10_element_12 : decode cX10_element 12 = .ok (.aload_n 0, 1) := by decide +kernel
theorem dX10_element_13 : decode cX10_element 13 = .ok (.getfield 28, 3) := by decide +kernel
theorem dX10_element_16 : decode cX10_element 16 = .ok (.iload_n 1, 1) := by decide +kernel
theorem dX10_element_17 : decode cX10_element 17 = .ok (.iaload, 1) := by decide +kernel
theorem dX10_element_18 : decode cX10_element 18 = .ok (.iconst 2, 1) := by decide +kernel
theorem dX10_element_19 : decode cX10_element 19 = .ok (.if_icmp .ne 19, 3) := by decide +kernel
theorem dX10_element_22 : decode cX10_element 22 = .ok (.iload_n 2, 1) := by decide +kernel
theorem dX10_element_23 : decode cX10_element 23 = .ok (.iconst 0, 1) := by decide +kernel
theorem dX10_element_24 : decode cX10_element 24 = .ok (.aload_n 0, 1) := by decide +kernel
theorem dX10_element_25 : decode cX10_element 25 = .ok (.getfield 40, 3) := by decide +kernel
theorem dX10_element_28 : decode cX10_element 28 = .ok (.iload_n 1, 1) := by decide +kernel
theorem dX10_element_29 : decode cX10_element 29 = .ok (.iaload, 1) := by decide +kernel
theorem dX10_element_30 : decode cX10_element 30 = .ok (.iconst 1, 1) := by decide +kernel
theorem dX10_element_31 : decode cX10_element 31 = .ok (.isub, 1) := by decide +kernel
theorem dX10_element_32 : decode cX10_element 32 = .ok (.invokestatic 46, 3) := by decide +kernel
theorem dX10_element_35 : decode cX10_element 35 = .ok (.ifCond .ne 7, 3) := by decide +kernel
theorem dX10_element_38 : decode cX10_element 38 = .ok (.iconst 2, 1) := by decide +kernel
theorem dX10_element_39 : decode cX10_element 39 = .ok (.goto 4, 3) := by decide +kernel
theorem dX10_element_42 : decode cX10_element 42 = .ok (.iconst 0, 1) := by decide +kernel
theorem dX10_element_43 : decode cX10_element 43 = .ok (.putfield 245, 3) := by decide +kernel
theorem dX10_element_46 : decode cX10_element 46 = .ok (.aload_n 0, 1) := by decide +kernel
theorem dX10_element_47 : decode cX10_element 47 = .ok (.getfield 245, 3) := by decide +kernel
theorem dX10_element_50 : decode cX10_element 50 = .ok (.ifCond .ne 18, 3) := by decide +kernel
theorem dX10_element_53 : decode cX10_element 53 = .ok (.aload_n 0, 1) := by decide +kernel
theorem dX10_element_54 : decode cX10_element 54 = .ok (.getfield 43, 3) := by decide +kernel
theorem dX10_element_57 : decode cX10_element 57 = .ok (.bipush 100, 2) := by decide +kernel
theorem dX10_element_59 : decode cX10_element 59 = .ok (.iload_n 1, 1) := by decide +kernel
theorem dX10_element_60 : decode cX10_element 60 = .ok (.imul, 1) := by decide +kernel
theorem dX10_element_61 : decode cX10_element 61 = .ok (.iload_n 2, 1) := by decide +kernel
theorem dX10_element_62 : decode cX10_element 62 = .ok (.iadd, 1) := by decide +kernel
theorem dX10_element_63 : decode cX10_element 63 = .ok (.iaload, 1) := by decide +kernel
theorem dX10_element_64 : decode cX10_element 64 = .ok (.i2l, 1) := by decide +kernel
theorem dX10_element_65 : decode cX10_element 65 = .ok (.goto 4, 3) := by decide +kernel
theorem dX10_element_68 : decode cX10_element 68 = .ok (.lconst 0, 1) := by decide +kernel
theorem dX10_element_69 : decode cX10_element 69 = .ok (.lreturn, 1) := by decide +kernel
theorem dX10_copy_0 : decode cX10_copy 0 = .ok (.iload_n 1, 1) := by decide +kernel
theorem dX10_copy_1 : decode cX10_copy 1 = .ok (.invokestatic 248, 3) := by decide +kernel
theorem dX10_copy_4 : decode cX10_copy 4 = .ok (.ifCond .eq 10, 3) := by decide +kernel
theorem dX10_copy_7 : decode cX10_copy 7 = .ok (.iload_n 3, 1) := by decide +kernel
theorem dX10_copy_8 : decode cX10_copy 8 = .ok (.invokestatic 248, 3) := by decide +kernel
theorem dX10_copy_11 : decode cX10_copy 11 = .ok (.ifCond .ne 5, 3) := by decide +kernel
theorem dX10_copy_14 : decode cX10_copy 14 = .ok (.iconst (-1), 1) := by decide +kernel
theorem dX10_copy_15 : decode cX10_copy 15 = .ok (.ireturn, 1) := by decide +kernel
theorem dX10_copy_16 : decode cX10_copy 16 = .ok (.aload_n 0, 1) := by decide +kernel
theorem dX10_copy_17 : decode cX10_copy 17 = .ok (.getfield 28, 3) := by decide +kernel
theorem dX10_copy_20 : decode cX10_copy 20 = .ok (.iload_n 1, 1) := by decide +kernel
theorem dX10_copy_21 : decode cX10_copy 21 = .ok (.iaload, 1) := by decide +kernel
theorem dX10_copy_22 : decode cX10_copy 22 = .ok (.ifCond .eq 12, 3) := by decide +kernel
theorem dX10_copy_25 : decode cX10_copy 25 = .ok (.aload_n 0, 1) := by decide +kernel
theorem dX10_copy_26 : decode cX10_copy 26 = .ok (.getfield 28, 3) := by decide +kernel
theorem dX10_copy_29 : decode cX10_copy 29 = .ok (.iload_n 3, 1) := by decide +kernel
theorem dX10_copy_30 : decode cX10_copy 30 = .ok (.iaload, 1) := by decide +kernel
theorem dX10_copy_31 : decode cX10_copy 31 = .ok (.ifCond .ne 6, 3) := by decide +kernel
theorem dX10_copy_34 : decode cX10_copy 34 = .ok (.bipush (-11), 2) := by decide +kernel
theorem dX10_copy_36 : decode cX10_copy 36 = .ok (.ireturn, 1) := by decide +kernel
theorem dX10_copy_37 : decode cX10_copy 37 = .ok (.aload_n 0, 1) := by decide +kernel
theorem dX10_copy_38 : decode cX10_copy 38 = .ok (.getfield 28, 3) := by decide +kernel
theorem dX10_copy_41 : decode cX10_copy 41 = .ok (.iload_n 1, 1) := by decide +kernel
theorem dX10_copy_42 : decode cX10_copy 42 = .ok (.iaload, 1) := by decide +kernel
theorem dX10_copy_43 : decode cX10_copy 43 = .ok (.iconst 2, 1) := by decide +kernel
theorem dX10_copy_44 : decode cX10_copy 44 = .ok (.if_icmp .ne 28, 3) := by decide +kernel
theorem dX10_copy_47 : decode cX10_copy 47 = .ok (.aload_n 0, 1) := by decide +kernel
theorem dX10_copy_48 : decode cX10_copy 48 = .ok (.getfield 28, 3) := by decide +kernel
theorem dX10_copy_51 : decode cX10_copy 51 = .ok (.iload_n 3, 1) := by decide +kernel
theorem dX10_copy_52 : decode cX10_copy 52 = .ok (.iaload, 1) := by decide +kernel
theorem dX10_copy_53 : decode cX10_copy 53 = .ok (.iconst 2, 1) := by decide +kernel
theorem dX10_copy_54 : decode cX10_copy 54 = .ok (.if_icmp .ne 18, 3) := by decide +kernel
theorem dX10_copy_57 : decode cX10_copy 57 = .ok (.aload_n 0, 1) := by decide +kernel
theorem dX10_copy_58 : decode cX10_copy 58 = .ok (.getfield 37, 3) := by decide +kernel
theorem dX10_copy_61 : decode cX10_copy 61 = .ok (.iload_n 1, 1) := by decide +kernel
theorem dX10_copy_62 : decode cX10_copy 62 = .ok (.iaload, 1) := by decide +kernel
theorem dX10_copy_63 : decode cX10_copy 63 = .ok (.aload_n 0, 1) := by decide +kernel
theorem dX10_copy_64 : decode cX10_copy 64 = .ok (.getfield 37, 3) := by decide +kernel
theorem dX10_copy_67 : decode cX10_copy 67 = .ok (.iload_n 3, 1) := by decide +kernel
theorem dX10_copy_68 : decode cX10_copy 68 = .ok (.iaload, 1) := by decide +kernel
theorem dX10_copy_69 : decode cX10_copy 69 = .ok (.if_icmp .eq 6, 3) := by decide +kernel
theorem dX10_copy_72 : decode cX10_copy 72 = .ok (.bipush (-12), 2) := by decide +kernel
theorem dX10_copy_74 : decode cX10_copy 74 = .ok (.ireturn, 1) := by decide +kernel
theorem dX10_copy_75 : decode cX10_copy 75 = .ok (.iload 5, 2) := by decide +kernel
theorem dX10_copy_77 : decode cX10_copy 77 = .ok (.ifCond .lt 39, 3) := by decide +kernel
theorem dX10_copy_80 : decode cX10_copy 80 = .ok (.iload_n 2, 1) := by decide +kernel
theorem dX10_copy_81 : decode cX10_copy 81 = .ok (.ifCond .lt 35, 3) := by decide +kernel
theorem dX10_copy_84 : decode cX10_copy 84 = .ok (.iload 4, 2) := by decide +kernel
theorem dX10_copy_86 : decode cX10_copy 86 = .ok (.ifCond .lt 30, 3) := by decide +kernel
theorem dX10_copy_89 : decode cX10_copy 89 = .ok (.iload 5, 2) := by decide +kernel
theorem dX10_copy_91 : decode cX10_copy 91 = .ok (.aload_n 0, 1) := by decide +kernel
theorem dX10_copy_92 : decode cX10_copy 92 = .ok (.getfield 40, 3) := by decide +kernel
theorem dX10_copy_95 : decode cX10_copy 95 = .ok (.iload_n 1, 1) := by decide +kernel
theorem dX10_copy_96 : decode cX10_copy 96 = .ok (.iaload, 1) := by decide +kernel
theorem dX10_copy_97 : decode cX10_copy 97 = .ok (.iload_n 2, 1) := by decide +kernel
theorem dX10_copy_98 : decode cX10_copy 98 = .ok (.isub, 1) := by decide +kernel
theorem dX10_copy_99 : decode cX10_copy 99 = .ok (.if_icmp .gt 17, 3) := by decide +kernel
theorem dX10_copy_102 : decode cX10_copy 102 = .ok (.iload 5, 2) := by decide +kernel
theorem dX10_copy_104 : decode cX10_copy 104 = .ok (.aload_n 0, 1) := by decide +kernel
theorem dX10_copy_105 : decode cX10_copy 105 = .ok (.getfield 40, 3) := by decide +kernel
theorem dX10_copy_108 : decode cX10_copy 108 = .ok (.iload_n 3, 1) := by decide +kernel
theorem dX10_copy_109 : decode cX10_copy 109 = .ok (.iaload, 1) := by decide +kernel
theorem dX10_copy_110 : decode cX10_copy 110 = .ok (.iload 4, 2) := by decide +kernel
theorem dX10_copy_112 : decode cX10_copy 112 = .ok (.isub, 1) := by decide +kernel
theorem dX10_copy_113 : decode cX10_copy 113 = .ok (.if_icmp .le 6, 3) := by decide +kernel
theorem dX10_copy_116 : decode cX10_copy 116 = .ok (.bipush (-13), 2) := by decide +kernel
theorem dX10_copy_118 : decode cX10_copy 118 = .ok (.ireturn, 1) := by decide +kernel
theorem dX10_copy_119 : decode cX10_copy 119 = .ok (.iconst 0, 1) := by decide +kernel
theorem dX10_copy_120 : decode cX10_copy 120 = .ok (.istore 6, 2) := by decide +kernel
theorem dX10_copy_122 : decode cX10_copy 122 = .ok (.iload 6, 2) := by decide +kernel
theorem dX10_copy_124 : decode cX10_copy 124 = .ok (.iload 5, 2) := by decide +kernel
theorem dX10_copy_126 : decode cX10_copy 126 = .ok (.if_icmp .ge 58, 3) := by decide +kernel
theorem dX10_copy_129 : decode cX10_copy 129 = .ok (.iload_n 2, 1) := by decide +kernel
theorem dX10_copy_130 : decode cX10_copy 130 = .ok (.iload 4, 2) := by decide +kernel
theorem dX10_copy_132 : decode cX10_copy 132 = .ok (.if_icmp .le 8, 3) := by decide +kernel
theorem dX10_copy_135 : decode cX10_copy 135 = .ok (.iload 6, 2) := by decide +kernel
theorem dX10_copy_137 : decode cX10_copy 137 = .ok (.goto 10, 3) := by decide +kernel
theorem dX10_copy_140 : decode cX10_copy 140 = .ok (.iload 5, 2) := by decide +kernel
theorem dX10_copy_142 : decode cX10_copy 142 = .ok (.iconst 1, 1) := by decide +kernel
theorem dX10_copy_143 : decode cX10_copy 143 = .ok (.isub, 1) := by decide +kernel
theorem dX10_copy_144 : decode cX10_copy 144 = .ok (.iload 6, 2) := by decide +kernel
theorem dX10_copy_146 : decode cX10_copy 146 = .ok (.isub, 1) := by decide +kernel
theorem dX10_copy_147 : decode cX10_copy 147 = .ok (.istore 7, 2) := by decide +kernel
theorem dX10_copy_149 : decode cX10_copy 149 = .ok (.aload_n 0, 1) := by decide +kernel
theorem dX10_copy_150 : decode cX10_copy 150 = .ok (.getfield 43, 3) := by decide +kernel
theorem dX10_copy_153 : decode cX10_copy 153 = .ok (.bipush 100, 2) := by decide +kernel
theorem dX10_copy_155 : decode cX10_copy 155 = .ok (.iload_n 3, 1) := by decide +kernel
theorem dX10_copy_156 : decode cX10_copy 156 = .ok (.imul, 1) := by decide +kernel
theorem dX10_copy_157 : decode cX10_copy 157 = .ok (.iload 4, 2) := by decide +kernel
theorem dX10_copy_159 : decode cX10_copy 159 = .ok (.iadd, 1) := by decide +kernel
theorem dX10_copy_160 : decode cX10_copy 160 = .ok (.iload 7, 2) := by decide +kernel
theorem dX10_copy_162 : decode cX10_copy 162 = .ok (.iadd, 1) := by decide +kernel
theorem dX10_copy_163 : decode cX10_copy 163 = .ok (.aload_n 0, 1) := by decide +kernel
theorem dX10_copy_164 : decode cX10_copy 164 = .ok (.getfield 43, 3) := by decide +kernel
theorem dX10_copy_167 : decode cX10_copy 167 = .ok (.bipush 100, 2) := by decide +kernel
theorem dX10_copy_169 : decode cX10_copy 169 = .ok (.iload_n 1, 1) := by decide +kernel
theorem dX10_copy_170 : decode cX10_copy 170 = .ok (.imul, 1) := by decide +kernel
theorem dX10_copy_171 : decode cX10_copy 171 = .ok (.iload_n 2, 1) := by decide +kernel
theorem dX10_copy_172 : decode cX10_copy 172 = .ok (.iadd, 1) := by decide +kernel
theorem dX10_copy_173 : decode cX10_copy 173 = .ok (.iload 7, 2) := by decide +kernel
theorem dX10_copy_175 : decode cX10_copy 175 = .ok (.iadd, 1) := by decide +kernel
theorem dX10_copy_176 : decode cX10_copy 176 = .ok (.iaload, 1) := by decide +kernel
theorem dX10_copy_177 : decode cX10_copy 177 = .ok (.iastore, 1) := by decide +kernel
theorem dX10_copy_178 : decode cX10_copy 178 = .ok (.iinc 6 1, 3) := by decide +kernel
theorem dX10_copy_181 : decode cX10_copy 181 = .ok (.goto (-59), 3) := by decide +kernel
theorem dX10_copy_184 : decode cX10_copy 184 = .ok (.iload 5, 2) := by decide +kernel
theorem dX10_copy_186 : decode cX10_copy 186 = .ok (.ireturn, 1) := by decide +kernel
theorem dX10_costBy_0 : decode cX10_costBy 0 = .ok (.iload_n 0, 1) := by decide +kernel
theorem dX10_costBy_1 : decode cX10_costBy 1 = .ok (.tableswitch 70 1 7 #[43, 47, 49, 54, 61, 64, 68], 43) := by decide +kernel
theorem dX10_costBy_44 : decode cX10_costBy 44 = .ok (.iconst 5, 1) := by decide +kernel
theorem dX10_costBy_45 : decode cX10_costBy 45 = .ok (.iload_n 1, 1) := by decide +kernel
theorem dX10_costBy_46 : decode cX10_costBy 46 = .ok (.iadd, 1) := by decide +kernel
theorem dX10_costBy_47 : decode cX10_costBy 47 = .ok (.ireturn, 1) := by decide +kernel
theorem dX10_costBy_48 : decode cX10_costBy 48 = .ok (.iconst 1, 1) := by decide +kernel
theorem dX10_costBy_49 : decode cX10_costBy 49 = .ok (.ireturn, 1) := by decide +kernel
theorem dX10_costBy_50 : decode cX10_costBy 50 = .ok (.bipush 6, 2) := by decide +kernel
theorem dX10_costBy_52 : decode cX10_costBy 52 = .ok (.iload_n 1, 1) := by decide +kernel
theorem dX10_costBy_53 : decode cX10_costBy 53 = .ok (.iadd, 1) := by decide +kernel
theorem dX10_costBy_54 : decode cX10_costBy 54 = .ok (.ireturn, 1) := by decide +kernel
theorem dX10_costBy_55 : decode cX10_costBy 55 = .ok (.bipush 10, 2) := by decide +kernel
theorem dX10_costBy_57 : decode cX10_costBy 57 = .ok (.iconst 2, 1) := by decide +kernel
theorem dX10_costBy_58 : decode cX10_costBy 58 = .ok (.iload_n 1, 1) := by decide +kernel
theorem dX10_costBy_59 : decode cX10_costBy 59 = .ok (.imul, 1) := by decide +kernel
theorem dX10_costBy_60 : decode cX10_costBy 60 = .ok (.iadd, 1) := by decide +kernel
theorem dX10_costBy_61 : decode cX10_costBy 61 = .ok (.ireturn, 1) := by decide +kernel
theorem dX10_costBy_62 : decode cX10_costBy 62 = .ok (.bipush 7, 2) := by decide +kernel
theorem dX10_costBy_64 : decode cX10_costBy 64 = .ok (.ireturn, 1) := by decide +kernel
theorem dX10_costBy_65 : decode cX10_costBy 65 = .ok (.iconst 4, 1) := by decide +kernel
theorem dX10_costBy_66 : decode cX10_costBy 66 = .ok (.iload_n 1, 1) := by decide +kernel
theorem dX10_costBy_67 : decode cX10_costBy 67 = .ok (.iadd, 1) := by decide +kernel
theorem dX10_costBy_68 : decode cX10_costBy 68 = .ok (.ireturn, 1) := by decide +kernel
theorem dX10_costBy_69 : decode cX10_costBy 69 = .ok (.iconst 3, 1) := by decide +kernel
theorem dX10_costBy_70 : decode cX10_costBy 70 = .ok (.ireturn, 1) := by decide +kernel
theorem dX10_costBy_71 : decode cX10_costBy 71 = .ok (.iconst 5, 1) := by decide +kernel
theorem dX10_costBy_72 : decode cX10_costBy 72 = .ok (.ireturn, 1) := by decide +kernel
theorem dX10_cost_0 : decode cX10_cost 0 = .ok (.aload_n 0, 1) := by decide +kernel
theorem dX10_cost_1 : decode cX10_cost 1 = .ok (.iload_n 1, 1) := by decide +kernel
theorem dX10_cost_2 : decode cX10_cost 2 = .ok (.invokevirtual 165, 3) := by decide +kernel
theorem dX10_cost_5 : decode cX10_cost 5 = .ok (.istore_n 2, 1) := by decide +kernel
theorem dX10_cost_6 : decode cX10_cost 6 = .ok (.iload_n 2, 1) := by decide +kernel
theorem dX10_cost_7 : decode cX10_cost 7 = .ok (.ifCond .eq 7, 3) := by decide +kernel
theorem dX10_cost_10 : decode cX10_cost 10 = .ok (.iload_n 2, 1) := by decide +kernel
theorem dX10_cost_11 : decode cX10_cost 11 = .ok (.goto 18, 3) := by decide +kernel
theorem dX10_cost_14 : decode cX10_cost 14 = .ok (.aload_n 0, 1) := by decide +kernel
theorem dX10_cost_15 : decode cX10_cost 15 = .ok (.getfield 31, 3) := by decide +kernel
theorem dX10_cost_18 : decode cX10_cost 18 = .ok (.iload_n 1, 1) := by decide +kernel
theorem dX10_cost_19 : decode cX10_cost 19 = .ok (.iaload, 1) := by decide +kernel
theorem dX10_cost_20 : decode cX10_cost 20 = .ok (.aload_n 0, 1) := by decide +kernel
theorem dX10_cost_21 : decode cX10_cost 21 = .ok (.getfield 34, 3) := by decide +kernel
theorem dX10_cost_24 : decode cX10_cost 24 = .ok (.iload_n 1, 1) := by decide +kernel
theorem dX10_cost_25 : decode cX10_cost 25 = .ok (.iaload, 1) := by decide +kernel
theorem dX10_cost_26 : decode cX10_cost 26 = .ok (.invokestatic 251, 3) := by decide +kernel
theorem dX10_cost_29 : decode cX10_cost 29 = .ok (.ireturn, 1) := by decide +kernel
theorem dX10_toss_0 : decode cX10_toss 0 = .ok (.aload_n 0, 1) := by decide +kernel
theorem dX10_toss_1 : decode cX10_toss 1 = .ok (.iload_n 1, 1) := by decide +kernel
theorem dX10_toss_2 : decode cX10_toss 2 = .ok (.invokevirtual 165, 3) := by decide +kernel
theorem dX10_toss_5 : decode cX10_toss 5 = .ok (.istore_n 2, 1) := by decide +kernel
theorem dX10_toss_6 : decode cX10_toss 6 = .ok (.iload_n 2, 1) := by decide +kernel
theorem dX10_toss_7 : decode cX10_toss 7 = .ok (.ifCond .eq 5, 3) := by decide +kernel
theorem dX10_toss_10 : decode cX10_toss 10 = .ok (.iload_n 2, 1) := by decide +kernel
theorem dX10_toss_11 : decode cX10_toss 11 = .ok (.ireturn, 1) := by decide +kernel
theorem dX10_toss_12 : decode cX10_toss 12 = .ok (.aload_n 0, 1) := by decide +kernel
theorem dX10_toss_13 : decode cX10_toss 13 = .ok (.getfield 31, 3) := by decide +kernel
theorem dX10_toss_16 : decode cX10_toss 16 = .ok (.iload_n 1, 1) := by decide +kernel
theorem dX10_toss_17 : decode cX10_toss 17 = .ok (.iaload, 1) := by decide +kernel
theorem dX10_toss_18 : decode cX10_toss 18 = .ok (.istore_n 3, 1) := by decide +kernel
theorem dX10_toss_19 : decode cX10_toss 19 = .ok (.aload_n 0, 1) := by decide +kernel
theorem dX10_toss_20 : decode cX10_toss 20 = .ok (.getfield 34, 3) := by decide +kernel
theorem dX10_toss_23 : decode cX10_toss 23 = .ok (.iload_n 1, 1) := by decide +kernel
theorem dX10_toss_24 : decode cX10_toss 24 = .ok (.iaload, 1) := by decide +kernel
theorem dX10_toss_25 : decode cX10_toss 25 = .ok (.istore 4, 2) := by decide +kernel
theorem dX10_toss_27 : decode cX10_toss 27 = .ok (.iload_n 3, 1) := by decide +kernel
theorem dX10_toss_28 : decode cX10_toss 28 = .ok (.iconst 2, 1) := by decide +kernel
theorem dX10_toss_29 : decode cX10_toss 29 = .ok (.if_icmp .eq 14, 3) := by decide +kernel
theorem dX10_toss_32 : decode cX10_toss 32 = .ok (.iload_n 3, 1) := by decide +kernel
theorem dX10_toss_33 : decode cX10_toss 33 = .ok (.bipush 7, 2) := by decide +kernel
theorem dX10_toss_35 : decode cX10_toss 35 = .ok (.if_icmp .eq 8, 3) := by decide +kernel
theorem dX10_toss_38 : decode cX10_toss 38 = .ok (.iload 4, 2) := by decide +kernel
theorem dX10_toss_40 : decode cX10_toss 40 = .ok (.ifCond .ne 6, 3) := by decide +kernel
theorem dX10_toss_43 : decode cX10_toss 43 = .ok (.bipush (-15), 2) := by decide +kernel
theorem dX10_toss_45 : decode cX10_toss 45 = .ok (.ireturn, 1) := by decide +kernel
theorem dX10_toss_46 : decode cX10_toss 46 = .ok (.iload_n 3, 1) := by decide +kernel
theorem dX10_toss_47 : decode cX10_toss 47 = .ok (.iconst 4, 1) := by decide +kernel
theorem dX10_toss_48 : decode cX10_toss 48 = .ok (.if_icmp .ne 16, 3) := by decide +kernel
theorem dX10_toss_51 : decode cX10_toss 51 = .ok (.sipush 200, 3) := by decide +kernel
theorem dX10_toss_54 : decode cX10_toss 54 = .ok (.iload_n 3, 1) := by decide +kernel
theorem dX10_toss_55 : decode cX10_toss 55 = .ok (.iload 4, 2) := by decide +kernel
theorem dX10_toss_57 : decode cX10_toss 57 = .ok (.invokestatic 251, 3) := by decide +kernel
theorem dX10_toss_60 : decode cX10_toss 60 = .ok (.iadd, 1) := by decide +kernel
theorem dX10_toss_61 : decode cX10_toss 61 = .ok (.goto 20, 3) := by decide +kernel
theorem dX10_toss_64 : decode cX10_toss 64 = .ok (.iload_n 3, 1) := by decide +kernel
theorem dX10_toss_65 : decode cX10_toss 65 = .ok (.invokestatic 210, 3) := by decide +kernel
theorem dX10_toss_68 : decode cX10_toss 68 = .ok (.ifCond .eq 11, 3) := by decide +kernel
theorem dX10_toss_71 : decode cX10_toss 71 = .ok (.bipush 100, 2) := by decide +kernel
theorem dX10_toss_73 : decode cX10_toss 73 = .ok (.iload 4, 2) := by decide +kernel
theorem dX10_toss_75 : decode cX10_toss 75 = .ok (.iadd, 1) := by decide +kernel
theorem dX10_toss_76 : decode cX10_toss 76 = .ok (.goto 5, 3) := by decide +kernel
theorem dX10_toss_79 : decode cX10_toss 79 = .ok (.iload 4, 2) := by decide +kernel
theorem dX10_toss_81 : decode cX10_toss 81 = .ok (.ireturn, 1) := by decide +kernel
