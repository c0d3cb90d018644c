theorem dX0_init_0 : decode cX0_init 0 = .ok (.aload_n 0, 1) := by decide +kernel
theorem dX0_init_1 : decode cX0_init 1 = .ok (.invokespecial 3, 3) := by decide +kernel
theorem dX0_init_4 : decode cX0_init 4 = .ok (.aload_n 0, 1) := by decide +kernel
theorem dX0_init_5 : decode cX0_init 5 = .ok (.bipush 8, 2) := by decide +kernel
theorem dX0_init_7 : decode cX0_init 7 = .ok (.newarray .int, 2) := by decide +kernel
theorem dX0_init_9 : decode cX0_init 9 = .ok (.putfield 11, 3) := by decide +kernel
theorem dX0_init_12 : decode cX0_init 12 = .ok (.aload_n 0, 1) := by decide +kernel
theorem dX0_init_13 : decode cX0_init 13 = .ok (.bipush 8, 2) := by decide +kernel
theorem dX0_init_15 : decode cX0_init 15 = .ok (.newarray .int, 2) := by decide +kernel
theorem dX0_init_17 : decode cX0_init 17 = .ok (.putfield 15, 3) := by decide +kernel
theorem dX0_init_20 : decode cX0_init 20 = .ok (.aload_n 0, 1) := by decide +kernel
theorem dX0_init_21 : decode cX0_init 21 = .ok (.bipush 8, 2) := by decide +kernel
theorem dX0_init_23 : decode cX0_init 23 = .ok (.newarray .int, 2) := by decide +kernel
theorem dX0_init_25 : decode cX0_init 25 = .ok (.putfield 18, 3) := by decide +kernel
theorem dX0_init_28 : decode cX0_init 28 = .ok (.aload_n 0, 1) := by decide +kernel
theorem dX0_init_29 : decode cX0_init 29 = .ok (.bipush 8, 2) := by decide +kernel
theorem dX0_init_31 : decode cX0_init 31 = .ok (.newarray .int, 2) := by decide +kernel
theorem dX0_init_33 : decode cX0_init 33 = .ok (.putfield 21, 3) := by decide +kernel
theorem dX0_init_36 : decode cX0_init 36 = .ok (.aload_n 0, 1) := by decide +kernel
theorem dX0_init_37 : decode cX0_init 37 = .ok (.iconst 4, 1) := by decide +kernel
theorem dX0_init_38 : decode cX0_init 38 = .ok (.newarray .int, 2) := by decide +kernel
theorem dX0_init_40 : decode cX0_init 40 = .ok (.putfield 24, 3) := by decide +kernel
theorem dX0_init_43 : decode cX0_init 43 = .ok (.aload_n 0, 1) := by decide +kernel
theorem dX0_init_44 : decode cX0_init 44 = .ok (.iconst 0, 1) := by decide +kernel
theorem dX0_init_45 : decode cX0_init 45 = .ok (.putfield 27, 3) := by decide +kernel
theorem dX0_init_48 : decode cX0_init 48 = .ok (.aload_n 0, 1) := by decide +kernel
theorem dX0_init_49 : decode cX0_init 49 = .ok (.iconst 0, 1) := by decide +kernel
theorem dX0_init_50 : decode cX0_init 50 = .ok (.putfield 31, 3) := by decide +kernel
theorem dX0_init_53 : decode cX0_init 53 = .ok (.aload_n 0, 1) := by decide +kernel
theorem dX0_init_54 : decode cX0_init 54 = .ok (.bipush 12, 2) := by decide +kernel
theorem dX0_init_56 : decode cX0_init 56 = .ok (.putfield 34, 3) := by decide +kernel
theorem dX0_init_59 : decode cX0_init 59 = .ok (.aload_n 0, 1) := by decide +kernel
theorem dX0_init_60 : decode cX0_init 60 = .ok (.iconst 0, 1) := by decide +kernel
theorem dX0_init_61 : decode cX0_init 61 = .ok (.putfield 37, 3) := by decide +kernel
theorem dX0_init_64 : decode cX0_init 64 = .ok (.aload_n 0, 1) := by decide +kernel
theorem dX0_init_65 : decode cX0_init 65 = .ok (.iconst 0, 1) := by decide +kernel
theorem dX0_init_66 : decode cX0_init 66 = .ok (.putfield 40, 3) := by decide +kernel
theorem dX0_init_69 : decode cX0_init 69 = .ok (.aload_n 0, 1) := by decide +kernel
theorem dX0_init_70 : decode cX0_init 70 = .ok (.iconst 1, 1) := by decide +kernel
theorem dX0_init_71 : decode cX0_init 71 = .ok (.putfield 43, 3) := by decide +kernel
theorem dX0_init_74 : decode cX0_init 74 = .ok (.return_, 1) := by decide +kernel
theorem dX0_become_0 : decode cX0_become 0 = .ok (.aload_n 1, 1) := by decide +kernel
theorem dX0_become_1 : decode cX0_become 1 = .ok (.getfield 11, 3) := by decide +kernel
theorem dX0_become_4 : decode cX0_become 4 = .ok (.iconst 0, 1) := by decide +kernel
theorem dX0_become_5 : decode cX0_become 5 = .ok (.aload_n 0, 1) := by decide +kernel
theorem dX0_become_6 : decode cX0_become 6 = .ok (.getfield 11, 3) := by decide +kernel
theorem dX0_become_9 : decode cX0_become 9 = .ok (.iconst 0, 1) := by decide +kernel
theorem dX0_become_10 : decode cX0_become 10 = .ok (.bipush 8, 2) := by decide +kernel
theorem dX0_become_12 : decode cX0_become 12 = .ok (.invokestatic 46, 3) := by decide +kernel
theorem dX0_become_15 : decode cX0_become 15 = .ok (.aload_n 1, 1) := by decide +kernel
theorem dX0_become_16 : decode cX0_become 16 = .ok (.getfield 15, 3) := by decide +kernel
theorem dX0_become_19 : decode cX0_become 19 = .ok (.iconst 0, 1) := by decide +kernel
theorem dX0_become_20 : decode cX0_become 20 = .ok (.aload_n 0, 1) := by decide +kernel
theorem dX0_become_21 : decode cX0_become 21 = .ok (.getfield 15, 3) := by decide +kernel
theorem dX0_become_24 : decode cX0_become 24 = .ok (.iconst 0, 1) := by decide +kernel
theorem dX0_become_25 : decode cX0_become 25 = .ok (.bipush 8, 2) := by decide +kernel
theorem dX0_become_27 : decode cX0_become 27 = .ok (.invokestatic 46, 3) := by decide +kernel
theorem dX0_become_30 : decode cX0_become 30 = .ok (.aload_n 1, 1) := by decide +kernel
theorem dX0_become_31 : decode cX0_become 31 = .ok (.getfield 18, 3) := by decide +kernel
theorem dX0_become_34 : decode cX0_become 34 = .ok (.iconst 0, 1) := by decide +kernel
theorem dX0_become_35 : decode cX0_become 35 = .ok (.aload_n 0, 1) := by decide +kernel
theorem dX0_become_36 : decode cX0_become 36 = .ok (.getfield 18, 3) := by decide +kernel
theorem dX0_become_39 : decode cX0_become 39 = .ok (.iconst 0, 1) := by decide +kernel
theorem dX0_become_40 : decode cX0_become 40 = .ok (.bipush 8, 2) := by decide +kernel
theorem dX0_become_42 : decode cX0_become 42 = .ok (.invokestatic 46, 3) := by decide +kernel
theorem dX0_become_45 : decode cX0_become 45 = .ok (.aload_n 1, 1) := by decide +kernel
theorem dX0_become_46 : decode cX0_become 46 = .ok (.getfield 21, 3) := by decide +kernel
theorem dX0_become_49 : decode cX0_become 49 = .ok (.iconst 0, 1) := by decide +kernel
theorem dX0_become_50 : decode cX0_become 50 = .ok (.aload_n 0, 1) := by decide +kernel
theorem dX0_become_51 : decode cX0_become 51 = .ok (.getfield 21, 3) := by decide +kernel
theorem dX0_become_54 : decode cX0_become 54 = .ok (.iconst 0, 1) := by decide +kernel
theorem dX0_become_55 : decode cX0_become 55 = .ok (.bipush 8, 2) := by decide +kernel
theorem dX0_become_57 : decode cX0_become 57 = .ok (.invokestatic 46, 3) := by decide +kernel
theorem dX0_become_60 : decode cX0_become 60 = .ok (.aload_n 1, 1) := by decide +kernel
theorem dX0_become_61 : decode cX0_become 61 = .ok (.getfield 24, 3) := by decide +kernel
theorem dX0_become_64 : decode cX0_become 64 = .ok (.iconst 0, 1) := by decide +kernel
theorem dX0_become_65 : decode cX0_become 65 = .ok (.aload_n 0, 1) := by decide +kernel
theorem dX0_become_66 : decode cX0_become 66 = .ok (.getfield 24, 3) := by decide +kernel
theorem dX0_become_69 : decode cX0_become 69 = .ok (.iconst 0, 1) := by decide +kernel
theorem dX0_become_70 : decode cX0_become 70 = .ok (.iconst 4, 1) := by decide +kernel
theorem dX0_become_71 : decode cX0_become 71 = .ok (.invokestatic 46, 3) := by decide +kernel
theorem dX0_become_74 : decode cX0_become 74 = .ok (.aload_n 0, 1) := by decide +kernel
theorem dX0_become_75 : decode cX0_become 75 = .ok (.aload_n 1, 1) := by decide +kernel
theorem dX0_become_76 : decode cX0_become 76 = .ok (.getfield 27, 3) := by decide +kernel
theorem dX0_become_79 : decode cX0_become 79 = .ok (.putfield 27, 3) := by decide +kernel
theorem dX0_become_82 : decode cX0_become 82 = .ok (.aload_n 0, 1) := by decide +kernel
theorem dX0_become_83 : decode cX0_become 83 = .ok (.aload_n 1, 1) := by decide +kernel
theorem dX0_become_84 : decode cX0_become 84 = .ok (.getfield 31, 3) := by decide +kernel
theorem dX0_become_87 : decode cX0_become 87 = .ok (.putfield 31, 3) := by decide +kernel
theorem dX0_become_90 : decode cX0_become 90 = .ok (.aload_n 0, 1) := by decide +kernel
theorem dX0_become_91 : decode cX0_become 91 = .ok (.aload_n 1, 1) := by decide +kernel
theorem dX0_become_92 : decode cX0_become 92 = .ok (.getfield 34, 3) := by decide +kernel
theorem dX0_become_95 : decode cX0_become 95 = .ok (.putfield 34, 3) := by decide +kernel
theorem dX0_become_98 : decode cX0_become 98 = .ok (.aload_n 0, 1) := by decide +kernel
theorem dX0_become_99 : decode cX0_become 99 = .ok (.aload_n 1, 1) := by decide +kernel
theorem dX0_become_100 : decode cX0_become 100 = .ok (.getfield 37, 3) := by decide +kernel
theorem dX0_become_103 : decode cX0_become 103 = .ok (.putfield 37, 3) := by decide +kernel
theorem dX0_become_106 : decode cX0_become 106 = .ok (.aload_n 0, 1) := by decide +kernel
theorem dX0_become_107 : decode cX0_become 107 = .ok (.aload_n 1, 1) := by decide +kernel
theorem dX0_become_108 : decode cX0_become 108 = .ok (.getfield 40, 3) := by decide +kernel
theorem dX0_become_111 : decode cX0_become 111 = .ok (.putfield 40, 3) := by decide +kernel
theorem dX0_become_114 : decode cX0_become 114 = .ok (.aload_n 0, 1) := by decide +kernel
theorem dX0_become_115 : decode cX0_become 115 = .ok (.aload_n 1, 1) := by decide +kernel
theorem dX0_become_116 : decode cX0_become 116 = .ok (.getfield 43, 3) := by decide +kernel
theorem dX0_become_119 : decode cX0_become 119 = .ok (.putfield 43, 3) := by decide +kernel
theorem dX0_become_122 : decode cX0_become 122 = .ok (.return_, 1) := by decide +kernel
theorem dX0_isWithin_0 : decode cX0_isWithin 0 = .ok (.iload_n 0, 1) := by decide +kernel
theorem dX0_isWithin_1 : decode cX0_isWithin 1 = .ok (.iload_n 1, 1) := by decide +kernel
theorem dX0_isWithin_2 : decode cX0_isWithin 2 = .ok (.if_icmp .lt 12, 3) := by decide +kernel
theorem dX0_isWithin_5 : decode cX0_isWithin 5 = .ok (.iload_n 0, 1) := by decide +kernel
theorem dX0_isWithin_6 : decode cX0_isWithin 6 = .ok (.iload_n 2, 1) := by decide +kernel
theorem dX0_isWithin_7 : decode cX0_isWithin 7 = .ok (.if_icmp .gt 7, 3) := by decide +kernel
theorem dX0_isWithin_10 : decode cX0_isWithin 10 = .ok (.iconst 1, 1) := by decide +kernel
theorem dX0_isWithin_11 : decode cX0_isWithin 11 = .ok (.goto 4, 3) := by decide +kernel
theorem dX0_isWithin_14 : decode cX0_isWithin 14 = .ok (.iconst 0, 1) := by decide +kernel
theorem dX0_isWithin_15 : decode cX0_isWithin 15 = .ok (.ireturn, 1) := by decide +kernel
theorem dX0_isRoom_0 : decode cX0_isRoom 0 = .ok (.iload_n 0, 1) := by decide +kernel
theorem dX0_isRoom_1 : decode cX0_isRoom 1 = .ok (.iconst 0, 1) := by decide +kernel
theorem dX0_isRoom_2 : decode cX0_isRoom 2 = .ok (.iconst 3, 1) := by decide +kernel
theorem dX0_isRoom_3 : decode cX0_isRoom 3 = .ok (.invokestatic 52, 3) := by decide +kernel
theorem dX0_isRoom_6 : decode cX0_isRoom 6 = .ok (.ireturn, 1) := by decide +kernel
theorem dX0_isHour_0 : decode cX0_isHour 0 = .ok (.iload_n 0, 1) := by decide +kernel
theorem dX0_isHour_1 : decode cX0_isHour 1 = .ok (.iconst 0, 1) := by decide +kernel
theorem dX0_isHour_2 : decode cX0_isHour 2 = .ok (.bipush 23, 2) := by decide +kernel
theorem dX0_isHour_4 : decode cX0_isHour 4 = .ok (.invokestatic 52, 3) := by decide +kernel
theorem dX0_isHour_7 : decode cX0_isHour 7 = .ok (.ireturn, 1) := by decide +kernel
theorem dX0_isPayment_0 : decode cX0_isPayment 0 = .ok (.iload_n 0, 1) := by decide +kernel
theorem dX0_isPayment_1 : decode cX0_isPayment 1 = .ok (.iconst 0, 1) := by decide +kernel
theorem dX0_isPayment_2 : decode cX0_isPayment 2 = .ok (.sipush 999, 3) := by decide +kernel
theorem dX0_isPayment_5 : decode cX0_isPayment 5 = .ok (.invokestatic 52, 3) := by decide +kernel
theorem dX0_isPayment_8 : decode cX0_isPayment 8 = .ok (.ireturn, 1) := by decide +kernel
theorem dX0_isWindow_0 : decode cX0_isWindow 0 = .ok (.iload_n 1, 1) := by decide +kernel
theorem dX0_isWindow_1 : decode cX0_isWindow 1 = .ok (.ifCond .lt 15, 3) := by decide +kernel
theorem dX0_isWindow_4 : decode cX0_isWindow 4 = .ok (.iload_n 1, 1) := by decide +kernel
theorem dX0_isWindow_5 : decode cX0_isWindow 5 = .ok (.aload_n 0, 1) := by decide +kernel
theorem dX0_isWindow_6 : decode cX0_isWindow 6 = .ok (.getfield 27, 3) := by decide +kernel
theorem dX0_isWindow_9 : decode cX0_isWindow 9 = .ok (.if_icmp .ge 7, 3) := by decide +kernel
theorem dX0_isWindow_12 : decode cX0_isWindow 12 = .ok (.iconst 1, 1) := by decide +kernel
theorem dX0_isWindow_13 : decode cX0_isWindow 13 = .ok (.goto 4, 3) := by decide +kernel
theorem dX0_isWindow_16 : decode cX0_isWindow 16 = .ok (.iconst 0, 1) := by decide +kernel
theorem dX0_isWindow_17 : decode cX0_isWindow 17 = .ok (.ireturn, 1) := by decide +kernel
theorem dX0_isStopped_0 : decode cX0_isStopped 0 = .ok (.aload_n 0, 1) := by decide +kernel
theorem dX0_isStopped_1 : decode cX0_isStopped 1 = .ok (.getfield 31, 3) := by decide +kernel
theorem dX0_isStopped_4 : decode cX0_isStopped 4 = .ok (.iload_n 1, 1) := by decide +kernel
theorem dX0_isStopped_5 : decode cX0_isStopped 5 = .ok (.ishr, 1) := by decide +kernel
theorem dX0_isStopped_6 : decode cX0_isStopped 6 = .ok (.iconst 1, 1) := by decide +kernel
theorem dX0_isStopped_7 : decode cX0_isStopped 7 = .ok (.iand, 1) := by decide +kernel
theorem dX0_isStopped_8 : decode cX0_isStopped 8 = .ok (.ifCond .eq 7, 3) := by decide +kernel
theorem dX0_isStopped_11 : decode cX0_isStopped 11 = .ok (.iconst 1, 1) := by decide +kernel
theorem dX0_isStopped_12 : decode cX0_isStopped 12 = .ok (.goto 4, 3) := by decide +kernel
theorem dX0_isStopped_15 : decode cX0_isStopped 15 = .ok (.iconst 0, 1) := by decide +kernel
theorem dX0_isStopped_16 : decode cX0_isStopped 16 = .ok (.ireturn, 1) := by decide +kernel
theorem dX0_addWindow_0 : decode cX0_addWindow 0 = .ok (.iload_n 1, 1) := by decide +kernel
theorem dX0_addWindow_1 : decode cX0_addWindow 1 = .ok (.invokestatic 56, 3) := by decide +kernel
theorem dX0_addWindow_4 : decode cX0_addWindow 4 = .ok (.ifCond .eq 25, 3) := by decide +kernel
theorem dX0_addWindow_7 : decode cX0_addWindow 7 = .ok (.iload_n 2, 1) := by decide +kernel
theorem dX0_addWindow_8 : decode cX0_addWindow 8 = .ok (.invokestatic 62, 3) := by decide +kernel
theorem dX0_addWindow_11 : decode cX0_addWindow 11 = .ok (.ifCond .eq 18, 3) := by decide +kernel
theorem dX0_addWindow_14 : decode cX0_addWindow 14 = .ok (.iload_n 3, 1) := by decide +kernel
theorem dX0_addWindow_15 : decode cX0_addWindow 15 = .ok (.invokestatic 65, 3) := by decide +kernel
theorem dX0_addWindow_18 : decode cX0_addWindow 18 = .ok (.ifCond .eq 11, 3) := by decide +kernel
theorem dX0_addWindow_21 : decode cX0_addWindow 21 = .ok (.iload 4, 2) := by decide +kernel
theorem dX0_addWindow_23 : decode cX0_addWindow 23 = .ok (.invokestatic 68, 3) := by decide +kernel
theorem dX0_addWindow_26 : decode cX0_addWindow 26 = .ok (.ifCond .ne 5, 3) := by decide +kernel
theorem dX0_addWindow_29 : decode cX0_addWindow 29 = .ok (.iconst (-1), 1) := by decide +kernel
theorem dX0_addWindow_30 : decode cX0_addWindow 30 = .ok (.ireturn, 1) := by decide +kernel
theorem dX0_addWindow_31 : decode cX0_addWindow 31 = .ok (.aload_n 0, 1) := by decide +kernel
theorem dX0_addWindow_32 : decode cX0_addWindow 32 = .ok (.getfield 27, 3) := by decide +kernel
theorem dX0_addWindow_35 : decode cX0_addWindow 35 = .ok (.bipush 8, 2) := by decide +kernel
theorem dX0_addWindow_37 : decode cX0_addWindow 37 = .ok (.if_icmp .lt 6, 3) := by decide +kernel
theorem dX0_addWindow_40 : decode cX0_addWindow 40 = .ok (.bipush (-2), 2) := by decide +kernel
theorem dX0_addWindow_42 : decode cX0_addWindow 42 = .ok (.ireturn, 1) := by decide +kernel
theorem dX0_addWindow_43 : decode cX0_addWindow 43 = .ok (.aload_n 0, 1) := by decide +kernel
theorem dX0_addWindow_44 : decode cX0_addWindow 44 = .ok (.getfield 11, 3) := by decide +kernel
theorem dX0_addWindow_47 : decode cX0_addWindow 47 = .ok (.aload_n 0, 1) := by decide +kernel
theorem dX0_addWindow_48 : decode cX0_addWindow 48 = .ok (.getfield 27, 3) := by decide +kernel
theorem dX0_addWindow_51 : decode cX0_addWindow 51 = .ok (.iload_n 1, 1) := by decide +kernel
theorem dX0_addWindow_52 : decode cX0_addWindow 52 = .ok (.iastore, 1) := by decide +kernel
theorem dX0_addWindow_53 : decode cX0_addWindow 53 = .ok (.aload_n 0, 1) := by decide +kernel
theorem dX0_addWindow_54 : decode cX0_addWindow 54 = .ok (.getfield 15, 3) := by decide +kernel
theorem dX0_addWindow_57 : decode cX0_addWindow 57 = .ok (.aload_n 0, 1) := by decide +kernel
theorem dX0_addWindow_58 : decode cX0_addWindow 58 = .ok (.getfield 27, 3) := by decide +kernel
theorem dX0_addWindow_61 : decode cX0_addWindow 61 = .ok (.iload_n 2, 1) := by decide +kernel
theorem dX0_addWindow_62 : decode cX0_addWindow 62 = .ok (.iastore, 1) := by decide +kernel
theorem dX0_addWindow_63 : decode cX0_addWindow 63 = .ok (.aload_n 0, 1) := by decide +kernel
theorem dX0_addWindow_64 : decode cX0_addWindow 64 = .ok (.getfield 18, 3) := by decide +kernel
theorem dX0_addWindow_67 : decode cX0_addWindow 67 = .ok (.aload_n 0, 1) := by decide +kernel
theorem dX0_addWindow_68 : decode cX0_addWindow 68 = .ok (.getfield 27, 3) := by decide +kernel
theorem dX0_addWindow_71 : decode cX0_addWindow 71 = .ok (.iload_n 3, 1) := by decide +kernel
theorem dX0_addWindow_72 : decode cX0_addWindow 72 = .ok (.iastore, 1) := by decide +kernel
theorem dX0_addWindow_73 : decode cX0_addWindow 73 = .ok (.aload_n 0, 1) := by decide +kernel
theorem dX0_addWindow_74 : decode cX0_addWindow 74 = .ok (.getfield 21, 3) := by decide +kernel
theorem dX0_addWindow_77 : decode cX0_addWindow 77 = .ok (.aload_n 0, 1) := by decide +kernel
theorem dX0_addWindow_78 : decode cX0_addWindow 78 = .ok (.getfield 27, 3) := by decide +kernel
theorem dX0_addWindow_81 : decode cX0_addWindow 81 = .ok (.iload 4, 2) := by decide +kernel
theorem dX0_addWindow_83 : decode cX0_addWindow 83 = .ok (.iastore, 1) := by decide +kernel
theorem dX0_addWindow_84 : decode cX0_addWindow 84 = .ok (.aload_n 0, 1) := by decide +kernel
theorem dX0_addWindow_85 : decode cX0_addWindow 85 = .ok (.dup, 1) := by decide +kernel
theorem dX0_addWindow_86 : decode cX0_addWindow 86 = .ok (.getfield 27, 3) := by decide +kernel
theorem dX0_addWindow_89 : decode cX0_addWindow 89 = .ok (.iconst 1, 1) := by decide +kernel
theorem dX0_addWindow_90 : decode cX0_addWindow 90 = .ok (.iadd, 1) := by decide +kernel
theorem dX0_addWindow_91 : decode cX0_addWindow 91 = .ok (.putfield 27, 3) := by decide +kernel
theorem dX0_addWindow_94 : decode cX0_addWindow 94 = .ok (.aload_n 0, 1) := by decide +kernel
theorem dX0_addWindow_95 : decode cX0_addWindow 95 = .ok (.getfield 27, 3) := by decide +kernel
theorem dX0_addWindow_98 : decode cX0_addWindow 98 = .ok (.iconst 1, 1) := by decide +kernel
theorem dX0_addWindow_99 : decode cX0_addWindow 99 = .ok (.isub, 1) := by decide +kernel
theorem dX0_addWindow_100 : decode cX0_addWindow 100 = .ok (.ireturn, 1) := by decide +kernel
theorem dX0_turnStopped_0 : decode cX0_turnStopped 0 = .ok (.aload_n 0, 1) := by decide +kernel
theorem dX0_turnStopped_1 : decode cX0_turnStopped 1 = .ok (.iload_n 1, 1) := by decide +kernel
theorem dX0_turnStopped_2 : decode cX0_turnStopped 2 = .ok (.invokevirtual 71, 3) := by decide +kernel
theorem dX0_turnStopped_5 : decode cX0_turnStopped 5 = .ok (.ifCond .ne 5, 3) := by decide +kernel
theorem dX0_turnStopped_8 : decode cX0_turnStopped 8 = .ok (.iconst (-1), 1) := by decide +kernel
theorem dX0_turnStopped_9 : decode cX0_turnStopped 9 = .ok (.ireturn, 1) := by decide +kernel
theorem dX0_turnStopped_10 : decode cX0_turnStopped 10 = .ok (.aload_n 0, 1) := by decide +kernel
theorem dX0_turnStopped_11 : decode cX0_turnStopped 11 = .ok (.dup, 1) := by decide +kernel
theorem dX0_turnStopped_12 : decode cX0_turnStopped 12 = .ok (.getfield 31, 3) := by decide +kernel
theorem dX0_turnStopped_15 : decode cX0_turnStopped 15 = .ok (.iconst 1, 1) := by decide +kernel
theorem dX0_turnStopped_16 : decode cX0_turnStopped 16 = .ok (.iload_n 1, 1) := by decide +kernel
theorem dX0_turnStopped_17 : decode cX0_turnStopped 17 = .ok (.ishl, 1) := by decide +kernel
theorem dX0_turnStopped_18 : decode cX0_turnStopped 18 = .ok (.ixor, 1) := by decide +kernel
theorem dX0_turnStopped_19 : decode cX0_turnStopped 19 = .ok (.putfield 31, 3) := by decide +kernel
theorem dX0_turnStopped_22 : decode cX0_turnStopped 22 = .ok (.aload_n 0, 1) := by decide +kernel
theorem dX0_turnStopped_23 : decode cX0_turnStopped 23 = .ok (.iload_n 1, 1) := by decide +kernel
theorem dX0_turnStopped_24 : decode cX0_turnStopped 24 = .ok (.invokevirtual 74, 3) := by decide +kernel
theorem dX0_turnStopped_27 : decode cX0_turnStopped 27 = .ok (.ifCond .eq 7, 3) := by decide +kernel
theorem dX0_turnStopped_30 : decode cX0_turnStopped 30 = .ok (.iconst 1, 1) := by decide +kernel
theorem dX0_turnStopped_31 : decode cX0_turnStopped 31 = .ok (.goto 4, 3) := by decide +kernel
theorem dX0_turnStopped_34 : decode cX0_turnStopped 34 = .ok (.iconst 0, 1) := by decide +kernel
theorem dX0_turnStopped_35 : decode cX0_turnStopped 35 = .ok (.ireturn, 1) := by decide +kernel
theorem dX0_changeNeed_0 : decode cX0_changeNeed 0 = .ok (.iload_n 1, 1) := by decide +kernel
theorem dX0_changeNeed_1 : decode cX0_changeNeed 1 = .ok (.invokestatic 65, 3) := by decide +kernel
theorem dX0_changeNeed_4 : decode cX0_changeNeed 4 = .ok (.ifCond .eq 13, 3) := by decide +kernel
theorem dX0_changeNeed_7 : decode cX0_changeNeed 7 = .ok (.iload_n 2, 1) := by decide +kernel
theorem dX0_changeNeed_8 : decode cX0_changeNeed 8 = .ok (.iconst 0, 1) := by decide +kernel
theorem dX0_changeNeed_9 : decode cX0_changeNeed 9 = .ok (.bipush 20, 2) := by decide +kernel
theorem dX0_changeNeed_11 : decode cX0_changeNeed 11 = .ok (.invokestatic 52, 3) := by decide +kernel
theorem dX0_changeNeed_14 : decode cX0_changeNeed 14 = .ok (.ifCond .ne 5, 3) := by decide +kernel
theorem dX0_changeNeed_17 : decode cX0_changeNeed 17 = .ok (.iconst (-1), 1) := by decide +kernel
theorem dX0_changeNeed_18 : decode cX0_changeNeed 18 = .ok (.ireturn, 1) := by decide +kernel
theorem dX0_changeNeed_19 : decode cX0_changeNeed 19 = .ok (.aload_n 0, 1) := by decide +kernel
theorem dX0_changeNeed_20 : decode cX0_changeNeed 20 = .ok (.getfield 24, 3) := by decide +kernel
theorem dX0_changeNeed_23 : decode cX0_changeNeed 23 = .ok (.iload_n 1, 1) := by decide +kernel
theorem dX0_changeNeed_24 : decode cX0_changeNeed 24 = .ok (.iaload, 1) := by decide +kernel
theorem dX0_changeNeed_25 : decode cX0_changeNeed 25 = .ok (.istore_n 3, 1) := by decide +kernel
theorem dX0_changeNeed_26 : decode cX0_changeNeed 26 = .ok (.aload_n 0, 1) := by decide +kernel
theorem dX0_changeNeed_27 : decode cX0_changeNeed 27 = .ok (.getfield 24, 3) := by decide +kernel
theorem dX0_changeNeed_30 : decode cX0_changeNeed 30 = .ok (.iload_n 1, 1) := by decide +kernel
theorem dX0_changeNeed_31 : decode cX0_changeNeed 31 = .ok (.iload_n 2, 1) := by decide +kernel
theorem dX0_changeNeed_32 : decode cX0_changeNeed 32 = .ok (.iastore, 1) := by decide +kernel
theorem dX0_changeNeed_33 : decode cX0_changeNeed 33 = .ok (.iload_n 3, 1) := by decide +kernel
theorem dX0_changeNeed_34 : decode cX0_changeNeed 34 = .ok (.ireturn, 1) := by decide +kernel
theorem dX0_changeHour_0 : decode cX0_changeHour 0 = .ok (.iload_n 1, 1) := by decide +kernel
theorem dX0_changeHour_1 : decode cX0_changeHour 1 = .ok (.invokestatic 68, 3) := by decide +kernel
theorem dX0_changeHour_4 : decode cX0_changeHour 4 = .ok (.ifCond .ne 5, 3) := by decide +kernel
theorem dX0_changeHour_7 : decode cX0_changeHour 7 = .ok (.iconst (-1), 1) := by decide +kernel
theorem dX0_changeHour_8 : decode cX0_changeHour 8 = .ok (.ireturn, 1) := by decide +kernel
theorem dX0_changeHour_9 : decode cX0_changeHour 9 = .ok (.aload_n 0, 1) := by decide +kernel
theorem dX0_changeHour_10 : decode cX0_changeHour 10 = .ok (.getfield 34, 3) := by decide +kernel
theorem dX0_changeHour_13 : decode cX0_changeHour 13 = .ok (.istore_n 2, 1) := by decide +kernel
theorem dX0_changeHour_14 : decode cX0_changeHour 14 = .ok (.aload_n 0, 1) := by decide +kernel
theorem dX0_changeHour_15 : decode cX0_changeHour 15 = .ok (.iload_n 1, 1) := by decide +kernel
theorem dX0_changeHour_16 : decode cX0_changeHour 16 = .ok (.putfield 34, 3) := by decide +kernel
theorem dX0_changeHour_19 : decode cX0_changeHour 19 = .ok (.iload_n 2, 1) := by decide +kernel
theorem dX0_changeHour_20 : decode cX0_changeHour 20 = .ok (.ireturn, 1) := by decide +kernel
theorem dX0_changeRate_0 : decode cX0_changeRate 0 = .ok (.iload_n 1, 1) := by decide +kernel
theorem dX0_changeRate_1 : decode cX0_changeRate 1 = .ok (.iconst 1, 1) := by decide +kernel
theorem dX0_changeRate_2 : decode cX0_changeRate 2 = .ok (.bipush 9, 2) := by decide +kernel
theorem dX0_changeRate_4 : decode cX0_changeRate 4 = .ok (.invokestatic 52, 3) := by decide +kernel
theorem dX0_changeRate_7 : decode cX0_changeRate 7 = .ok (.ifCond .ne 5, 3) := by decide +kernel
theorem dX0_changeRate_10 : decode cX0_changeRate 10 = .ok (.iconst (-1), 1) := by decide +kernel
theorem dX0_changeRate_11 : decode cX0_changeRate 11 = .ok (.ireturn, 1) := by decide +kernel
theorem dX0_changeRate_12 : decode cX0_changeRate 12 = .ok (.aload_n 0, 1) := by decide +kernel
theorem dX0_changeRate_13 : decode cX0_changeRate 13 = .ok (.getfield 43, 3) := by decide +kernel
theorem dX0_changeRate_16 : decode cX0_changeRate 16 = .ok (.istore_n 2, 1) := by decide +kernel
theorem dX0_changeRate_17 : decode cX0_changeRate 17 = .ok (.aload_n 0, 1) := by decide +kernel
theorem dX0_changeRate_18 : decode cX0_changeRate 18 = .ok (.iload_n 1, 1) := by decide +kernel
theorem dX0_changeRate_19 : decode cX0_changeRate 19 = .ok (.putfield 43, 3) := by decide +kernel
theorem dX0_changeRate_22 : decode cX0_changeRate 22 = .ok (.iload_n 2, 1) := by decide +kernel
theorem dX0_changeRate_23 : decode cX0_changeRate 23 = .ok (.ireturn, 1) := by decide +kernel
theorem dX0_passYears_0 : decode cX0_passYears 0 = .ok (.iload_n 1, 1) := by decide +kernel
theorem dX0_passYears_1 : decode cX0_passYears 1 = .ok (.iconst 1, 1) := by decide +kernel
theorem dX0_passYears_2 : decode cX0_passYears 2 = .ok (.bipush 99, 2) := by decide +kernel
theorem dX0_passYears_4 : decode cX0_passYears 4 = .ok (.invokestatic 52, 3) := by decide +kernel
theorem dX0_passYears_7 : decode cX0_passYears 7 = .ok (.ifCond .ne 5, 3) := by decide +kernel
theorem dX0_passYears_10 : decode cX0_passYears 10 = .ok (.iconst (-1), 1) := by decide +kernel
theorem dX0_passYears_11 : decode cX0_passYears 11 = .ok (.ireturn, 1) := by decide +kernel
theorem dX0_passYears_12 : decode cX0_passYears 12 = .ok (.aload_n 0, 1) := by decide +kernel
theorem dX0_passYears_13 : decode cX0_passYears 13 = .ok (.getfield 37, 3) := by decide +kernel
theorem dX0_passYears_16 : decode cX0_passYears 16 = .ok (.iload_n 1, 1) := by decide +kernel
theorem dX0_passYears_17 : decode cX0_passYears 17 = .ok (.iadd, 1) := by decide +kernel
theorem dX0_passYears_18 : decode cX0_passYears 18 = .ok (.sipush 999, 3) := by decide +kernel
theorem dX0_passYears_21 : decode cX0_passYears 21 = .ok (.if_icmp .le 6, 3) := by decide +kernel
theorem dX0_passYears_24 : decode cX0_passYears 24 = .ok (.bipush (-3), 2) := by decide +kernel
theorem dX0_passYears_26 : decode cX0_passYears 26 = .ok (.ireturn, 1) := by decide +kernel
theorem dX0_passYears_27 : decode cX0_passYears 27 = .ok (.iconst 0, 1) := by decide +kernel
theorem dX0_passYears_28 : decode cX0_passYears 28 = .ok (.istore_n 2, 1) := by decide +kernel
theorem dX0_passYears_29 : decode cX0_passYears 29 = .ok (.iload_n 2, 1) := by decide +kernel
theorem dX0_passYears_30 : decode cX0_passYears 30 = .ok (.iload_n 1, 1) := by decide +kernel
theorem dX0_passYears_31 : decode cX0_passYears 31 = .ok (.if_icmp .ge 25, 3) := by decide +kernel
theorem dX0_passYears_34 : decode cX0_passYears 34 = .ok (.aload_n 0, 1) := by decide +kernel
theorem dX0_passYears_35 : decode cX0_passYears 35 = .ok (.aload_n 0, 1) := by decide +kernel
theorem dX0_passYears_36 : decode cX0_passYears 36 = .ok (.aload_n 0, 1) := by decide +kernel
theorem dX0_passYears_37 : decode cX0_passYears 37 = .ok (.getfield 40, 3) := by decide +kernel
theorem dX0_passYears_40 : decode cX0_passYears 40 = .ok (.aload_n 0, 1) := by decide +kernel
theorem dX0_passYears_41 : decode cX0_passYears 41 = .ok (.getfield 34, 3) := by decide +kernel
theorem dX0_passYears_44 : decode cX0_passYears 44 = .ok (.invokevirtual 77, 3) := by decide +kernel
theorem dX0_passYears_47 : decode cX0_passYears 47 = .ok (.putfield 40, 3) := by decide +kernel
theorem dX0_passYears_50 : decode cX0_passYears 50 = .ok (.iinc 2 1, 3) := by decide +kernel
theorem dX0_passYears_53 : decode cX0_passYears 53 = .ok (.goto (-24), 3) := by decide +kernel
theorem dX0_passYears_56 : decode cX0_passYears 56 = .ok (.aload_n 0, 1) := by decide +kernel
theorem dX0_passYears_57 : decode cX0_passYears 57 = .ok (.dup, 1) := by decide +kernel
theorem dX0_passYears_58 : decode cX0_passYears 58 = .ok (.getfield 37, 3) := by decide +kernel
theorem dX0_passYears_61 : decode cX0_passYears 61 = .ok (.iload_n 1, 1) := by decide +kernel
theorem dX0_passYears_62 : decode cX0_passYears 62 = .ok (.iadd, 1) := by decide +kernel
theorem dX0_passYears_63 : decode cX0_passYears 63 = .ok (.putfield 37, 3) := by decide +kernel
theorem dX0_passYears_66 : decode cX0_passYears 66 = .ok (.aload_n 0, 1) := by decide +kernel
theorem dX0_passYears_67 : decode cX0_passYears 67 = .ok (.getfield 40, 3) := by decide +kernel
theorem dX0_passYears_70 : decode cX0_passYears 70 = .ok (.ireturn, 1) := by decide +kernel
theorem dX0_payOff_0 : decode cX0_payOff 0 = .ok (.iload_n 1, 1) := by decide +kernel
theorem dX0_payOff_1 : decode cX0_payOff 1 = .ok (.invokestatic 81, 3) := by decide +kernel
theorem dX0_payOff_4 : decode cX0_payOff 4 = .ok (.ifCond .ne 5, 3) := by decide +kernel
theorem dX0_payOff_7 : decode cX0_payOff 7 = .ok (.iconst (-1), 1) := by decide +kernel
theorem dX0_payOff_8 : decode cX0_payOff 8 = .ok (.ireturn, 1) := by decide +kernel
theorem dX0_payOff_9 : decode cX0_payOff 9 = .ok (.iload_n 1, 1) := by decide +kernel
theorem dX0_payOff_10 : decode cX0_payOff 10 = .ok (.aload_n 0, 1) := by decide +kernel
theorem dX0_payOff_11 : decode cX0_payOff 11 = .ok (.getfield 40, 3) := by decide +kernel
theorem dX0_payOff_14 : decode cX0_payOff 14 = .ok (.if_icmp .le 6, 3) := by decide +kernel
theorem dX0_payOff_17 : decode cX0_payOff 17 = .ok (.bipush (-3), 2) := by decide +kernel
theorem dX0_payOff_19 : decode cX0_payOff 19 = .ok (.ireturn, 1) := by decide +kernel
theorem dX0_payOff_20 : decode cX0_payOff 20 = .ok (.aload_n 0, 1) := by decide +kernel
theorem dX0_payOff_21 : decode cX0_payOff 21 = .ok (.dup, 1) := by decide +kernel
theorem dX0_payOff_22 : decode cX0_payOff 22 = .ok (.getfield 40, 3) := by decide +kernel
theorem dX0_payOff_25 : decode cX0_payOff 25 = .ok (.iload_n 1, 1) := by decide +kernel
theorem dX0_payOff_26 : decode cX0_payOff 26 = .ok (.isub, 1) := by decide +kernel
theorem dX0_payOff_27 : decode cX0_payOff 27 = .ok (.putfield 40, 3) := by decide +kernel
theorem dX0_payOff_30 : decode cX0_payOff 30 = .ok (.aload_n 0, 1) := by decide +kernel
theorem dX0_payOff_31 : decode cX0_payOff 31 = .ok (.getfield 40, 3) := by decide +kernel
theorem dX0_payOff_34 : decode cX0_payOff 34 = .ok (.ireturn, 1) := by decide +kernel
theorem dX0_shineOf_0 : decode cX0_shineOf 0 = .ok (.aload_n 0, 1) := by decide +kernel
theorem dX0_shineOf_1 : decode cX0_shineOf 1 = .ok (.iload_n 1, 1) := by decide +kernel
theorem dX0_shineOf_2 : decode cX0_shineOf 2 = .ok (.invokevirtual 74, 3) := by decide +kernel
theorem dX0_shineOf_5 : decode cX0_shineOf 5 = .ok (.ifCond .eq 7, 3) := by decide +kernel
theorem dX0_shineOf_8 : decode cX0_shineOf 8 = .ok (.iconst 0, 1) := by decide +kernel
theorem dX0_shineOf_9 : decode cX0_shineOf 9 = .ok (.goto 28, 3) := by decide +kernel
theorem dX0_shineOf_12 : decode cX0_shineOf 12 = .ok (.aload_n 0, 1) := by decide +kernel
theorem dX0_shineOf_13 : decode cX0_shineOf 13 = .ok (.getfield 11, 3) := by decide +kernel
theorem dX0_shineOf_16 : decode cX0_shineOf 16 = .ok (.iload_n 1, 1) := by decide +kernel
theorem dX0_shineOf_17 : decode cX0_shineOf 17 = .ok (.iaload, 1) := by decide +kernel
theorem dX0_shineOf_18 : decode cX0_shineOf 18 = .ok (.aload_n 0, 1) := by decide +kernel
theorem dX0_shineOf_19 : decode cX0_shineOf 19 = .ok (.getfield 15, 3) := by decide +kernel
theorem dX0_shineOf_22 : decode cX0_shineOf 22 = .ok (.iload_n 1, 1) := by decide +kernel
theorem dX0_shineOf_23 : decode cX0_shineOf 23 = .ok (.iaload, 1) := by decide +kernel
theorem dX0_shineOf_24 : decode cX0_shineOf 24 = .ok (.aload_n 0, 1) := by decide +kernel
theorem dX0_shineOf_25 : decode cX0_shineOf 25 = .ok (.getfield 21, 3) := by decide +kernel
theorem dX0_shineOf_28 : decode cX0_shineOf 28 = .ok (.iload_n 1, 1) := by decide +kernel
theorem dX0_shineOf_29 : decode cX0_shineOf 29 = .ok (.iaload, 1) := by decide +kernel
theorem dX0_shineOf_30 : decode cX0_shineOf 30 = .ok (.iload_n 2, 1) := by decide +kernel
theorem dX0_shineOf_31 : decode cX0_shineOf 31 = .ok (.invokestatic 84, 3) := by decide +kernel
theorem dX0_shineOf_34 : decode cX0_shineOf 34 = .ok (.invokestatic 87, 3) := by decide +kernel
theorem dX0_shineOf_37 : decode cX0_shineOf 37 = .ok (.ireturn, 1) := by decide +kernel
theorem dX0_isMoving_0 : decode cX0_isMoving 0 = .ok (.aload_n 0, 1) := by decide +kernel
theorem dX0_isMoving_1 : decode cX0_isMoving 1 = .ok (.iload_n 1, 1) := by decide +kernel
theorem dX0_isMoving_2 : decode cX0_isMoving 2 = .ok (.invokevirtual 74, 3) := by decide +kernel
theorem dX0_isMoving_5 : decode cX0_isMoving 5 = .ok (.ifCond .ne 36, 3) := by decide +kernel
theorem dX0_isMoving_8 : decode cX0_isMoving 8 = .ok (.aload_n 0, 1) := by decide +kernel
theorem dX0_isMoving_9 : decode cX0_isMoving 9 = .ok (.getfield 11, 3) := by decide +kernel
theorem dX0_isMoving_12 : decode cX0_isMoving 12 = .ok (.iload_n 1, 1) := by decide +kernel
theorem dX0_isMoving_13 : decode cX0_isMoving 13 = .ok (.iaload, 1) := by decide +kernel
theorem dX0_isMoving_14 : decode cX0_isMoving 14 = .ok (.aload_n 0, 1) := by decide +kernel
theorem dX0_isMoving_15 : decode cX0_isMoving 15 = .ok (.getfield 15, 3) := by decide +kernel
theorem dX0_isMoving_18 : decode cX0_isMoving 18 = .ok (.iload_n 1, 1) := by decide +kernel
theorem dX0_isMoving_19 : decode cX0_isMoving 19 = .ok (.iaload, 1) := by decide +kernel
theorem dX0_isMoving_20 : decode cX0_isMoving 20 = .ok (.aload_n 0, 1) := by decide +kernel
theorem dX0_isMoving_21 : decode cX0_isMoving 21 = .ok (.getfield 21, 3) := by decide +kernel
theorem dX0_isMoving_24 : decode cX0_isMoving 24 = .ok (.iload_n 1, 1) := by decide +kernel
theorem dX0_isMoving_25 : decode cX0_isMoving 25 = .ok (.iaload, 1) := by decide +kernel
theorem dX0_isMoving_26 : decode cX0_isMoving 26 = .ok (.iload_n 2, 1) := by decide +kernel
theorem dX0_isMoving_27 : decode cX0_isMoving 27 = .ok (.invokestatic 84, 3) := by decide +kernel
theorem dX0_isMoving_30 : decode cX0_isMoving 30 = .ok (.iload_n 2, 1) := by decide +kernel
theorem dX0_isMoving_31 : decode cX0_isMoving 31 = .ok (.invokestatic 91, 3) := by decide +kernel
theorem dX0_isMoving_34 : decode cX0_isMoving 34 = .ok (.ifCond .eq 7, 3) := by decide +kernel
theorem dX0_isMoving_37 : decode cX0_isMoving 37 = .ok (.iconst 1, 1) := by decide +kernel
theorem dX0_isMoving_38 : decode cX0_isMoving 38 = .ok (.goto 4, 3) := by decide +kernel
theorem dX0_isMoving_41 : decode cX0_isMoving 41 = .ok (.iconst 0, 1) := by decide +kernel
theorem dX0_isMoving_42 : decode cX0_isMoving 42 = .ok (.ireturn, 1) := by decide +kernel
theorem dX0_seemingOf_0 : decode cX0_seemingOf 0 = .ok (.aload_n 0, 1) := by decide +kernel
theorem dX0_seemingOf_1 : decode cX0_seemingOf 1 = .ok (.iload_n 1, 1) := by decide +kernel
theorem dX0_seemingOf_2 : decode cX0_seemingOf 2 = .ok (.invokevirtual 74, 3) := by decide +kernel
theorem dX0_seemingOf_5 : decode cX0_seemingOf 5 = .ok (.ifCond .eq 7, 3) := by decide +kernel
theorem dX0_seemingOf_8 : decode cX0_seemingOf 8 = .ok (.iconst 0, 1) := by decide +kernel
theorem dX0_seemingOf_9 : decode cX0_seemingOf 9 = .ok (.goto 9, 3) := by decide +kernel
theorem dX0_seemingOf_12 : decode cX0_seemingOf 12 = .ok (.aload_n 0, 1) := by decide +kernel
theorem dX0_seemingOf_13 : decode cX0_seemingOf 13 = .ok (.iload_n 1, 1) := by decide +kernel
theorem dX0_seemingOf_14 : decode cX0_seemingOf 14 = .ok (.iload_n 2, 1) := by decide +kernel
theorem dX0_seemingOf_15 : decode cX0_seemingOf 15 = .ok (.invokevirtual 95, 3) := by decide +kernel
theorem dX0_seemingOf_18 : decode cX0_seemingOf 18 = .ok (.ireturn, 1) := by decide +kernel
theorem dX0_unstoppedSeeming_0 : decode cX0_unstoppedSeeming 0 = .ok (.aload_n 0, 1) := by decide +kernel
theorem dX0_unstoppedSeeming_1 : decode cX0_unstoppedSeeming 1 = .ok (.getfield 11, 3) := by decide +kernel
theorem dX0_unstoppedSeeming_4 : decode cX0_unstoppedSeeming 4 = .ok (.iload_n 1, 1) := by decide +kernel
theorem dX0_unstoppedSeeming_5 : decode cX0_unstoppedSeeming 5 = .ok (.iaload, 1) := by decide +kernel
theorem dX0_unstoppedSeeming_6 : decode cX0_unstoppedSeeming 6 = .ok (.aload_n 0, 1) := by decide +kernel
theorem dX0_unstoppedSeeming_7 : decode cX0_unstoppedSeeming 7 = .ok (.getfield 15, 3) := by decide +kernel
theorem dX0_unstoppedSeeming_10 : decode cX0_unstoppedSeeming 10 = .ok (.iload_n 1, 1) := by decide +kernel
theorem dX0_unstoppedSeeming_11 : decode cX0_unstoppedSeeming 11 = .ok (.iaload, 1) := by decide +kernel
theorem dX0_unstoppedSeeming_12 : decode cX0_unstoppedSeeming 12 = .ok (.aload_n 0, 1) := by decide +kernel
theorem dX0_unstoppedSeeming_13 : decode cX0_unstoppedSeeming 13 = .ok (.getfield 21, 3) := by decide +kernel
theorem dX0_unstoppedSeeming_16 : decode cX0_unstoppedSeeming 16 = .ok (.iload_n 1, 1) := by decide +kernel
theorem dX0_unstoppedSeeming_17 : decode cX0_unstoppedSeeming 17 = .ok (.iaload, 1) := by decide +kernel
theorem dX0_unstoppedSeeming_18 : decode cX0_unstoppedSeeming 18 = .ok (.iload_n 2, 1) := by decide +kernel
theorem dX0_unstoppedSeeming_19 : decode cX0_unstoppedSeeming 19 = .ok (.invokestatic 84, 3) := by decide +kernel
theorem dX0_unstoppedSeeming_22 : decode cX0_unstoppedSeeming 22 = .ok (.iload_n 2, 1) := by decide +kernel
theorem dX0_unstoppedSeeming_23 : decode cX0_unstoppedSeeming 23 = .ok (.invokestatic 98, 3) := by decide +kernel
theorem dX0_unstoppedSeeming_26 : decode cX0_unstoppedSeeming 26 = .ok (.ireturn, 1) := by decide +kernel
theorem dX0_roomLight_0 : decode cX0_roomLight 0 = .ok (.iconst 0, 1) := by decide +kernel
theorem dX0_roomLight_1 : decode cX0_roomLight 1 = .ok (.istore_n 3, 1) := by decide +kernel
theorem dX0_roomLight_2 : decode cX0_roomLight 2 = .ok (.iconst 0, 1) := by decide +kernel
theorem dX0_roomLight_3 : decode cX0_roomLight 3 = .ok (.istore 4, 2) := by decide +kernel
theorem dX0_roomLight_5 : decode cX0_roomLight 5 = .ok (.iload 4, 2) := by decide +kernel
theorem dX0_roomLight_7 : decode cX0_roomLight 7 = .ok (.aload_n 0, 1) := by decide +kernel
theorem dX0_roomLight_8 : decode cX0_roomLight 8 = .ok (.getfield 27, 3) := by decide +kernel
theorem dX0_roomLight_11 : decode cX0_roomLight 11 = .ok (.if_icmp .ge 30, 3) := by decide +kernel
theorem dX0_roomLight_14 : decode cX0_roomLight 14 = .ok (.aload_n 0, 1) := by decide +kernel
theorem dX0_roomLight_15 : decode cX0_roomLight 15 = .ok (.getfield 18, 3) := by decide +kernel
theorem dX0_roomLight_18 : decode cX0_roomLight 18 = .ok (.iload 4, 2) := by decide +kernel
theorem dX0_roomLight_20 : decode cX0_roomLight 20 = .ok (.iaload, 1) := by decide +kernel
theorem dX0_roomLight_21 : decode cX0_roomLight 21 = .ok (.iload_n 1, 1) := by decide +kernel
theorem dX0_roomLight_22 : decode cX0_roomLight 22 = .ok (.if_icmp .ne 13, 3) := by decide +kernel
theorem dX0_roomLight_25 : decode cX0_roomLight 25 = .ok (.iload_n 3, 1) := by decide +kernel
theorem dX0_roomLight_26 : decode cX0_roomLight 26 = .ok (.aload_n 0, 1) := by decide +kernel
theorem dX0_roomLight_27 : decode cX0_roomLight 27 = .ok (.iload 4, 2) := by decide +kernel
theorem dX0_roomLight_29 : decode cX0_roomLight 29 = .ok (.iload_n 2, 1) := by decide +kernel
theorem dX0_roomLight_30 : decode cX0_roomLight 30 = .ok (.invokevirtual 102, 3) := by decide +kernel
theorem dX0_roomLight_33 : decode cX0_roomLight 33 = .ok (.iadd, 1) := by decide +kernel
theorem dX0_roomLight_34 : decode cX0_roomLight 34 = .ok (.istore_n 3, 1) := by decide +kernel
theorem dX0_roomLight_35 : decode cX0_roomLight 35 = .ok (.iinc 4 1, 3) := by decide +kernel
theorem dX0_roomLight_38 : decode cX0_roomLight 38 = .ok (.goto (-33), 3) := by decide +kernel
theorem dX0_roomLight_41 : decode cX0_roomLight 41 = .ok (.iload_n 3, 1) := by decide +kernel
theorem dX0_roomLight_42 : decode cX0_roomLight 42 = .ok (.ireturn, 1) := by decide +kernel
theorem dX0_wholeLight_0 : decode cX0_wholeLight 0 = .ok (.iconst 0, 1) := by decide +kernel
theorem dX0_wholeLight_1 : decode cX0_wholeLight 1 = .ok (.istore_n 2, 1) := by decide +kernel
theorem dX0_wholeLight_2 : decode cX0_wholeLight 2 = .ok (.iconst 0, 1) := by decide +kernel
theorem dX0_wholeLight_3 : decode cX0_wholeLight 3 = .ok (.istore_n 3, 1) := by decide +kernel
theorem dX0_wholeLight_4 : decode cX0_wholeLight 4 = .ok (.iload_n 3, 1) := by decide +kernel
theorem dX0_wholeLight_5 : decode cX0_wholeLight 5 = .ok (.aload_n 0, 1) := by decide +kernel
theorem dX0_wholeLight_6 : decode cX0_wholeLight 6 = .ok (.getfield 27, 3) := by decide +kernel
theorem dX0_wholeLight_9 : decode cX0_wholeLight 9 = .ok (.if_icmp .ge 18, 3) := by decide +kernel
theorem dX0_wholeLight_12 : decode cX0_wholeLight 12 = .ok (.iload_n 2, 1) := by decide +kernel
theorem dX0_wholeLight_13 : decode cX0_wholeLight 13 = .ok (.aload_n 0, 1) := by decide +kernel
theorem dX0_wholeLight_14 : decode cX0_wholeLight 14 = .ok (.iload_n 3, 1) := by decide +kernel
theorem dX0_wholeLight_15 : decode cX0_wholeLight 15 = .ok (.iload_n 1, 1) := by decide +kernel
theorem dX0_wholeLight_16 : decode cX0_wholeLight 16 = .ok (.invokevirtual 102, 3) := by decide +kernel
theorem dX0_wholeLight_19 : decode cX0_wholeLight 19 = .ok (.iadd, 1) := by decide +kernel
theorem dX0_wholeLight_20 : decode cX0_wholeLight 20 = .ok (.istore_n 2, 1) := by decide +kernel
theorem dX0_wholeLight_21 : decode cX0_wholeLight 21 = .ok (.iinc 3 1, 3) := by decide +kernel
theorem dX0_wholeLight_24 : decode cX0_wholeLight 24 = .ok (.goto (-20), 3) := by decide +kernel
theorem dX0_wholeLight_27 : decode cX0_wholeLight 27 = .ok (.iload_n 2, 1) := by decide +kernel
theorem dX0_wholeLight_28 : decode cX0_wholeLight 28 = .ok (.ireturn, 1) := by decide +kernel
theorem dX0_allNeeds_0 : decode cX0_allNeeds 0 = .ok (.iconst 0, 1) := by decide +kernel
theorem dX0_allNeeds_1 : decode cX0_allNeeds 1 = .ok (.istore_n 1, 1) := by decide +kernel
theorem dX0_allNeeds_2 : decode cX0_allNeeds 2 = .ok (.iconst 0, 1) := by decide +kernel
theorem dX0_allNeeds_3 : decode cX0_allNeeds 3 = .ok (.istore_n 2, 1) := by decide +kernel
theorem dX0_allNeeds_4 : decode cX0_allNeeds 4 = .ok (.iload_n 2, 1) := by decide +kernel
theorem dX0_allNeeds_5 : decode cX0_allNeeds 5 = .ok (.iconst 4, 1) := by decide +kernel
theorem dX0_allNeeds_6 : decode cX0_allNeeds 6 = .ok (.if_icmp .ge 18, 3) := by decide +kernel
theorem dX0_allNeeds_9 : decode cX0_allNeeds 9 = .ok (.iload_n 1, 1) := by decide +kernel
theorem dX0_allNeeds_10 : decode cX0_allNeeds 10 = .ok (.aload_n 0, 1) := by decide +kernel
theorem dX0_allNeeds_11 : decode cX0_allNeeds 11 = .ok (.getfield 24, 3) := by decide +kernel
theorem dX0_allNeeds_14 : decode cX0_allNeeds 14 = .ok (.iload_n 2, 1) := by decide +kernel
theorem dX0_allNeeds_15 : decode cX0_allNeeds 15 = .ok (.iaload, 1) := by decide +kernel
theorem dX0_allNeeds_16 : decode cX0_allNeeds 16 = .ok (.iadd, 1) := by decide +kernel
theorem dX0_allNeeds_17 : decode cX0_allNeeds 17 = .ok (.istore_n 1, 1) := by decide +kernel
theorem dX0_allNeeds_18 : decode cX0_allNeeds 18 = .ok (.iinc 2 1, 3) := by decide +kernel
theorem dX0_allNeeds_21 : decode cX0_allNeeds 21 = .ok (.goto (-17), 3) := by decide +kernel
theorem dX0_allNeeds_24 : decode cX0_allNeeds 24 = .ok (.iload_n 1, 1) := by decide +kernel
theorem dX0_allNeeds_25 : decode cX0_allNeeds 25 = .ok (.ireturn, 1) := by decide +kernel
theorem dX0_lackOf_0 : decode cX0_lackOf 0 = .ok (.aload_n 0, 1) := by decide +kernel
theorem dX0_lackOf_1 : decode cX0_lackOf 1 = .ok (.getfield 24, 3) := by decide +kernel
theorem dX0_lackOf_4 : decode cX0_lackOf 4 = .ok (.iload_n 1, 1) := by decide +kernel
theorem dX0_lackOf_5 : decode cX0_lackOf 5 = .ok (.iaload, 1) := by decide +kernel
theorem dX0_lackOf_6 : decode cX0_lackOf 6 = .ok (.ifCond .ne 7, 3) := by decide +kernel
theorem dX0_lackOf_9 : decode cX0_lackOf 9 = .ok (.iconst 0, 1) := by decide +kernel
theorem dX0_lackOf_10 : decode cX0_lackOf 10 = .ok (.goto 20, 3) := by decide +kernel
theorem dX0_lackOf_13 : decode cX0_lackOf 13 = .ok (.iconst 0, 1) := by decide +kernel
theorem dX0_lackOf_14 : decode cX0_lackOf 14 = .ok (.aload_n 0, 1) := by decide +kernel
theorem dX0_lackOf_15 : decode cX0_lackOf 15 = .ok (.getfield 24, 3) := by decide +kernel
theorem dX0_lackOf_18 : decode cX0_lackOf 18 = .ok (.iload_n 1, 1) := by decide +kernel
theorem dX0_lackOf_19 : decode cX0_lackOf 19 = .ok (.iaload, 1) := by decide +kernel
theorem dX0_lackOf_20 : decode cX0_lackOf 20 = .ok (.aload_n 0, 1) := by decide +kernel
theorem dX0_lackOf_21 : decode cX0_lackOf 21 = .ok (.iload_n 1, 1) := by decide +kernel
theorem dX0_lackOf_22 : decode cX0_lackOf 22 = .ok (.iload_n 2, 1) := by decide +kernel
theorem dX0_lackOf_23 : decode cX0_lackOf 23 = .ok (.invokevirtual 105, 3) := by decide +kernel
theorem dX0_lackOf_26 : decode cX0_lackOf 26 = .ok (.isub, 1) := by decide +kernel
theorem dX0_lackOf_27 : decode cX0_lackOf 27 = .ok (.invokestatic 108, 3) := by decide +kernel
theorem dX0_lackOf_30 : decode cX0_lackOf 30 = .ok (.ireturn, 1) := by decide +kernel
theorem dX0_isAnyLacking_0 : decode cX0_isAnyLacking 0 = .ok (.iconst 0, 1) := by decide +kernel
theorem dX0_isAnyLacking_1 : decode cX0_isAnyLacking 1 = .ok (.istore_n 2, 1) := by decide +kernel
theorem dX0_isAnyLacking_2 : decode cX0_isAnyLacking 2 = .ok (.iload_n 2, 1) := by decide +kernel
theorem dX0_isAnyLacking_3 : decode cX0_isAnyLacking 3 = .ok (.iconst 4, 1) := by decide +kernel
theorem dX0_isAnyLacking_4 : decode cX0_isAnyLacking 4 = .ok (.if_icmp .ge 20, 3) := by decide +kernel
theorem dX0_isAnyLacking_7 : decode cX0_isAnyLacking 7 = .ok (.aload_n 0, 1) := by decide +kernel
theorem dX0_isAnyLacking_8 : decode cX0_isAnyLacking 8 = .ok (.iload_n 2, 1) := by decide +kernel
theorem dX0_isAnyLacking_9 : decode cX0_isAnyLacking 9 = .ok (.iload_n 1, 1) := by decide +kernel
theorem dX0_isAnyLacking_10 : decode cX0_isAnyLacking 10 = .ok (.invokevirtual 113, 3) := by decide +kernel
theorem dX0_isAnyLacking_13 : decode cX0_isAnyLacking 13 = .ok (.ifCond .le 5, 3) := by decide +kernel
theorem dX0_isAnyLacking_16 : decode cX0_isAnyLacking 16 = .ok (.iconst 1, 1) := by decide +kernel
theorem dX0_isAnyLacking_17 : decode cX0_isAnyLacking 17 = .ok (.ireturn, 1) := by decide +kernel
theorem dX0_isAnyLacking_18 : decode cX0_isAnyLacking 18 = .ok (.iinc 2 1, 3) := by decide +kernel
theorem dX0_isAnyLacking_21 : decode cX0_isAnyLacking 21 = .ok (.goto (-19), 3) := by decide +kernel
theorem dX0_isAnyLacking_24 : decode cX0_isAnyLacking 24 = .ok (.iconst 0, 1) := by decide +kernel
theorem dX0_isAnyLacking_25 : decode cX0_isAnyLacking 25 = .ok (.ireturn, 1) := by decide +kernel
theorem dX0_openDues_0 : decode cX0_openDues 0 = .ok (.iconst 0, 1) := by decide +kernel
theorem dX0_openDues_1 : decode cX0_openDues 1 = .ok (.istore_n 1, 1) := by decide +kernel
theorem dX0_openDues_2 : decode cX0_openDues 2 = .ok (.iconst 0, 1) := by decide +kernel
theorem dX0_openDues_3 : decode cX0_openDues 3 = .ok (.istore_n 2, 1) := by decide +kernel
theorem dX0_openDues_4 : decode cX0_openDues 4 = .ok (.iload_n 2, 1) := by decide +kernel
theorem dX0_openDues_5 : decode cX0_openDues 5 = .ok (.aload_n 0, 1) := by decide +kernel
theorem dX0_openDues_6 : decode cX0_openDues 6 = .ok (.getfield 27, 3) := by decide +kernel
theorem dX0_openDues_9 : decode cX0_openDues 9 = .ok (.if_icmp .ge 35, 3) := by decide +kernel
theorem dX0_openDues_12 : decode cX0_openDues 12 = .ok (.aload_n 0, 1) := by decide +kernel
theorem dX0_openDues_13 : decode cX0_openDues 13 = .ok (.iload_n 2, 1) := by decide +kernel
theorem dX0_openDues_14 : decode cX0_openDues 14 = .ok (.invokevirtual 74, 3) := by decide +kernel
theorem dX0_openDues_17 : decode cX0_openDues 17 = .ok (.ifCond .ne 21, 3) := by decide +kernel
theorem dX0_openDues_20 : decode cX0_openDues 20 = .ok (.iload_n 1, 1) := by decide +kernel
theorem dX0_openDues_21 : decode cX0_openDues 21 = .ok (.aload_n 0, 1) := by decide +kernel
theorem dX0_openDues_22 : decode cX0_openDues 22 = .ok (.getfield 11, 3) := by decide +kernel
theorem dX0_openDues_25 : decode cX0_openDues 25 = .ok (.iload_n 2, 1) := by decide +kernel
theorem dX0_openDues_26 : decode cX0_openDues 26 = .ok (.iaload, 1) := by decide +kernel
theorem dX0_openDues_27 : decode cX0_openDues 27 = .ok (.aload_n 0, 1) := by decide +kernel
theorem dX0_openDues_28 : decode cX0_openDues 28 = .ok (.getfield 15, 3) := by decide +kernel
theorem dX0_openDues_31 : decode cX0_openDues 31 = .ok (.iload_n 2, 1) := by decide +kernel
theorem dX0_openDues_32 : decode cX0_openDues 32 = .ok (.iaload, 1) := by decide +kernel
theorem dX0_openDues_33 : decode cX0_openDues 33 = .ok (.invokestatic 116, 3) := by decide +kernel
theorem dX0_openDues_36 : decode cX0_openDues 36 = .ok (.iadd, 1) := by decide +kernel
theorem dX0_openDues_37 : decode cX0_openDues 37 = .ok (.istore_n 1, 1) := by decide +kernel
theorem dX0_openDues_38 : decode cX0_openDues 38 = .ok (.iinc 2 1, 3) := by decide +kernel
theorem dX0_openDues_41 : decode cX0_openDues 41 = .ok (.goto (-37), 3) := by decide +kernel
theorem dX0_openDues_44 : decode cX0_openDues 44 = .ok (.iload_n 1, 1) := by decide +kernel
theorem dX0_openDues_45 : decode cX0_openDues 45 = .ok (.aload_n 0, 1) := by decide +kernel
theorem dX0_openDues_46 : decode cX0_openDues 46 = .ok (.getfield 43, 3) := by decide +kernel
theorem dX0_openDues_49 : decode cX0_openDues 49 = .ok (.imul, 1) := by decide +kernel
theorem dX0_openDues_50 : decode cX0_openDues 50 = .ok (.ireturn, 1) := by decide +kernel
theorem dX0_movingAt_0 : decode cX0_movingAt 0 = .ok (.iconst 0, 1) := by decide +kernel
theorem dX0_movingAt_1 : decode cX0_movingAt 1 = .ok (.istore_n 2, 1) := by decide +kernel
theorem dX0_movingAt_2 : decode cX0_movingAt 2 = .ok (.iconst 0, 1) := by decide +kernel
theorem dX0_movingAt_3 : decode cX0_movingAt 3 = .ok (.istore_n 3, 1) := by decide +kernel
theorem dX0_movingAt_4 : decode cX0_movingAt 4 = .ok (.iload_n 3, 1) := by decide +kernel
theorem dX0_movingAt_5 : decode cX0_movingAt 5 = .ok (.aload_n 0, 1) := by decide +kernel
theorem dX0_movingAt_6 : decode cX0_movingAt 6 = .ok (.getfield 27, 3) := by decide +kernel
theorem dX0_movingAt_9 : decode cX0_movingAt 9 = .ok (.if_icmp .ge 21, 3) := by decide +kernel
theorem dX0_movingAt_12 : decode cX0_movingAt 12 = .ok (.aload_n 0, 1) := by decide +kernel
theorem dX0_movingAt_13 : decode cX0_movingAt 13 = .ok (.iload_n 3, 1) := by decide +kernel
theorem dX0_movingAt_14 : decode cX0_movingAt 14 = .ok (.iload_n 1, 1) := by decide +kernel
theorem dX0_movingAt_15 : decode cX0_movingAt 15 = .ok (.invokevirtual 119, 3) := by decide +kernel
theorem dX0_movingAt_18 : decode cX0_movingAt 18 = .ok (.ifCond .eq 6, 3) := by decide +kernel
theorem dX0_movingAt_21 : decode cX0_movingAt 21 = .ok (.iinc 2 1, 3) := by decide +kernel
theorem dX0_movingAt_24 : decode cX0_movingAt 24 = .ok (.iinc 3 1, 3) := by decide +kernel
theorem dX0_movingAt_27 : decode cX0_movingAt 27 = .ok (.goto (-23), 3) := by decide +kernel
theorem dX0_movingAt_30 : decode cX0_movingAt 30 = .ok (.iload_n 2, 1) := by decide +kernel
theorem dX0_movingAt_31 : decode cX0_movingAt 31 = .ok (.ireturn, 1) := by decide +kernel
theorem dX0_owedBehindYear_0 : decode cX0_owedBehindYear 0 = .ok (.aload_n 0, 1) := by decide +kernel
theorem dX0_owedBehindYear_1 : decode cX0_owedBehindYear 1 = .ok (.invokevirtual 123, 3) := by decide +kernel
theorem dX0_owedBehindYear_4 : decode cX0_owedBehindYear 4 = .ok (.istore_n 3, 1) := by decide +kernel
theorem dX0_owedBehindYear_5 : decode cX0_owedBehindYear 5 = .ok (.iconst 0, 1) := by decide +kernel
theorem dX0_owedBehindYear_6 : decode cX0_owedBehindYear 6 = .ok (.istore 4, 2) := by decide +kernel
theorem dX0_owedBehindYear_8 : decode cX0_owedBehindYear 8 = .ok (.iload 4, 2) := by decide +kernel
theorem dX0_owedBehindYear_10 : decode cX0_owedBehindYear 10 = .ok (.aload_n 0, 1) := by decide +kernel
theorem dX0_owedBehindYear_11 : decode cX0_owedBehindYear 11 = .ok (.getfield 27, 3) := by decide +kernel
theorem dX0_owedBehindYear_14 : decode cX0_owedBehindYear 14 = .ok (.if_icmp .ge 36, 3) := by decide +kernel
theorem dX0_owedBehindYear_17 : decode cX0_owedBehindYear 17 = .ok (.aload_n 0, 1) := by decide +kernel
theorem dX0_owedBehindYear_18 : decode cX0_owedBehindYear 18 = .ok (.iload 4, 2) := by decide +kernel
theorem dX0_owedBehindYear_20 : decode cX0_owedBehindYear 20 = .ok (.iload_n 2, 1) := by decide +kernel
theorem dX0_owedBehindYear_21 : decode cX0_owedBehindYear 21 = .ok (.invokevirtual 119, 3) := by decide +kernel
theorem dX0_owedBehindYear_24 : decode cX0_owedBehindYear 24 = .ok (.ifCond .eq 20, 3) := by decide +kernel
theorem dX0_owedBehindYear_27 : decode cX0_owedBehindYear 27 = .ok (.iload_n 3, 1) := by decide +kernel
theorem dX0_owedBehindYear_28 : decode cX0_owedBehindYear 28 = .ok (.aload_n 0, 1) := by decide +kernel
theorem dX0_owedBehindYear_29 : decode cX0_owedBehindYear 29 = .ok (.getfield 15, 3) := by decide +kernel
theorem dX0_owedBehindYear_32 : decode cX0_owedBehindYear 32 = .ok (.iload 4, 2) := by decide +kernel
theorem dX0_owedBehindYear_34 : decode cX0_owedBehindYear 34 = .ok (.iaload, 1) := by decide +kernel
theorem dX0_owedBehindYear_35 : decode cX0_owedBehindYear 35 = .ok (.iconst 1, 1) := by decide +kernel
theorem dX0_owedBehindYear_36 : decode cX0_owedBehindYear 36 = .ok (.iadd, 1) := by decide +kernel
theorem dX0_owedBehindYear_37 : decode cX0_owedBehindYear 37 = .ok (.aload_n 0, 1) := by decide +kernel
theorem dX0_owedBehindYear_38 : decode cX0_owedBehindYear 38 = .ok (.getfield 43, 3) := by decide +kernel
theorem dX0_owedBehindYear_41 : decode cX0_owedBehindYear 41 = .ok (.imul, 1) := by decide +kernel
theorem dX0_owedBehindYear_42 : decode cX0_owedBehindYear 42 = .ok (.iadd, 1) := by decide +kernel
theorem dX0_owedBehindYear_43 : decode cX0_owedBehindYear 43 = .ok (.istore_n 3, 1) := by decide +kernel
theorem dX0_owedBehindYear_44 : decode cX0_owedBehindYear 44 = .ok (.iinc 4 1, 3) := by decide +kernel
theorem dX0_owedBehindYear_47 : decode cX0_owedBehindYear 47 = .ok (.goto (-39), 3) := by decide +kernel
theorem dX0_owedBehindYear_50 : decode cX0_owedBehindYear 50 = .ok (.ldc 127, 2) := by decide +kernel
theorem dX0_owedBehindYear_52 : decode cX0_owedBehindYear 52 = .ok (.iload_n 1, 1) := by decide +kernel
theorem dX0_owedBehindYear_53 : decode cX0_owedBehindYear 53 = .ok (.iload_n 3, 1) := by decide +kernel
theorem dX0_owedBehindYear_54 : decode cX0_owedBehindYear 54 = .ok (.iadd, 1) := by decide +kernel
theorem dX0_owedBehindYear_55 : decode cX0_owedBehindYear 55 = .ok (.invokestatic 128, 3) := by decide +kernel
theorem dX0_owedBehindYear_58 : decode cX0_owedBehindYear 58 = .ok (.ireturn, 1) := by decide +kernel
theorem dX1_isKind_0 : decode cX1_isKind 0 = .ok (.iload_n 0, 1) := by decide +kernel
theorem dX1_isKind_1 : decode cX1_isKind 1 = .ok (.ifCond .lt 13, 3) := by decide +kernel
theorem dX1_isKind_4 : decode cX1_isKind 4 = .ok (.iload_n 0, 1) := by decide +kernel
theorem dX1_isKind_5 : decode cX1_isKind 5 = .ok (.bipush 8, 2) := by decide +kernel
theorem dX1_isKind_7 : decode cX1_isKind 7 = .ok (.if_icmp .ge 7, 3) := by decide +kernel
theorem dX1_isKind_10 : decode cX1_isKind 10 = .ok (.iconst 1, 1) := by decide +kernel
theorem dX1_isKind_11 : decode cX1_isKind 11 = .ok (.goto 4, 3) := by decide +kernel
theorem dX1_isKind_14 : decode cX1_isKind 14 = .ok (.iconst 0, 1) := by decide +kernel
theorem dX1_isKind_15 : decode cX1_isKind 15 = .ok (.ireturn, 1) := by decide +kernel
theorem dX1_isFigure_0 : decode cX1_isFigure 0 = .ok (.iload_n 0, 1) := by decide +kernel
theorem dX1_isFigure_1 : decode cX1_isFigure 1 = .ok (.ifCond .lt 13, 3) := by decide +kernel
theorem dX1_isFigure_4 : decode cX1_isFigure 4 = .ok (.iload_n 0, 1) := by decide +kernel
theorem dX1_isFigure_5 : decode cX1_isFigure 5 = .ok (.bipush 9, 2) := by decide +kernel
theorem dX1_isFigure_7 : decode cX1_isFigure 7 = .ok (.if_icmp .gt 7, 3) := by decide +kernel
theorem dX1_isFigure_10 : decode cX1_isFigure 10 = .ok (.iconst 1, 1) := by decide +kernel
theorem dX1_isFigure_11 : decode cX1_isFigure 11 = .ok (.goto 4, 3) := by decide +kernel
theorem dX1_isFigure_14 : decode cX1_isFigure 14 = .ok (.iconst 0, 1) := by decide +kernel
theorem dX1_isFigure_15 : decode cX1_isFigure 15 = .ok (.ireturn, 1) := by decide +kernel
theorem dX1_isPainted_0 : decode cX1_isPainted 0 = .ok (.iload_n 0, 1) := by decide +kernel
theorem dX1_isPainted_1 : decode cX1_isPainted 1 = .ok (.iconst 1, 1) := by decide +kernel
theorem dX1_isPainted_2 : decode cX1_isPainted 2 = .ok (.if_icmp .eq 19, 3) := by decide +kernel
theorem dX1_isPainted_5 : decode cX1_isPainted 5 = .ok (.iload_n 0, 1) := by decide +kernel
theorem dX1_isPainted_6 : decode cX1_isPainted 6 = .ok (.iconst 3, 1) := by decide +kernel
theorem dX1_isPainted_7 : decode cX1_isPainted 7 = .ok (.if_icmp .eq 14, 3) := by decide +kernel
theorem dX1_isPainted_10 : decode cX1_isPainted 10 = .ok (.iload_n 0, 1) := by decide +kernel
theorem dX1_isPainted_11 : decode cX1_isPainted 11 = .ok (.iconst 4, 1) := by decide +kernel
theorem dX1_isPainted_12 : decode cX1_isPainted 12 = .ok (.if_icmp .eq 9, 3) := by decide +kernel
theorem dX1_isPainted_15 : decode cX1_isPainted 15 = .ok (.iload_n 0, 1) := by decide +kernel
theorem dX1_isPainted_16 : decode cX1_isPainted 16 = .ok (.bipush 6, 2) := by decide +kernel
theorem dX1_isPainted_18 : decode cX1_isPainted 18 = .ok (.if_icmp .ne 7, 3) := by decide +kernel
theorem dX1_isPainted_21 : decode cX1_isPainted 21 = .ok (.iconst 1, 1) := by decide +kernel
theorem dX1_isPainted_22 : decode cX1_isPainted 22 = .ok (.goto 4, 3) := by decide +kernel
theorem dX1_isPainted_25 : decode cX1_isPainted 25 = .ok (.iconst 0, 1) := by decide +kernel
theorem dX1_isPainted_26 : decode cX1_isPainted 26 = .ok (.ireturn, 1) := by decide +kernel
theorem dX1_apart_0 : decode cX1_apart 0 = .ok (.iload_n 0, 1) := by decide +kernel
theorem dX1_apart_1 : decode cX1_apart 1 = .ok (.iload_n 1, 1) := by decide +kernel
theorem dX1_apart_2 : decode cX1_apart 2 = .ok (.if_icmp .ge 9, 3) := by decide +kernel
theorem dX1_apart_5 : decode cX1_apart 5 = .ok (.iload_n 1, 1) := by decide +kernel
theorem dX1_apart_6 : decode cX1_apart 6 = .ok (.iload_n 0, 1) := by decide +kernel
theorem dX1_apart_7 : decode cX1_apart 7 = .ok (.isub, 1) := by decide +kernel
theorem dX1_apart_8 : decode cX1_apart 8 = .ok (.goto 6, 3) := by decide +kernel
theorem dX1_apart_11 : decode cX1_apart 11 = .ok (.iload_n 0, 1) := by decide +kernel
theorem dX1_apart_12 : decode cX1_apart 12 = .ok (.iload_n 1, 1) := by decide +kernel
theorem dX1_apart_13 : decode cX1_apart 13 = .ok (.isub, 1) := by decide +kernel
theorem dX1_apart_14 : decode cX1_apart 14 = .ok (.istore_n 2, 1) := by decide +kernel
theorem dX1_apart_15 : decode cX1_apart 15 = .ok (.iload_n 2, 1) := by decide +kernel
theorem dX1_apart_16 : decode cX1_apart 16 = .ok (.bipush 12, 2) := by decide +kernel
theorem dX1_apart_18 : decode cX1_apart 18 = .ok (.if_icmp .gt 7, 3) := by decide +kernel
theorem dX1_apart_21 : decode cX1_apart 21 = .ok (.iload_n 2, 1) := by decide +kernel
theorem dX1_apart_22 : decode cX1_apart 22 = .ok (.goto 7, 3) := by decide +kernel
theorem dX1_apart_25 : decode cX1_apart 25 = .ok (.bipush 24, 2) := by decide +kernel
theorem dX1_apart_27 : decode cX1_apart 27 = .ok (.iload_n 2, 1) := by decide +kernel
theorem dX1_apart_28 : decode cX1_apart 28 = .ok (.isub, 1) := by decide +kernel
theorem dX1_apart_29 : decode cX1_apart 29 = .ok (.ireturn, 1) := by decide +kernel
theorem dX1_shine_0 : decode cX1_shine 0 = .ok (.iload_n 2, 1) := by decide +kernel
theorem dX1_shine_1 : decode cX1_shine 1 = .ok (.iconst 2, 1) := by decide +kernel
theorem dX1_shine_2 : decode cX1_shine 2 = .ok (.if_icmp .gt 9, 3) := by decide +kernel
theorem dX1_shine_5 : decode cX1_shine 5 = .ok (.iload_n 1, 1) := by decide +kernel
theorem dX1_shine_6 : decode cX1_shine 6 = .ok (.iconst 3, 1) := by decide +kernel
theorem dX1_shine_7 : decode cX1_shine 7 = .ok (.iadd, 1) := by decide +kernel
theorem dX1_shine_8 : decode cX1_shine 8 = .ok (.goto 16, 3) := by decide +kernel
theorem dX1_shine_11 : decode cX1_shine 11 = .ok (.iload_n 2, 1) := by decide +kernel
theorem dX1_shine_12 : decode cX1_shine 12 = .ok (.bipush 7, 2) := by decide +kernel
theorem dX1_shine_14 : decode cX1_shine 14 = .ok (.if_icmp .lt 9, 3) := by decide +kernel
theorem dX1_shine_17 : decode cX1_shine 17 = .ok (.iload_n 1, 1) := by decide +kernel
theorem dX1_shine_18 : decode cX1_shine 18 = .ok (.iconst 2, 1) := by decide +kernel
theorem dX1_shine_19 : decode cX1_shine 19 = .ok (.idiv, 1) := by decide +kernel
theorem dX1_shine_20 : decode cX1_shine 20 = .ok (.goto 4, 3) := by decide +kernel
theorem dX1_shine_23 : decode cX1_shine 23 = .ok (.iload_n 1, 1) := by decide +kernel
theorem dX1_shine_24 : decode cX1_shine 24 = .ok (.istore_n 3, 1) := by decide +kernel
theorem dX1_shine_25 : decode cX1_shine 25 = .ok (.iload_n 0, 1) := by decide +kernel
theorem dX1_shine_26 : decode cX1_shine 26 = .ok (.lookupswitch 46 #[(0, 34), (5, 36), (7, 40)], 34) := by decide +kernel
theorem dX1_shine_60 : decode cX1_shine 60 = .ok (.iload_n 3, 1) := by decide +kernel
theorem dX1_shine_61 : decode cX1_shine 61 = .ok (.ireturn, 1) := by decide +kernel
theorem dX1_shine_62 : decode cX1_shine 62 = .ok (.iload_n 3, 1) := by decide +kernel
theorem dX1_shine_63 : decode cX1_shine 63 = .ok (.iconst 2, 1) := by decide +kernel
theorem dX1_shine_64 : decode cX1_shine 64 = .ok (.idiv, 1) := by decide +kernel
theorem dX1_shine_65 : decode cX1_shine 65 = .ok (.ireturn, 1) := by decide +kernel
theorem dX1_shine_66 : decode cX1_shine 66 = .ok (.iload_n 3, 1) := by decide +kernel
theorem dX1_shine_67 : decode cX1_shine 67 = .ok (.iconst 2, 1) := by decide +kernel
theorem dX1_shine_68 : decode cX1_shine 68 = .ok (.idiv, 1) := by decide +kernel
theorem dX1_shine_69 : decode cX1_shine 69 = .ok (.iconst 1, 1) := by decide +kernel
theorem dX1_shine_70 : decode cX1_shine 70 = .ok (.iadd, 1) := by decide +kernel
theorem dX1_shine_71 : decode cX1_shine 71 = .ok (.ireturn, 1) := by decide +kernel
theorem dX1_shine_72 : decode cX1_shine 72 = .ok (.iconst 0, 1) := by decide +kernel
theorem dX1_shine_73 : decode cX1_shine 73 = .ok (.ireturn, 1) := by decide +kernel
theorem dX1_due_0 : decode cX1_due 0 = .ok (.iconst 2, 1) := by decide +kernel
theorem dX1_due_1 : decode cX1_due 1 = .ok (.iload_n 1, 1) := by decide +kernel
theorem dX1_due_2 : decode cX1_due 2 = .ok (.iadd, 1) := by decide +kernel
theorem dX1_due_3 : decode cX1_due 3 = .ok (.istore_n 2, 1) := by decide +kernel
theorem dX1_due_4 : decode cX1_due 4 = .ok (.iload_n 2, 1) := by decide +kernel
theorem dX1_due_5 : decode cX1_due 5 = .ok (.iconst 1, 1) := by decide +kernel
theorem dX1_due_6 : decode cX1_due 6 = .ok (.isub, 1) := by decide +kernel
theorem dX1_due_7 : decode cX1_due 7 = .ok (.istore_n 3, 1) := by decide +kernel
theorem dX1_due_8 : decode cX1_due 8 = .ok (.iload_n 0, 1) := by decide +kernel
theorem dX1_due_9 : decode cX1_due 9 = .ok (.tableswitch 61 0 7 #[47, 61, 49, 51, 61, 55, 61, 57], 47) := by decide +kernel
theorem dX1_due_56 : decode cX1_due 56 = .ok (.iload_n 2, 1) := by decide +kernel
theorem dX1_due_57 : decode cX1_due 57 = .ok (.ireturn, 1) := by decide +kernel
theorem dX1_due_58 : decode cX1_due 58 = .ok (.iconst 0, 1) := by decide +kernel
theorem dX1_due_59 : decode cX1_due 59 = .ok (.ireturn, 1) := by decide +kernel
theorem dX1_due_60 : decode cX1_due 60 = .ok (.iconst 1, 1) := by decide +kernel
theorem dX1_due_61 : decode cX1_due 61 = .ok (.iload_n 1, 1) := by decide +kernel
theorem dX1_due_62 : decode cX1_due 62 = .ok (.iadd, 1) := by decide +kernel
theorem dX1_due_63 : decode cX1_due 63 = .ok (.ireturn, 1) := by decide +kernel
theorem dX1_due_64 : decode cX1_due 64 = .ok (.iload_n 3, 1) := by decide +kernel
theorem dX1_due_65 : decode cX1_due 65 = .ok (.ireturn, 1) := by decide +kernel
theorem dX1_due_66 : decode cX1_due 66 = .ok (.iconst 2, 1) := by decide +kernel
theorem dX1_due_67 : decode cX1_due 67 = .ok (.iload_n 3, 1) := by decide +kernel
theorem dX1_due_68 : decode cX1_due 68 = .ok (.imul, 1) := by decide +kernel
theorem dX1_due_69 : decode cX1_due 69 = .ok (.ireturn, 1) := by decide +kernel
theorem dX1_due_70 : decode cX1_due 70 = .ok (.iconst 1, 1) := by decide +kernel
theorem dX1_due_71 : decode cX1_due 71 = .ok (.ireturn, 1) := by decide +kernel
theorem dX1_moves_0 : decode cX1_moves 0 = .ok (.iload_n 0, 1) := by decide +kernel
theorem dX1_moves_1 : decode cX1_moves 1 = .ok (.tableswitch 86 3 7 #[35, 47, 86, 58, 68], 35) := by decide +kernel
theorem dX1_moves_36 : decode cX1_moves 36 = .ok (.iload_n 3, 1) := by decide +kernel
theorem dX1_moves_37 : decode cX1_moves 37 = .ok (.iconst 2, 1) := by decide +kernel
theorem dX1_moves_38 : decode cX1_moves 38 = .ok (.irem, 1) := by decide +kernel
theorem dX1_moves_39 : decode cX1_moves 39 = .ok (.ifCond .ne 7, 3) := by decide +kernel
theorem dX1_moves_42 : decode cX1_moves 42 = .ok (.iconst 1, 1) := by decide +kernel
theorem dX1_moves_43 : decode cX1_moves 43 = .ok (.goto 4, 3) := by decide +kernel
theorem dX1_moves_46 : decode cX1_moves 46 = .ok (.iconst 0, 1) := by decide +kernel
theorem dX1_moves_47 : decode cX1_moves 47 = .ok (.ireturn, 1) := by decide +kernel
theorem dX1_moves_48 : decode cX1_moves 48 = .ok (.iload_n 2, 1) := by decide +kernel
theorem dX1_moves_49 : decode cX1_moves 49 = .ok (.iconst 1, 1) := by decide +kernel
theorem dX1_moves_50 : decode cX1_moves 50 = .ok (.if_icmp .gt 7, 3) := by decide +kernel
theorem dX1_moves_53 : decode cX1_moves 53 = .ok (.iconst 1, 1) := by decide +kernel
theorem dX1_moves_54 : decode cX1_moves 54 = .ok (.goto 4, 3) := by decide +kernel
theorem dX1_moves_57 : decode cX1_moves 57 = .ok (.iconst 0, 1) := by decide +kernel
theorem dX1_moves_58 : decode cX1_moves 58 = .ok (.ireturn, 1) := by decide +kernel
theorem dX1_moves_59 : decode cX1_moves 59 = .ok (.iload_n 2, 1) := by decide +kernel
theorem dX1_moves_60 : decode cX1_moves 60 = .ok (.ifCond .ne 7, 3) := by decide +kernel
theorem dX1_moves_63 : decode cX1_moves 63 = .ok (.iconst 1, 1) := by decide +kernel
theorem dX1_moves_64 : decode cX1_moves 64 = .ok (.goto 4, 3) := by decide +kernel
theorem dX1_moves_67 : decode cX1_moves 67 = .ok (.iconst 0, 1) := by decide +kernel
theorem dX1_moves_68 : decode cX1_moves 68 = .ok (.ireturn, 1) := by decide +kernel
theorem dX1_moves_69 : decode cX1_moves 69 = .ok (.iload_n 1, 1) := by decide +kernel
theorem dX1_moves_70 : decode cX1_moves 70 = .ok (.ifCond .lt 15, 3) := by decide +kernel
theorem dX1_moves_73 : decode cX1_moves 73 = .ok (.iload_n 3, 1) := by decide +kernel
theorem dX1_moves_74 : decode cX1_moves 74 = .ok (.iload_n 1, 1) := by decide +kernel
theorem dX1_moves_75 : decode cX1_moves 75 = .ok (.iconst 1, 1) := by decide +kernel
theorem dX1_moves_76 : decode cX1_moves 76 = .ok (.iadd, 1) := by decide +kernel
theorem dX1_moves_77 : decode cX1_moves 77 = .ok (.irem, 1) := by decide +kernel
theorem dX1_moves_78 : decode cX1_moves 78 = .ok (.ifCond .ne 7, 3) := by decide +kernel
theorem dX1_moves_81 : decode cX1_moves 81 = .ok (.iconst 1, 1) := by decide +kernel
theorem dX1_moves_82 : decode cX1_moves 82 = .ok (.goto 4, 3) := by decide +kernel
theorem dX1_moves_85 : decode cX1_moves 85 = .ok (.iconst 0, 1) := by decide +kernel
theorem dX1_moves_86 : decode cX1_moves 86 = .ok (.ireturn, 1) := by decide +kernel
theorem dX1_moves_87 : decode cX1_moves 87 = .ok (.iconst 0, 1) := by decide +kernel
theorem dX1_moves_88 : decode cX1_moves 88 = .ok (.ireturn, 1) := by decide +kernel
theorem dX1_seeming_0 : decode cX1_seeming 0 = .ok (.iconst 0, 1) := by decide +kernel
theorem dX1_seeming_1 : decode cX1_seeming 1 = .ok (.iload_n 1, 1) := by decide +kernel
theorem dX1_seeming_2 : decode cX1_seeming 2 = .ok (.iload_n 2, 1) := by decide +kernel
theorem dX1_seeming_3 : decode cX1_seeming 3 = .ok (.iconst 3, 1) := by decide +kernel
theorem dX1_seeming_4 : decode cX1_seeming 4 = .ok (.idiv, 1) := by decide +kernel
theorem dX1_seeming_5 : decode cX1_seeming 5 = .ok (.isub, 1) := by decide +kernel
theorem dX1_seeming_6 : decode cX1_seeming 6 = .ok (.invokestatic 13, 3) := by decide +kernel
theorem dX1_seeming_9 : decode cX1_seeming 9 = .ok (.istore 4, 2) := by decide +kernel
theorem dX1_seeming_11 : decode cX1_seeming 11 = .ok (.iload_n 0, 1) := by decide +kernel
theorem dX1_seeming_12 : decode cX1_seeming 12 = .ok (.tableswitch 81 0 7 #[48, 81, 51, 53, 81, 78, 73, 78], 48) := by decide +kernel
theorem dX1_seeming_60 : decode cX1_seeming 60 = .ok (.bipush 9, 2) := by decide +kernel
theorem dX1_seeming_62 : decode cX1_seeming 62 = .ok (.ireturn, 1) := by decide +kernel
theorem dX1_seeming_63 : decode cX1_seeming 63 = .ok (.iconst 0, 1) := by decide +kernel
theorem dX1_seeming_64 : decode cX1_seeming 64 = .ok (.ireturn, 1) := by decide +kernel
theorem dX1_seeming_65 : decode cX1_seeming 65 = .ok (.iload_n 0, 1) := by decide +kernel
theorem dX1_seeming_66 : decode cX1_seeming 66 = .ok (.iload_n 1, 1) := by decide +kernel
theorem dX1_seeming_67 : decode cX1_seeming 67 = .ok (.iload_n 2, 1) := by decide +kernel
theorem dX1_seeming_68 : decode cX1_seeming 68 = .ok (.iload_n 3, 1) := by decide +kernel
theorem dX1_seeming_69 : decode cX1_seeming 69 = .ok (.invokestatic 19, 3) := by decide +kernel
theorem dX1_seeming_72 : decode cX1_seeming 72 = .ok (.ifCond .eq 10, 3) := by decide +kernel
theorem dX1_seeming_75 : decode cX1_seeming 75 = .ok (.iload 4, 2) := by decide +kernel
theorem dX1_seeming_77 : decode cX1_seeming 77 = .ok (.iconst 2, 1) := by decide +kernel
theorem dX1_seeming_78 : decode cX1_seeming 78 = .ok (.iadd, 1) := by decide +kernel
theorem dX1_seeming_79 : decode cX1_seeming 79 = .ok (.goto 5, 3) := by decide +kernel
theorem dX1_seeming_82 : decode cX1_seeming 82 = .ok (.iload 4, 2) := by decide +kernel
theorem dX1_seeming_84 : decode cX1_seeming 84 = .ok (.ireturn, 1) := by decide +kernel
theorem dX1_seeming_85 : decode cX1_seeming 85 = .ok (.iconst 2, 1) := by decide +kernel
theorem dX1_seeming_86 : decode cX1_seeming 86 = .ok (.iload 4, 2) := by decide +kernel
theorem dX1_seeming_88 : decode cX1_seeming 88 = .ok (.imul, 1) := by decide +kernel
theorem dX1_seeming_89 : decode cX1_seeming 89 = .ok (.ireturn, 1) := by decide +kernel
theorem dX1_seeming_90 : decode cX1_seeming 90 = .ok (.bipush 8, 2) := by decide +kernel
theorem dX1_seeming_92 : decode cX1_seeming 92 = .ok (.ireturn, 1) := by decide +kernel
theorem dX1_seeming_93 : decode cX1_seeming 93 = .ok (.iload 4, 2) := by decide +kernel
theorem dX1_seeming_95 : decode cX1_seeming 95 = .ok (.ireturn, 1) := by decide +kernel
theorem dX1_price_0 : decode cX1_price 0 = .ok (.iconst 5, 1) := by decide +kernel
theorem dX1_price_1 : decode cX1_price 1 = .ok (.istore_n 2, 1) := by decide +kernel
theorem dX1_price_2 : decode cX1_price 2 = .ok (.iload_n 2, 1) := by decide +kernel
theorem dX1_price_3 : decode cX1_price 3 = .ok (.iload_n 1, 1) := by decide +kernel
theorem dX1_price_4 : decode cX1_price 4 = .ok (.iadd, 1) := by decide +kernel
theorem dX1_price_5 : decode cX1_price 5 = .ok (.istore_n 3, 1) := by decide +kernel
theorem dX1_price_6 : decode cX1_price 6 = .ok (.iload_n 2, 1) := by decide +kernel
theorem dX1_price_7 : decode cX1_price 7 = .ok (.iconst 2, 1) := by decide +kernel
theorem dX1_price_8 : decode cX1_price 8 = .ok (.iadd, 1) := by decide +kernel
theorem dX1_price_9 : decode cX1_price 9 = .ok (.istore 4, 2) := by decide +kernel
theorem dX1_price_11 : decode cX1_price 11 = .ok (.iload_n 0, 1) := by decide +kernel
theorem dX1_price_12 : decode cX1_price 12 = .ok (.tableswitch 74 0 7 #[48, 74, 50, 54, 58, 62, 65, 69], 48) := by decide +kernel
theorem dX1_price_60 : decode cX1_price 60 = .ok (.iload_n 2, 1) := by decide +kernel
theorem dX1_price_61 : decode cX1_price 61 = .ok (.ireturn, 1) := by decide +kernel
theorem dX1_price_62 : decode cX1_price 62 = .ok (.iload_n 2, 1) := by decide +kernel
theorem dX1_price_63 : decode cX1_price 63 = .ok (.iconst 4, 1) := by decide +kernel
theorem dX1_price_64 : decode cX1_price 64 = .ok (.isub, 1) := by decide +kernel
theorem dX1_price_65 : decode cX1_price 65 = .ok (.ireturn, 1) := by decide +kernel
theorem dX1_price_66 : decode cX1_price 66 = .ok (.iload_n 3, 1) := by decide +kernel
theorem dX1_price_67 : decode cX1_price 67 = .ok (.iconst 1, 1) := by decide +kernel
theorem dX1_price_68 : decode cX1_price 68 = .ok (.iadd, 1) := by decide +kernel
theorem dX1_price_69 : decode cX1_price 69 = .ok (.ireturn, 1) := by decide +kernel
theorem dX1_price_70 : decode cX1_price 70 = .ok (.iconst 2, 1) := by decide +kernel
theorem dX1_price_71 : decode cX1_price 71 = .ok (.iload_n 3, 1) := by decide +kernel
theorem dX1_price_72 : decode cX1_price 72 = .ok (.imul, 1) := by decide +kernel
theorem dX1_price_73 : decode cX1_price 73 = .ok (.ireturn, 1) := by decide +kernel
theorem dX1_price_74 : decode cX1_price 74 = .ok (.iload 4, 2) := by decide +kernel
theorem dX1_price_76 : decode cX1_price 76 = .ok (.ireturn, 1) := by decide +kernel
theorem dX1_price_77 : decode cX1_price 77 = .ok (.iload_n 3, 1) := by decide +kernel
theorem dX1_price_78 : decode cX1_price 78 = .ok (.iconst 1, 1) := by decide +kernel
theorem dX1_price_79 : decode cX1_price 79 = .ok (.isub, 1) := by decide +kernel
theorem dX1_price_80 : decode cX1_price 80 = .ok (.ireturn, 1) := by decide +kernel
theorem dX1_price_81 : decode cX1_price 81 = .ok (.iload 4, 2) := by decide +kernel
theorem dX1_price_83 : decode cX1_price 83 = .ok (.iconst 2, 1) := by decide +kernel
theorem dX1_price_84 : decode cX1_price 84 = .ok (.idiv, 1) := by decide +kernel
theorem dX1_price_85 : decode cX1_price 85 = .ok (.ireturn, 1) := by decide +kernel
theorem dX1_price_86 : decode cX1_price 86 = .ok (.iload_n 3, 1) := by decide +kernel
theorem dX1_price_87 : decode cX1_price 87 = .ok (.ireturn, 1) := by decide +kernel
theorem dX1_caughtFailure_0 : decode cX1_caughtFailure 0 = .ok (.iload_n 0, 1) := by decide +kernel
theorem dX1_caughtFailure_1 : decode cX1_caughtFailure 1 = .ok (.iload_n 1, 1) := by decide +kernel
theorem dX1_caughtFailure_2 : decode cX1_caughtFailure 2 = .ok (.invokestatic 23, 3) := by decide +kernel
theorem dX1_caughtFailure_5 : decode cX1_caughtFailure 5 = .ok (.bipush (-15), 2) := by decide +kernel
theorem dX1_caughtFailure_7 : decode cX1_caughtFailure 7 = .ok (.ireturn, 1) := by decide +kernel
theorem dX1_caughtFailure_8 : decode cX1_caughtFailure 8 = .ok (.astore_n 2, 1) := by decide +kernel
theorem dX1_caughtFailure_9 : decode cX1_caughtFailure 9 = .ok (.sipush 200, 3) := by decide +kernel
theorem dX1_caughtFailure_12 : decode cX1_caughtFailure 12 = .ok (.iload_n 0, 1) := by decide +kernel
theorem dX1_caughtFailure_13 : decode cX1_caughtFailure 13 = .ok (.iload_n 1, 1) := by decide +kernel
theorem dX1_caughtFailure_14 : decode cX1_caughtFailure 14 = .ok (.invokestatic 29, 3) := by decide +kernel
theorem dX1_caughtFailure_17 : decode cX1_caughtFailure 17 = .ok (.iadd, 1) := by decide +kernel
theorem dX1_caughtFailure_18 : decode cX1_caughtFailure 18 = .ok (.ireturn, 1) := by decide +kernel
theorem dX1_caughtFailure_19 : decode cX1_caughtFailure 19 = .ok (.astore_n 2, 1) := by decide +kernel
theorem dX1_caughtFailure_20 : decode cX1_caughtFailure 20 = .ok (.bipush 100, 2) := by decide +kernel
theorem dX1_caughtFailure_22 : decode cX1_caughtFailure 22 = .ok (.iload_n 1, 1) := by decide +kernel
theorem dX1_caughtFailure_23 : decode cX1_caughtFailure 23 = .ok (.iadd, 1) := by decide +kernel
theorem dX1_caughtFailure_24 : decode cX1_caughtFailure 24 = .ok (.ireturn, 1) := by decide +kernel
theorem dX1_caughtFailure_25 : decode cX1_caughtFailure 25 = .ok (.astore_n 2, 1) := by decide +kernel
theorem dX1_caughtFailure_26 : decode cX1_caughtFailure 26 = .ok (.iload_n 1, 1) := by decide +kernel
theorem dX1_caughtFailure_27 : decode cX1_caughtFailure 27 = .ok (.ireturn, 1) := by decide +kernel
theorem dX1_throwFailure_0 : decode cX1_throwFailure 0 = .ok (.iload_n 0, 1) := by decide +kernel
theorem dX1_throwFailure_1 : decode cX1_throwFailure 1 = .ok (.iconst 2, 1) := by decide +kernel
theorem dX1_throwFailure_2 : decode cX1_throwFailure 2 = .ok (.if_icmp .eq 13, 3) := by decide +kernel
theorem dX1_throwFailure_5 : decode cX1_throwFailure 5 = .ok (.iload_n 0, 1) := by decide +kernel
theorem dX1_throwFailure_6 : decode cX1_throwFailure 6 = .ok (.bipush 7, 2) := by decide +kernel
theorem dX1_throwFailure_8 : decode cX1_throwFailure 8 = .ok (.if_icmp .eq 7, 3) := by decide +kernel
theorem dX1_throwFailure_11 : decode cX1_throwFailure 11 = .ok (.iload_n 1, 1) := by decide +kernel
theorem dX1_throwFailure_12 : decode cX1_throwFailure 12 = .ok (.ifCond .ne 4, 3) := by decide +kernel
theorem dX1_throwFailure_15 : decode cX1_throwFailure 15 = .ok (.return_, 1) := by decide +kernel
theorem dX1_throwFailure_16 : decode cX1_throwFailure 16 = .ok (.iload_n 0, 1) := by decide +kernel
theorem dX1_throwFailure_17 : decode cX1_throwFailure 17 = .ok (.iconst 4, 1) := by decide +kernel
theorem dX1_throwFailure_18 : decode cX1_throwFailure 18 = .ok (.if_icmp .ne 13, 3) := by decide +kernel
theorem dX1_throwFailure_21 : decode cX1_throwFailure 21 = .ok (.new 27, 3) := by decide +kernel
theorem dX1_throwFailure_24 : decode cX1_throwFailure 24 = .ok (.dup, 1) := by decide +kernel
theorem dX1_throwFailure_25 : decode cX1_throwFailure 25 = .ok (.ldc 36, 2) := by decide +kernel
theorem dX1_throwFailure_27 : decode cX1_throwFailure 27 = .ok (.invokespecial 38, 3) := by decide +kernel
theorem dX1_throwFailure_30 : decode cX1_throwFailure 30 = .ok (.athrow, 1) := by decide +kernel
theorem dX1_throwFailure_31 : decode cX1_throwFailure 31 = .ok (.iload_n 0, 1) := by decide +kernel
theorem dX1_throwFailure_32 : decode cX1_throwFailure 32 = .ok (.invokestatic 41, 3) := by decide +kernel
theorem dX1_throwFailure_35 : decode cX1_throwFailure 35 = .ok (.ifCond .eq 13, 3) := by decide +kernel
theorem dX1_throwFailure_38 : decode cX1_throwFailure 38 = .ok (.new 32, 3) := by decide +kernel
theorem dX1_throwFailure_41 : decode cX1_throwFailure 41 = .ok (.dup, 1) := by decide +kernel
theorem dX1_throwFailure_42 : decode cX1_throwFailure 42 = .ok (.ldc 45, 2) := by decide +kernel
theorem dX1_throwFailure_44 : decode cX1_throwFailure 44 = .ok (.invokespecial 47, 3) := by decide +kernel
theorem dX1_throwFailure_47 : decode cX1_throwFailure 47 = .ok (.athrow, 1) := by decide +kernel
theorem dX1_throwFailure_48 : decode cX1_throwFailure 48 = .ok (.new 34, 3) := by decide +kernel
theorem dX1_throwFailure_51 : decode cX1_throwFailure 51 = .ok (.dup, 1) := by decide +kernel
theorem dX1_throwFailure_52 : decode cX1_throwFailure 52 = .ok (.ldc 48, 2) := by decide +kernel
theorem dX1_throwFailure_54 : decode cX1_throwFailure 54 = .ok (.invokespecial 50, 3) := by decide +kernel
theorem dX1_throwFailure_57 : decode cX1_throwFailure 57 = .ok (.athrow, 1) := by decide +kernel
theorem dX2_cheapestStops_0 : decode cX2_cheapestStops 0 = .ok (.bipush (-4), 2) := by decide +kernel
theorem dX2_cheapestStops_2 : decode cX2_cheapestStops 2 = .ok (.istore_n 1, 1) := by decide +kernel
theorem dX2_cheapestStops_3 : decode cX2_cheapestStops 3 = .ok (.iconst 0, 1) := by decide +kernel
theorem dX2_cheapestStops_4 : decode cX2_cheapestStops 4 = .ok (.istore_n 2, 1) := by decide +kernel
theorem dX2_cheapestStops_5 : decode cX2_cheapestStops 5 = .ok (.iconst 0, 1) := by decide +kernel
theorem dX2_cheapestStops_6 : decode cX2_cheapestStops 6 = .ok (.istore_n 3, 1) := by decide +kernel
theorem dX2_cheapestStops_7 : decode cX2_cheapestStops 7 = .ok (.iload_n 3, 1) := by decide +kernel
theorem dX2_cheapestStops_8 : decode cX2_cheapestStops 8 = .ok (.iconst 1, 1) := by decide +kernel
theorem dX2_cheapestStops_9 : decode cX2_cheapestStops 9 = .ok (.aload_n 0, 1) := by decide +kernel
theorem dX2_cheapestStops_10 : decode cX2_cheapestStops 10 = .ok (.getfield 9, 3) := by decide +kernel
theorem dX2_cheapestStops_13 : decode cX2_cheapestStops 13 = .ok (.ishl, 1) := by decide +kernel
theorem dX2_cheapestStops_14 : decode cX2_cheapestStops 14 = .ok (.if_icmp .ge 46, 3) := by decide +kernel
theorem dX2_cheapestStops_17 : decode cX2_cheapestStops 17 = .ok (.aload_n 0, 1) := by decide +kernel
theorem dX2_cheapestStops_18 : decode cX2_cheapestStops 18 = .ok (.iload_n 3, 1) := by decide +kernel
theorem dX2_cheapestStops_19 : decode cX2_cheapestStops 19 = .ok (.putfield 15, 3) := by decide +kernel
theorem dX2_cheapestStops_22 : decode cX2_cheapestStops 22 = .ok (.aload_n 0, 1) := by decide +kernel
theorem dX2_cheapestStops_23 : decode cX2_cheapestStops 23 = .ok (.invokevirtual 18, 3) := by decide +kernel
theorem dX2_cheapestStops_26 : decode cX2_cheapestStops 26 = .ok (.istore 4, 2) := by decide +kernel
theorem dX2_cheapestStops_28 : decode cX2_cheapestStops 28 = .ok (.iload_n 1, 1) := by decide +kernel
theorem dX2_cheapestStops_29 : decode cX2_cheapestStops 29 = .ok (.ifCond .lt 9, 3) := by decide +kernel
theorem dX2_cheapestStops_32 : decode cX2_cheapestStops 32 = .ok (.iload 4, 2) := by decide +kernel
theorem dX2_cheapestStops_34 : decode cX2_cheapestStops 34 = .ok (.iload_n 2, 1) := by decide +kernel
theorem dX2_cheapestStops_35 : decode cX2_cheapestStops 35 = .ok (.if_icmp .ge 19, 3) := by decide +kernel
theorem dX2_cheapestStops_38 : decode cX2_cheapestStops 38 = .ok (.aload_n 0, 1) := by decide +kernel
theorem dX2_cheapestStops_39 : decode cX2_cheapestStops 39 = .ok (.aload_n 0, 1) := by decide +kernel
theorem dX2_cheapestStops_40 : decode cX2_cheapestStops 40 = .ok (.getfield 22, 3) := by decide +kernel
theorem dX2_cheapestStops_43 : decode cX2_cheapestStops 43 = .ok (.invokevirtual 25, 3) := by decide +kernel
theorem dX2_cheapestStops_46 : decode cX2_cheapestStops 46 = .ok (.ifCond .ne 8, 3) := by decide +kernel
theorem dX2_cheapestStops_49 : decode cX2_cheapestStops 49 = .ok (.iload_n 3, 1) := by decide +kernel
theorem dX2_cheapestStops_50 : decode cX2_cheapestStops 50 = .ok (.istore_n 1, 1) := by decide +kernel
theorem dX2_cheapestStops_51 : decode cX2_cheapestStops 51 = .ok (.iload 4, 2) := by decide +kernel
theorem dX2_cheapestStops_53 : decode cX2_cheapestStops 53 = .ok (.istore_n 2, 1) := by decide +kernel
theorem dX2_cheapestStops_54 : decode cX2_cheapestStops 54 = .ok (.iinc 3 1, 3) := by decide +kernel
theorem dX2_cheapestStops_57 : decode cX2_cheapestStops 57 = .ok (.goto (-50), 3) := by decide +kernel
theorem dX2_cheapestStops_60 : decode cX2_cheapestStops 60 = .ok (.iload_n 1, 1) := by decide +kernel
theorem dX2_cheapestStops_61 : decode cX2_cheapestStops 61 = .ok (.ireturn, 1) := by decide +kernel
theorem dX2_darkHours_0 : decode cX2_darkHours 0 = .ok (.iconst 0, 1) := by decide +kernel
theorem dX2_darkHours_1 : decode cX2_darkHours 1 = .ok (.istore_n 1, 1) := by decide +kernel
theorem dX2_darkHours_2 : decode cX2_darkHours 2 = .ok (.iconst 0, 1) := by decide +kernel
theorem dX2_darkHours_3 : decode cX2_darkHours 3 = .ok (.istore_n 2, 1) := by decide +kernel
theorem dX2_darkHours_4 : decode cX2_darkHours 4 = .ok (.iload_n 2, 1) := by decide +kernel
theorem dX2_darkHours_5 : decode cX2_darkHours 5 = .ok (.bipush 24, 2) := by decide +kernel
theorem dX2_darkHours_7 : decode cX2_darkHours 7 = .ok (.if_icmp .ge 23, 3) := by decide +kernel
theorem dX2_darkHours_10 : decode cX2_darkHours 10 = .ok (.aload_n 0, 1) := by decide +kernel
theorem dX2_darkHours_11 : decode cX2_darkHours 11 = .ok (.iload_n 2, 1) := by decide +kernel
theorem dX2_darkHours_12 : decode cX2_darkHours 12 = .ok (.invokevirtual 25, 3) := by decide +kernel
theorem dX2_darkHours_15 : decode cX2_darkHours 15 = .ok (.ifCond .eq 9, 3) := by decide +kernel
theorem dX2_darkHours_18 : decode cX2_darkHours 18 = .ok (.iload_n 1, 1) := by decide +kernel
theorem dX2_darkHours_19 : decode cX2_darkHours 19 = .ok (.iconst 1, 1) := by decide +kernel
theorem dX2_darkHours_20 : decode cX2_darkHours 20 = .ok (.iload_n 2, 1) := by decide +kernel
theorem dX2_darkHours_21 : decode cX2_darkHours 21 = .ok (.ishl, 1) := by decide +kernel
theorem dX2_darkHours_22 : decode cX2_darkHours 22 = .ok (.ior, 1) := by decide +kernel
theorem dX2_darkHours_23 : decode cX2_darkHours 23 = .ok (.istore_n 1, 1) := by decide +kernel
theorem dX2_darkHours_24 : decode cX2_darkHours 24 = .ok (.iinc 2 1, 3) := by decide +kernel
theorem dX2_darkHours_27 : decode cX2_darkHours 27 = .ok (.goto (-23), 3) := by decide +kernel
theorem dX2_darkHours_30 : decode cX2_darkHours 30 = .ok (.iload_n 1, 1) := by decide +kernel
theorem dX2_darkHours_31 : decode cX2_darkHours 31 = .ok (.ireturn, 1) := by decide +kernel
theorem dX2_darkestHour_0 : decode cX2_darkestHour 0 = .ok (.iconst 0, 1) := by decide +kernel
theorem dX2_darkestHour_1 : decode cX2_darkestHour 1 = .ok (.istore_n 1, 1) := by decide +kernel
theorem dX2_darkestHour_2 : decode cX2_darkestHour 2 = .ok (.iconst 1, 1) := by decide +kernel
theorem dX2_darkestHour_3 : decode cX2_darkestHour 3 = .ok (.istore_n 2, 1) := by decide +kernel
theorem dX2_darkestHour_4 : decode cX2_darkestHour 4 = .ok (.iload_n 2, 1) := by decide +kernel
theorem dX2_darkestHour_5 : decode cX2_darkestHour 5 = .ok (.bipush 24, 2) := by decide +kernel
theorem dX2_darkestHour_7 : decode cX2_darkestHour 7 = .ok (.if_icmp .ge 24, 3) := by decide +kernel
theorem dX2_darkestHour_10 : decode cX2_darkestHour 10 = .ok (.aload_n 0, 1) := by decide +kernel
theorem dX2_darkestHour_11 : decode cX2_darkestHour 11 = .ok (.iload_n 2, 1) := by decide +kernel
theorem dX2_darkestHour_12 : decode cX2_darkestHour 12 = .ok (.invokevirtual 29, 3) := by decide +kernel
theorem dX2_darkestHour_15 : decode cX2_darkestHour 15 = .ok (.aload_n 0, 1) := by decide +kernel
theorem dX2_darkestHour_16 : decode cX2_darkestHour 16 = .ok (.iload_n 1, 1) := by decide +kernel
theorem dX2_darkestHour_17 : decode cX2_darkestHour 17 = .ok (.invokevirtual 29, 3) := by decide +kernel
theorem dX2_darkestHour_20 : decode cX2_darkestHour 20 = .ok (.if_icmp .ge 5, 3) := by decide +kernel
theorem dX2_darkestHour_23 : decode cX2_darkestHour 23 = .ok (.iload_n 2, 1) := by decide +kernel
theorem dX2_darkestHour_24 : decode cX2_darkestHour 24 = .ok (.istore_n 1, 1) := by decide +kernel
theorem dX2_darkestHour_25 : decode cX2_darkestHour 25 = .ok (.iinc 2 1, 3) := by decide +kernel
theorem dX2_darkestHour_28 : decode cX2_darkestHour 28 = .ok (.goto (-24), 3) := by decide +kernel
theorem dX2_darkestHour_31 : decode cX2_darkestHour 31 = .ok (.iload_n 1, 1) := by decide +kernel
theorem dX2_darkestHour_32 : decode cX2_darkestHour 32 = .ok (.ireturn, 1) := by decide +kernel
theorem dX2_longestBrightFrom_0 : decode cX2_longestBrightFrom 0 = .ok (.iconst 0, 1) := by decide +kernel
theorem dX2_longestBrightFrom_1 : decode cX2_longestBrightFrom 1 = .ok (.istore_n 1, 1) := by decide +kernel
theorem dX2_longestBrightFrom_2 : decode cX2_longestBrightFrom 2 = .ok (.iconst 1, 1) := by decide +kernel
theorem dX2_longestBrightFrom_3 : decode cX2_longestBrightFrom 3 = .ok (.istore_n 2, 1) := by decide +kernel
theorem dX2_longestBrightFrom_4 : decode cX2_longestBrightFrom 4 = .ok (.iload_n 2, 1) := by decide +kernel
theorem dX2_longestBrightFrom_5 : decode cX2_longestBrightFrom 5 = .ok (.bipush 24, 2) := by decide +kernel
theorem dX2_longestBrightFrom_7 : decode cX2_longestBrightFrom 7 = .ok (.if_icmp .ge 24, 3) := by decide +kernel
theorem dX2_longestBrightFrom_10 : decode cX2_longestBrightFrom 10 = .ok (.iload_n 0, 1) := by decide +kernel
theorem dX2_longestBrightFrom_11 : decode cX2_longestBrightFrom 11 = .ok (.iload_n 2, 1) := by decide +kernel
theorem dX2_longestBrightFrom_12 : decode cX2_longestBrightFrom 12 = .ok (.invokestatic 33, 3) := by decide +kernel
theorem dX2_longestBrightFrom_15 : decode cX2_longestBrightFrom 15 = .ok (.iload_n 0, 1) := by decide +kernel
theorem dX2_longestBrightFrom_16 : decode cX2_longestBrightFrom 16 = .ok (.iload_n 1, 1) := by decide +kernel
theorem dX2_longestBrightFrom_17 : decode cX2_longestBrightFrom 17 = .ok (.invokestatic 33, 3) := by decide +kernel
theorem dX2_longestBrightFrom_20 : decode cX2_longestBrightFrom 20 = .ok (.if_icmp .le 5, 3) := by decide +kernel
theorem dX2_longestBrightFrom_23 : decode cX2_longestBrightFrom 23 = .ok (.iload_n 2, 1) := by decide +kernel
theorem dX2_longestBrightFrom_24 : decode cX2_longestBrightFrom 24 = .ok (.istore_n 1, 1) := by decide +kernel
theorem dX2_longestBrightFrom_25 : decode cX2_longestBrightFrom 25 = .ok (.iinc 2 1, 3) := by decide +kernel
theorem dX2_longestBrightFrom_28 : decode cX2_longestBrightFrom 28 = .ok (.goto (-24), 3) := by decide +kernel
theorem dX2_longestBrightFrom_31 : decode cX2_longestBrightFrom 31 = .ok (.iload_n 1, 1) := by decide +kernel
theorem dX2_longestBrightFrom_32 : decode cX2_longestBrightFrom 32 = .ok (.ireturn, 1) := by decide +kernel
theorem dX2_brightStretch_0 : decode cX2_brightStretch 0 = .ok (.iconst 0, 1) := by decide +kernel
theorem dX2_brightStretch_1 : decode cX2_brightStretch 1 = .ok (.istore_n 2, 1) := by decide +kernel
theorem dX2_brightStretch_2 : decode cX2_brightStretch 2 = .ok (.iload_n 2, 1) := by decide +kernel
theorem dX2_brightStretch_3 : decode cX2_brightStretch 3 = .ok (.bipush 24, 2) := by decide +kernel
theorem dX2_brightStretch_5 : decode cX2_brightStretch 5 = .ok (.if_icmp .ge 24, 3) := by decide +kernel
theorem dX2_brightStretch_8 : decode cX2_brightStretch 8 = .ok (.iload_n 0, 1) := by decide +kernel
theorem dX2_brightStretch_9 : decode cX2_brightStretch 9 = .ok (.iload_n 1, 1) := by decide +kernel
theorem dX2_brightStretch_10 : decode cX2_brightStretch 10 = .ok (.iload_n 2, 1) := by decide +kernel
theorem dX2_brightStretch_11 : decode cX2_brightStretch 11 = .ok (.iadd, 1) := by decide +kernel
theorem dX2_brightStretch_12 : decode cX2_brightStretch 12 = .ok (.bipush 24, 2) := by decide +kernel
theorem dX2_brightStretch_14 : decode cX2_brightStretch 14 = .ok (.irem, 1) := by decide +kernel
theorem dX2_brightStretch_15 : decode cX2_brightStretch 15 = .ok (.ishr, 1) := by decide +kernel
theorem dX2_brightStretch_16 : decode cX2_brightStretch 16 = .ok (.iconst 1, 1) := by decide +kernel
theorem dX2_brightStretch_17 : decode cX2_brightStretch 17 = .ok (.iand, 1) := by decide +kernel
theorem dX2_brightStretch_18 : decode cX2_brightStretch 18 = .ok (.ifCond .eq 5, 3) := by decide +kernel
theorem dX2_brightStretch_21 : decode cX2_brightStretch 21 = .ok (.iload_n 2, 1) := by decide +kernel
theorem dX2_brightStretch_22 : decode cX2_brightStretch 22 = .ok (.ireturn, 1) := by decide +kernel
theorem dX2_brightStretch_23 : decode cX2_brightStretch 23 = .ok (.iinc 2 1, 3) := by decide +kernel
theorem dX2_brightStretch_26 : decode cX2_brightStretch 26 = .ok (.goto (-24), 3) := by decide +kernel
theorem dX2_brightStretch_29 : decode cX2_brightStretch 29 = .ok (.bipush 24, 2) := by decide +kernel
theorem dX2_brightStretch_31 : decode cX2_brightStretch 31 = .ok (.ireturn, 1) := by decide +kernel
theorem dX2_fewestMirrors_0 : decode cX2_fewestMirrors 0 = .ok (.iconst 0, 1) := by decide +kernel
theorem dX2_fewestMirrors_1 : decode cX2_fewestMirrors 1 = .ok (.istore_n 1, 1) := by decide +kernel
theorem dX2_fewestMirrors_2 : decode cX2_fewestMirrors 2 = .ok (.iconst 0, 1) := by decide +kernel
theorem dX2_fewestMirrors_3 : decode cX2_fewestMirrors 3 = .ok (.istore_n 2, 1) := by decide +kernel
theorem dX2_fewestMirrors_4 : decode cX2_fewestMirrors 4 = .ok (.iload_n 2, 1) := by decide +kernel
theorem dX2_fewestMirrors_5 : decode cX2_fewestMirrors 5 = .ok (.iconst 4, 1) := by decide +kernel
theorem dX2_fewestMirrors_6 : decode cX2_fewestMirrors 6 = .ok (.if_icmp .ge 45, 3) := by decide +kernel
theorem dX2_fewestMirrors_9 : decode cX2_fewestMirrors 9 = .ok (.aload_n 0, 1) := by decide +kernel
theorem dX2_fewestMirrors_10 : decode cX2_fewestMirrors 10 = .ok (.iload_n 2, 1) := by decide +kernel
theorem dX2_fewestMirrors_11 : decode cX2_fewestMirrors 11 = .ok (.aload_n 0, 1) := by decide +kernel
theorem dX2_fewestMirrors_12 : decode cX2_fewestMirrors 12 = .ok (.getfield 22, 3) := by decide +kernel
theorem dX2_fewestMirrors_15 : decode cX2_fewestMirrors 15 = .ok (.invokevirtual 39, 3) := by decide +kernel
theorem dX2_fewestMirrors_18 : decode cX2_fewestMirrors 18 = .ok (.istore_n 3, 1) := by decide +kernel
theorem dX2_fewestMirrors_19 : decode cX2_fewestMirrors 19 = .ok (.iload_n 3, 1) := by decide +kernel
theorem dX2_fewestMirrors_20 : decode cX2_fewestMirrors 20 = .ok (.aload_n 0, 1) := by decide +kernel
theorem dX2_fewestMirrors_21 : decode cX2_fewestMirrors 21 = .ok (.iload_n 2, 1) := by decide +kernel
theorem dX2_fewestMirrors_22 : decode cX2_fewestMirrors 22 = .ok (.aload_n 0, 1) := by decide +kernel
theorem dX2_fewestMirrors_23 : decode cX2_fewestMirrors 23 = .ok (.getfield 22, 3) := by decide +kernel
theorem dX2_fewestMirrors_26 : decode cX2_fewestMirrors 26 = .ok (.invokevirtual 42, 3) := by decide +kernel
theorem dX2_fewestMirrors_29 : decode cX2_fewestMirrors 29 = .ok (.if_icmp .le 6, 3) := by decide +kernel
theorem dX2_fewestMirrors_32 : decode cX2_fewestMirrors 32 = .ok (.bipush (-4), 2) := by decide +kernel
theorem dX2_fewestMirrors_34 : decode cX2_fewestMirrors 34 = .ok (.ireturn, 1) := by decide +kernel
theorem dX2_fewestMirrors_35 : decode cX2_fewestMirrors 35 = .ok (.iload_n 3, 1) := by decide +kernel
theorem dX2_fewestMirrors_36 : decode cX2_fewestMirrors 36 = .ok (.ifCond .le 9, 3) := by decide +kernel
theorem dX2_fewestMirrors_39 : decode cX2_fewestMirrors 39 = .ok (.iload_n 1, 1) := by decide +kernel
theorem dX2_fewestMirrors_40 : decode cX2_fewestMirrors 40 = .ok (.iconst 1, 1) := by decide +kernel
theorem dX2_fewestMirrors_41 : decode cX2_fewestMirrors 41 = .ok (.iload_n 2, 1) := by decide +kernel
theorem dX2_fewestMirrors_42 : decode cX2_fewestMirrors 42 = .ok (.ishl, 1) := by decide +kernel
theorem dX2_fewestMirrors_43 : decode cX2_fewestMirrors 43 = .ok (.ior, 1) := by decide +kernel
theorem dX2_fewestMirrors_44 : decode cX2_fewestMirrors 44 = .ok (.istore_n 1, 1) := by decide +kernel
theorem dX2_fewestMirrors_45 : decode cX2_fewestMirrors 45 = .ok (.iinc 2 1, 3) := by decide +kernel
theorem dX2_fewestMirrors_48 : decode cX2_fewestMirrors 48 = .ok (.goto (-44), 3) := by decide +kernel
theorem dX2_fewestMirrors_51 : decode cX2_fewestMirrors 51 = .ok (.iload_n 1, 1) := by decide +kernel
theorem dX2_fewestMirrors_52 : decode cX2_fewestMirrors 52 = .ok (.ireturn, 1) := by decide +kernel
theorem dX2_dayLight_0 : decode cX2_dayLight 0 = .ok (.iconst 0, 1) := by decide +kernel
theorem dX2_dayLight_1 : decode cX2_dayLight 1 = .ok (.istore_n 2, 1) := by decide +kernel
theorem dX2_dayLight_2 : decode cX2_dayLight 2 = .ok (.iconst 0, 1) := by decide +kernel
theorem dX2_dayLight_3 : decode cX2_dayLight 3 = .ok (.istore_n 3, 1) := by decide +kernel
theorem dX2_dayLight_4 : decode cX2_dayLight 4 = .ok (.iload_n 3, 1) := by decide +kernel
theorem dX2_dayLight_5 : decode cX2_dayLight 5 = .ok (.bipush 24, 2) := by decide +kernel
theorem dX2_dayLight_7 : decode cX2_dayLight 7 = .ok (.if_icmp .ge 18, 3) := by decide +kernel
theorem dX2_dayLight_10 : decode cX2_dayLight 10 = .ok (.iload_n 2, 1) := by decide +kernel
theorem dX2_dayLight_11 : decode cX2_dayLight 11 = .ok (.aload_n 0, 1) := by decide +kernel
theorem dX2_dayLight_12 : decode cX2_dayLight 12 = .ok (.iload_n 1, 1) := by decide +kernel
theorem dX2_dayLight_13 : decode cX2_dayLight 13 = .ok (.iload_n 3, 1) := by decide +kernel
theorem dX2_dayLight_14 : decode cX2_dayLight 14 = .ok (.invokevirtual 42, 3) := by decide +kernel
theorem dX2_dayLight_17 : decode cX2_dayLight 17 = .ok (.iadd, 1) := by decide +kernel
theorem dX2_dayLight_18 : decode cX2_dayLight 18 = .ok (.istore_n 2, 1) := by decide +kernel
theorem dX2_dayLight_19 : decode cX2_dayLight 19 = .ok (.iinc 3 1, 3) := by decide +kernel
theorem dX2_dayLight_22 : decode cX2_dayLight 22 = .ok (.goto (-18), 3) := by decide +kernel
theorem dX2_dayLight_25 : decode cX2_dayLight 25 = .ok (.iload_n 2, 1) := by decide +kernel
theorem dX2_dayLight_26 : decode cX2_dayLight 26 = .ok (.ireturn, 1) := by decide +kernel
theorem dX2_mostStopped_0 : decode cX2_mostStopped 0 = .ok (.iconst 0, 1) := by decide +kernel
theorem dX2_mostStopped_1 : decode cX2_mostStopped 1 = .ok (.istore_n 2, 1) := by decide +kernel
theorem dX2_mostStopped_2 : decode cX2_mostStopped 2 = .ok (.iconst 0, 1) := by decide +kernel
theorem dX2_mostStopped_3 : decode cX2_mostStopped 3 = .ok (.istore_n 3, 1) := by decide +kernel
theorem dX2_mostStopped_4 : decode cX2_mostStopped 4 = .ok (.iload_n 3, 1) := by decide +kernel
theorem dX2_mostStopped_5 : decode cX2_mostStopped 5 = .ok (.iconst 1, 1) := by decide +kernel
theorem dX2_mostStopped_6 : decode cX2_mostStopped 6 = .ok (.aload_n 0, 1) := by decide +kernel
theorem dX2_mostStopped_7 : decode cX2_mostStopped 7 = .ok (.getfield 9, 3) := by decide +kernel
theorem dX2_mostStopped_10 : decode cX2_mostStopped 10 = .ok (.ishl, 1) := by decide +kernel
theorem dX2_mostStopped_11 : decode cX2_mostStopped 11 = .ok (.if_icmp .ge 37, 3) := by decide +kernel
theorem dX2_mostStopped_14 : decode cX2_mostStopped 14 = .ok (.aload_n 1, 1) := by decide +kernel
theorem dX2_mostStopped_15 : decode cX2_mostStopped 15 = .ok (.iload_n 3, 1) := by decide +kernel
theorem dX2_mostStopped_16 : decode cX2_mostStopped 16 = .ok (.putfield 15, 3) := by decide +kernel
theorem dX2_mostStopped_19 : decode cX2_mostStopped 19 = .ok (.iload_n 3, 1) := by decide +kernel
theorem dX2_mostStopped_20 : decode cX2_mostStopped 20 = .ok (.invokestatic 45, 3) := by decide +kernel
theorem dX2_mostStopped_23 : decode cX2_mostStopped 23 = .ok (.istore 4, 2) := by decide +kernel
theorem dX2_mostStopped_25 : decode cX2_mostStopped 25 = .ok (.iload 4, 2) := by decide +kernel
theorem dX2_mostStopped_27 : decode cX2_mostStopped 27 = .ok (.iload_n 2, 1) := by decide +kernel
theorem dX2_mostStopped_28 : decode cX2_mostStopped 28 = .ok (.if_icmp .le 14, 3) := by decide +kernel
theorem dX2_mostStopped_31 : decode cX2_mostStopped 31 = .ok (.aload_n 0, 1) := by decide +kernel
theorem dX2_mostStopped_32 : decode cX2_mostStopped 32 = .ok (.aload_n 1, 1) := by decide +kernel
theorem dX2_mostStopped_33 : decode cX2_mostStopped 33 = .ok (.invokestatic 50, 3) := by decide +kernel
theorem dX2_mostStopped_36 : decode cX2_mostStopped 36 = .ok (.ifCond .ne 6, 3) := by decide +kernel
theorem dX2_mostStopped_39 : decode cX2_mostStopped 39 = .ok (.iload 4, 2) := by decide +kernel
theorem dX2_mostStopped_41 : decode cX2_mostStopped 41 = .ok (.istore_n 2, 1) := by decide +kernel
theorem dX2_mostStopped_42 : decode cX2_mostStopped 42 = .ok (.iinc 3 1, 3) := by decide +kernel
theorem dX2_mostStopped_45 : decode cX2_mostStopped 45 = .ok (.goto (-41), 3) := by decide +kernel
theorem dX2_mostStopped_48 : decode cX2_mostStopped 48 = .ok (.iload_n 2, 1) := by decide +kernel
theorem dX2_mostStopped_49 : decode cX2_mostStopped 49 = .ok (.ireturn, 1) := by decide +kernel
theorem dX2_isDarkerAnywhere_0 : decode cX2_isDarkerAnywhere 0 = .ok (.iconst 0, 1) := by decide +kernel
theorem dX2_isDarkerAnywhere_1 : decode cX2_isDarkerAnywhere 1 = .ok (.istore_n 2, 1) := by decide +kernel
theorem dX2_isDarkerAnywhere_2 : decode cX2_isDarkerAnywhere 2 = .ok (.iload_n 2, 1) := by decide +kernel
theorem dX2_isDarkerAnywhere_3 : decode cX2_isDarkerAnywhere 3 = .ok (.iconst 4, 1) := by decide +kernel
theorem dX2_isDarkerAnywhere_4 : decode cX2_isDarkerAnywhere 4 = .ok (.if_icmp .ge 43, 3) := by decide +kernel
theorem dX2_isDarkerAnywhere_7 : decode cX2_isDarkerAnywhere 7 = .ok (.iconst 0, 1) := by decide +kernel
theorem dX2_isDarkerAnywhere_8 : decode cX2_isDarkerAnywhere 8 = .ok (.istore_n 3, 1) := by decide +kernel
theorem dX2_isDarkerAnywhere_9 : decode cX2_isDarkerAnywhere 9 = .ok (.iload_n 3, 1) := by decide +kernel
theorem dX2_isDarkerAnywhere_10 : decode cX2_isDarkerAnywhere 10 = .ok (.bipush 24, 2) := by decide +kernel
theorem dX2_isDarkerAnywhere_12 : decode cX2_isDarkerAnywhere 12 = .ok (.if_icmp .ge 29, 3) := by decide +kernel
theorem dX2_isDarkerAnywhere_15 : decode cX2_isDarkerAnywhere 15 = .ok (.aload_n 1, 1) := by decide +kernel
theorem dX2_isDarkerAnywhere_16 : decode cX2_isDarkerAnywhere 16 = .ok (.iload_n 2, 1) := by decide +kernel
theorem dX2_isDarkerAnywhere_17 : decode cX2_isDarkerAnywhere 17 = .ok (.iload_n 3, 1) := by decide +kernel
theorem dX2_isDarkerAnywhere_18 : decode cX2_isDarkerAnywhere 18 = .ok (.invokevirtual 39, 3) := by decide +kernel
theorem dX2_isDarkerAnywhere_21 : decode cX2_isDarkerAnywhere 21 = .ok (.ifCond .le 14, 3) := by decide +kernel
theorem dX2_isDarkerAnywhere_24 : decode cX2_isDarkerAnywhere 24 = .ok (.aload_n 0, 1) := by decide +kernel
theorem dX2_isDarkerAnywhere_25 : decode cX2_isDarkerAnywhere 25 = .ok (.iload_n 2, 1) := by decide +kernel
theorem dX2_isDarkerAnywhere_26 : decode cX2_isDarkerAnywhere 26 = .ok (.iload_n 3, 1) := by decide +kernel
theorem dX2_isDarkerAnywhere_27 : decode cX2_isDarkerAnywhere 27 = .ok (.invokevirtual 39, 3) := by decide +kernel
theorem dX2_isDarkerAnywhere_30 : decode cX2_isDarkerAnywhere 30 = .ok (.ifCond .ne 5, 3) := by decide +kernel
theorem dX2_isDarkerAnywhere_33 : decode cX2_isDarkerAnywhere 33 = .ok (.iconst 1, 1) := by decide +kernel
theorem dX2_isDarkerAnywhere_34 : decode cX2_isDarkerAnywhere 34 = .ok (.ireturn, 1) := by decide +kernel
theorem dX2_isDarkerAnywhere_35 : decode cX2_isDarkerAnywhere 35 = .ok (.iinc 3 1, 3) := by decide +kernel
theorem dX2_isDarkerAnywhere_38 : decode cX2_isDarkerAnywhere 38 = .ok (.goto (-29), 3) := by decide +kernel
theorem dX2_isDarkerAnywhere_41 : decode cX2_isDarkerAnywhere 41 = .ok (.iinc 2 1, 3) := by decide +kernel
theorem dX2_isDarkerAnywhere_44 : decode cX2_isDarkerAnywhere 44 = .ok (.goto (-42), 3) := by decide +kernel
theorem dX2_isDarkerAnywhere_47 : decode cX2_isDarkerAnywhere 47 = .ok (.iconst 0, 1) := by decide +kernel
theorem dX2_isDarkerAnywhere_48 : decode cX2_isDarkerAnywhere 48 = .ok (.ireturn, 1) := by decide +kernel
theorem dX2_kindsThatShine_0 : decode cX2_kindsThatShine 0 = .ok (.iconst 0, 1) := by decide +kernel
theorem dX2_kindsThatShine_1 : decode cX2_kindsThatShine 1 = .ok (.istore_n 3, 1) := by decide +kernel
theorem dX2_kindsThatShine_2 : decode cX2_kindsThatShine 2 = .ok (.iconst 0, 1) := by decide +kernel
theorem dX2_kindsThatShine_3 : decode cX2_kindsThatShine 3 = .ok (.istore 4, 2) := by decide +kernel
theorem dX2_kindsThatShine_5 : decode cX2_kindsThatShine 5 = .ok (.iload 4, 2) := by decide +kernel
theorem dX2_kindsThatShine_7 : decode cX2_kindsThatShine 7 = .ok (.bipush 8, 2) := by decide +kernel
theorem dX2_kindsThatShine_9 : decode cX2_kindsThatShine 9 = .ok (.if_icmp .ge 27, 3) := by decide +kernel
theorem dX2_kindsThatShine_12 : decode cX2_kindsThatShine 12 = .ok (.aload_n 0, 1) := by decide +kernel
theorem dX2_kindsThatShine_13 : decode cX2_kindsThatShine 13 = .ok (.iload 4, 2) := by decide +kernel
theorem dX2_kindsThatShine_15 : decode cX2_kindsThatShine 15 = .ok (.iload_n 1, 1) := by decide +kernel
theorem dX2_kindsThatShine_16 : decode cX2_kindsThatShine 16 = .ok (.iload_n 2, 1) := by decide +kernel
theorem dX2_kindsThatShine_17 : decode cX2_kindsThatShine 17 = .ok (.invokestatic 56, 3) := by decide +kernel
theorem dX2_kindsThatShine_20 : decode cX2_kindsThatShine 20 = .ok (.ifCond .eq 10, 3) := by decide +kernel
theorem dX2_kindsThatShine_23 : decode cX2_kindsThatShine 23 = .ok (.iload_n 3, 1) := by decide +kernel
theorem dX2_kindsThatShine_24 : decode cX2_kindsThatShine 24 = .ok (.iconst 1, 1) := by decide +kernel
theorem dX2_kindsThatShine_25 : decode cX2_kindsThatShine 25 = .ok (.iload 4, 2) := by decide +kernel
theorem dX2_kindsThatShine_27 : decode cX2_kindsThatShine 27 = .ok (.ishl, 1) := by decide +kernel
theorem dX2_kindsThatShine_28 : decode cX2_kindsThatShine 28 = .ok (.ior, 1) := by decide +kernel
theorem dX2_kindsThatShine_29 : decode cX2_kindsThatShine 29 = .ok (.istore_n 3, 1) := by decide +kernel
theorem dX2_kindsThatShine_30 : decode cX2_kindsThatShine 30 = .ok (.iinc 4 1, 3) := by decide +kernel
theorem dX2_kindsThatShine_33 : decode cX2_kindsThatShine 33 = .ok (.goto (-28), 3) := by decide +kernel
theorem dX2_kindsThatShine_36 : decode cX2_kindsThatShine 36 = .ok (.iload_n 3, 1) := by decide +kernel
theorem dX2_kindsThatShine_37 : decode cX2_kindsThatShine 37 = .ok (.ireturn, 1) := by decide +kernel
theorem dX2_isShineOf_0 : decode cX2_isShineOf 0 = .ok (.iconst 0, 1) := by decide +kernel
theorem dX2_isShineOf_1 : decode cX2_isShineOf 1 = .ok (.istore 4, 2) := by decide +kernel
theorem dX2_isShineOf_3 : decode cX2_isShineOf 3 = .ok (.iload 4, 2) := by decide +kernel
theorem dX2_isShineOf_5 : decode cX2_isShineOf 5 = .ok (.aload_n 0, 1) := by decide +kernel
theorem dX2_isShineOf_6 : decode cX2_isShineOf 6 = .ok (.getfield 60, 3) := by decide +kernel
theorem dX2_isShineOf_9 : decode cX2_isShineOf 9 = .ok (.if_icmp .ge 45, 3) := by decide +kernel
theorem dX2_isShineOf_12 : decode cX2_isShineOf 12 = .ok (.aload_n 0, 1) := by decide +kernel
theorem dX2_isShineOf_13 : decode cX2_isShineOf 13 = .ok (.getfield 65, 3) := by decide +kernel
theorem dX2_isShineOf_16 : decode cX2_isShineOf 16 = .ok (.iload 4, 2) := by decide +kernel
theorem dX2_isShineOf_18 : decode cX2_isShineOf 18 = .ok (.iaload, 1) := by decide +kernel
theorem dX2_isShineOf_19 : decode cX2_isShineOf 19 = .ok (.istore 5, 2) := by decide +kernel
theorem dX2_isShineOf_21 : decode cX2_isShineOf 21 = .ok (.iload 5, 2) := by decide +kernel
theorem dX2_isShineOf_23 : decode cX2_isShineOf 23 = .ok (.aload_n 0, 1) := by decide +kernel
theorem dX2_isShineOf_24 : decode cX2_isShineOf 24 = .ok (.invokevirtual 69, 3) := by decide +kernel
theorem dX2_isShineOf_27 : decode cX2_isShineOf 27 = .ok (.if_icmp .eq 21, 3) := by decide +kernel
theorem dX2_isShineOf_30 : decode cX2_isShineOf 30 = .ok (.iload 5, 2) := by decide +kernel
theorem dX2_isShineOf_32 : decode cX2_isShineOf 32 = .ok (.iload_n 1, 1) := by decide +kernel
theorem dX2_isShineOf_33 : decode cX2_isShineOf 33 = .ok (.iload_n 2, 1) := by decide +kernel
theorem dX2_isShineOf_34 : decode cX2_isShineOf 34 = .ok (.iload_n 3, 1) := by decide +kernel
theorem dX2_isShineOf_35 : decode cX2_isShineOf 35 = .ok (.iload 4, 2) := by decide +kernel
theorem dX2_isShineOf_37 : decode cX2_isShineOf 37 = .ok (.invokestatic 72, 3) := by decide +kernel
theorem dX2_isShineOf_40 : decode cX2_isShineOf 40 = .ok (.invokestatic 75, 3) := by decide +kernel
theorem dX2_isShineOf_43 : decode cX2_isShineOf 43 = .ok (.if_icmp .eq 5, 3) := by decide +kernel
theorem dX2_isShineOf_46 : decode cX2_isShineOf 46 = .ok (.iconst 0, 1) := by decide +kernel
theorem dX2_isShineOf_47 : decode cX2_isShineOf 47 = .ok (.ireturn, 1) := by decide +kernel
theorem dX2_isShineOf_48 : decode cX2_isShineOf 48 = .ok (.iinc 4 1, 3) := by decide +kernel
theorem dX2_isShineOf_51 : decode cX2_isShineOf 51 = .ok (.goto (-48), 3) := by decide +kernel
theorem dX2_isShineOf_54 : decode cX2_isShineOf 54 = .ok (.iconst 1, 1) := by decide +kernel
theorem dX2_isShineOf_55 : decode cX2_isShineOf 55 = .ok (.ireturn, 1) := by decide +kernel
theorem dX3_yearPaidOff_0 : decode cX3_yearPaidOff 0 = .ok (.aload_n 0, 1) := by decide +kernel
theorem dX3_yearPaidOff_1 : decode cX3_yearPaidOff 1 = .ok (.getfield 9, 3) := by decide +kernel
theorem dX3_yearPaidOff_4 : decode cX3_yearPaidOff 4 = .ok (.istore_n 2, 1) := by decide +kernel
theorem dX3_yearPaidOff_5 : decode cX3_yearPaidOff 5 = .ok (.iconst 0, 1) := by decide +kernel
theorem dX3_yearPaidOff_6 : decode cX3_yearPaidOff 6 = .ok (.istore_n 3, 1) := by decide +kernel
theorem dX3_yearPaidOff_7 : decode cX3_yearPaidOff 7 = .ok (.iload_n 3, 1) := by decide +kernel
theorem dX3_yearPaidOff_8 : decode cX3_yearPaidOff 8 = .ok (.bipush 60, 2) := by decide +kernel
theorem dX3_yearPaidOff_10 : decode cX3_yearPaidOff 10 = .ok (.if_icmp .gt 31, 3) := by decide +kernel
theorem dX3_yearPaidOff_13 : decode cX3_yearPaidOff 13 = .ok (.iload_n 2, 1) := by decide +kernel
theorem dX3_yearPaidOff_14 : decode cX3_yearPaidOff 14 = .ok (.ifCond .ne 5, 3) := by decide +kernel
theorem dX3_yearPaidOff_17 : decode cX3_yearPaidOff 17 = .ok (.iload_n 3, 1) := by decide +kernel
theorem dX3_yearPaidOff_18 : decode cX3_yearPaidOff 18 = .ok (.ireturn, 1) := by decide +kernel
theorem dX3_yearPaidOff_19 : decode cX3_yearPaidOff 19 = .ok (.iconst 0, 1) := by decide +kernel
theorem dX3_yearPaidOff_20 : decode cX3_yearPaidOff 20 = .ok (.aload_n 0, 1) := by decide +kernel
theorem dX3_yearPaidOff_21 : decode cX3_yearPaidOff 21 = .ok (.iload_n 2, 1) := by decide +kernel
theorem dX3_yearPaidOff_22 : decode cX3_yearPaidOff 22 = .ok (.aload_n 0, 1) := by decide +kernel
theorem dX3_yearPaidOff_23 : decode cX3_yearPaidOff 23 = .ok (.getfield 17, 3) := by decide +kernel
theorem dX3_yearPaidOff_26 : decode cX3_yearPaidOff 26 = .ok (.invokevirtual 20, 3) := by decide +kernel
theorem dX3_yearPaidOff_29 : decode cX3_yearPaidOff 29 = .ok (.iload_n 1, 1) := by decide +kernel
theorem dX3_yearPaidOff_30 : decode cX3_yearPaidOff 30 = .ok (.isub, 1) := by decide +kernel
theorem dX3_yearPaidOff_31 : decode cX3_yearPaidOff 31 = .ok (.invokestatic 24, 3) := by decide +kernel
theorem dX3_yearPaidOff_34 : decode cX3_yearPaidOff 34 = .ok (.istore_n 2, 1) := by decide +kernel
theorem dX3_yearPaidOff_35 : decode cX3_yearPaidOff 35 = .ok (.iinc 3 1, 3) := by decide +kernel
theorem dX3_yearPaidOff_38 : decode cX3_yearPaidOff 38 = .ok (.goto (-31), 3) := by decide +kernel
theorem dX3_yearPaidOff_41 : decode cX3_yearPaidOff 41 = .ok (.bipush (-4), 2) := by decide +kernel
theorem dX3_yearPaidOff_43 : decode cX3_yearPaidOff 43 = .ok (.ireturn, 1) := by decide +kernel
theorem dX3_cheapestChange_0 : decode cX3_cheapestChange 0 = .ok (.bipush (-4), 2) := by decide +kernel
theorem dX3_cheapestChange_2 : decode cX3_cheapestChange 2 = .ok (.istore_n 2, 1) := by decide +kernel
theorem dX3_cheapestChange_3 : decode cX3_cheapestChange 3 = .ok (.aload_n 0, 1) := by decide +kernel
theorem dX3_cheapestChange_4 : decode cX3_cheapestChange 4 = .ok (.invokevirtual 29, 3) := by decide +kernel
theorem dX3_cheapestChange_7 : decode cX3_cheapestChange 7 = .ok (.istore_n 3, 1) := by decide +kernel
theorem dX3_cheapestChange_8 : decode cX3_cheapestChange 8 = .ok (.iconst 0, 1) := by decide +kernel
theorem dX3_cheapestChange_9 : decode cX3_cheapestChange 9 = .ok (.istore 4, 2) := by decide +kernel
theorem dX3_cheapestChange_11 : decode cX3_cheapestChange 11 = .ok (.iload 4, 2) := by decide +kernel
theorem dX3_cheapestChange_13 : decode cX3_cheapestChange 13 = .ok (.aload_n 0, 1) := by decide +kernel
theorem dX3_cheapestChange_14 : decode cX3_cheapestChange 14 = .ok (.getfield 33, 3) := by decide +kernel
theorem dX3_cheapestChange_17 : decode cX3_cheapestChange 17 = .ok (.if_icmp .ge 80, 3) := by decide +kernel
theorem dX3_cheapestChange_20 : decode cX3_cheapestChange 20 = .ok (.iconst 0, 1) := by decide +kernel
theorem dX3_cheapestChange_21 : decode cX3_cheapestChange 21 = .ok (.istore 5, 2) := by decide +kernel
theorem dX3_cheapestChange_23 : decode cX3_cheapestChange 23 = .ok (.iload 5, 2) := by decide +kernel
theorem dX3_cheapestChange_25 : decode cX3_cheapestChange 25 = .ok (.bipush 8, 2) := by decide +kernel
theorem dX3_cheapestChange_27 : decode cX3_cheapestChange 27 = .ok (.if_icmp .ge 50, 3) := by decide +kernel
theorem dX3_cheapestChange_30 : decode cX3_cheapestChange 30 = .ok (.aload_n 1, 1) := by decide +kernel
theorem dX3_cheapestChange_31 : decode cX3_cheapestChange 31 = .ok (.getfield 38, 3) := by decide +kernel
theorem dX3_cheapestChange_34 : decode cX3_cheapestChange 34 = .ok (.iload 4, 2) := by decide +kernel
theorem dX3_cheapestChange_36 : decode cX3_cheapestChange 36 = .ok (.iload 5, 2) := by decide +kernel
theorem dX3_cheapestChange_38 : decode cX3_cheapestChange 38 = .ok (.iastore, 1) := by decide +kernel
theorem dX3_cheapestChange_39 : decode cX3_cheapestChange 39 = .ok (.aload_n 1, 1) := by decide +kernel
theorem dX3_cheapestChange_40 : decode cX3_cheapestChange 40 = .ok (.invokevirtual 29, 3) := by decide +kernel
theorem dX3_cheapestChange_43 : decode cX3_cheapestChange 43 = .ok (.istore 6, 2) := by decide +kernel
theorem dX3_cheapestChange_45 : decode cX3_cheapestChange 45 = .ok (.iload 6, 2) := by decide +kernel
theorem dX3_cheapestChange_47 : decode cX3_cheapestChange 47 = .ok (.iload_n 3, 1) := by decide +kernel
theorem dX3_cheapestChange_48 : decode cX3_cheapestChange 48 = .ok (.if_icmp .ge 23, 3) := by decide +kernel
theorem dX3_cheapestChange_51 : decode cX3_cheapestChange 51 = .ok (.aload_n 0, 1) := by decide +kernel
theorem dX3_cheapestChange_52 : decode cX3_cheapestChange 52 = .ok (.aload_n 1, 1) := by decide +kernel
theorem dX3_cheapestChange_53 : decode cX3_cheapestChange 53 = .ok (.invokestatic 42, 3) := by decide +kernel
theorem dX3_cheapestChange_56 : decode cX3_cheapestChange 56 = .ok (.ifCond .ne 15, 3) := by decide +kernel
theorem dX3_cheapestChange_59 : decode cX3_cheapestChange 59 = .ok (.bipush 10, 2) := by decide +kernel
theorem dX3_cheapestChange_61 : decode cX3_cheapestChange 61 = .ok (.iload 4, 2) := by decide +kernel
theorem dX3_cheapestChange_63 : decode cX3_cheapestChange 63 = .ok (.imul, 1) := by decide +kernel
theorem dX3_cheapestChange_64 : decode cX3_cheapestChange 64 = .ok (.iload 5, 2) := by decide +kernel
theorem dX3_cheapestChange_66 : decode cX3_cheapestChange 66 = .ok (.iadd, 1) := by decide +kernel
theorem dX3_cheapestChange_67 : decode cX3_cheapestChange 67 = .ok (.istore_n 2, 1) := by decide +kernel
theorem dX3_cheapestChange_68 : decode cX3_cheapestChange 68 = .ok (.iload 6, 2) := by decide +kernel
theorem dX3_cheapestChange_70 : decode cX3_cheapestChange 70 = .ok (.istore_n 3, 1) := by decide +kernel
theorem dX3_cheapestChange_71 : decode cX3_cheapestChange 71 = .ok (.iinc 5 1, 3) := by decide +kernel
theorem dX3_cheapestChange_74 : decode cX3_cheapestChange 74 = .ok (.goto (-51), 3) := by decide +kernel
theorem dX3_cheapestChange_77 : decode cX3_cheapestChange 77 = .ok (.aload_n 1, 1) := by decide +kernel
theorem dX3_cheapestChange_78 : decode cX3_cheapestChange 78 = .ok (.getfield 38, 3) := by decide +kernel
theorem dX3_cheapestChange_81 : decode cX3_cheapestChange 81 = .ok (.iload 4, 2) := by decide +kernel
theorem dX3_cheapestChange_83 : decode cX3_cheapestChange 83 = .ok (.aload_n 0, 1) := by decide +kernel
theorem dX3_cheapestChange_84 : decode cX3_cheapestChange 84 = .ok (.getfield 38, 3) := by decide +kernel
theorem dX3_cheapestChange_87 : decode cX3_cheapestChange 87 = .ok (.iload 4, 2) := by decide +kernel
theorem dX3_cheapestChange_89 : decode cX3_cheapestChange 89 = .ok (.iaload, 1) := by decide +kernel
theorem dX3_cheapestChange_90 : decode cX3_cheapestChange 90 = .ok (.iastore, 1) := by decide +kernel
theorem dX3_cheapestChange_91 : decode cX3_cheapestChange 91 = .ok (.iinc 4 1, 3) := by decide +kernel
theorem dX3_cheapestChange_94 : decode cX3_cheapestChange 94 = .ok (.goto (-83), 3) := by decide +kernel
theorem dX3_cheapestChange_97 : decode cX3_cheapestChange 97 = .ok (.iload_n 2, 1) := by decide +kernel
theorem dX3_cheapestChange_98 : decode cX3_cheapestChange 98 = .ok (.ireturn, 1) := by decide +kernel
theorem dX3_lacksMore_0 : decode cX3_lacksMore 0 = .ok (.iconst 0, 1) := by decide +kernel
theorem dX3_lacksMore_1 : decode cX3_lacksMore 1 = .ok (.istore_n 2, 1) := by decide +kernel
theorem dX3_lacksMore_2 : decode cX3_lacksMore 2 = .ok (.iload_n 2, 1) := by decide +kernel
theorem dX3_lacksMore_3 : decode cX3_lacksMore 3 = .ok (.iconst 4, 1) := by decide +kernel
theorem dX3_lacksMore_4 : decode cX3_lacksMore 4 = .ok (.if_icmp .ge 32, 3) := by decide +kernel
theorem dX3_lacksMore_7 : decode cX3_lacksMore 7 = .ok (.aload_n 1, 1) := by decide +kernel
theorem dX3_lacksMore_8 : decode cX3_lacksMore 8 = .ok (.iload_n 2, 1) := by decide +kernel
theorem dX3_lacksMore_9 : decode cX3_lacksMore 9 = .ok (.aload_n 0, 1) := by decide +kernel
theorem dX3_lacksMore_10 : decode cX3_lacksMore 10 = .ok (.getfield 17, 3) := by decide +kernel
theorem dX3_lacksMore_13 : decode cX3_lacksMore 13 = .ok (.invokevirtual 46, 3) := by decide +kernel
theorem dX3_lacksMore_16 : decode cX3_lacksMore 16 = .ok (.aload_n 0, 1) := by decide +kernel
theorem dX3_lacksMore_17 : decode cX3_lacksMore 17 = .ok (.iload_n 2, 1) := by decide +kernel
theorem dX3_lacksMore_18 : decode cX3_lacksMore 18 = .ok (.aload_n 0, 1) := by decide +kernel
theorem dX3_lacksMore_19 : decode cX3_lacksMore 19 = .ok (.getfield 17, 3) := by decide +kernel
theorem dX3_lacksMore_22 : decode cX3_lacksMore 22 = .ok (.invokevirtual 46, 3) := by decide +kernel
theorem dX3_lacksMore_25 : decode cX3_lacksMore 25 = .ok (.if_icmp .le 5, 3) := by decide +kernel
theorem dX3_lacksMore_28 : decode cX3_lacksMore 28 = .ok (.iconst 1, 1) := by decide +kernel
theorem dX3_lacksMore_29 : decode cX3_lacksMore 29 = .ok (.ireturn, 1) := by decide +kernel
theorem dX3_lacksMore_30 : decode cX3_lacksMore 30 = .ok (.iinc 2 1, 3) := by decide +kernel
theorem dX3_lacksMore_33 : decode cX3_lacksMore 33 = .ok (.goto (-31), 3) := by decide +kernel
theorem dX3_lacksMore_36 : decode cX3_lacksMore 36 = .ok (.iconst 0, 1) := by decide +kernel
theorem dX3_lacksMore_37 : decode cX3_lacksMore 37 = .ok (.ireturn, 1) := by decide +kernel
theorem dX3_forgedPlace_0 : decode cX3_forgedPlace 0 = .ok (.iconst 0, 1) := by decide +kernel
theorem dX3_forgedPlace_1 : decode cX3_forgedPlace 1 = .ok (.istore_n 2, 1) := by decide +kernel
theorem dX3_forgedPlace_2 : decode cX3_forgedPlace 2 = .ok (.iconst 0, 1) := by decide +kernel
theorem dX3_forgedPlace_3 : decode cX3_forgedPlace 3 = .ok (.istore_n 3, 1) := by decide +kernel
theorem dX3_forgedPlace_4 : decode cX3_forgedPlace 4 = .ok (.iload_n 3, 1) := by decide +kernel
theorem dX3_forgedPlace_5 : decode cX3_forgedPlace 5 = .ok (.bipush 24, 2) := by decide +kernel
theorem dX3_forgedPlace_7 : decode cX3_forgedPlace 7 = .ok (.if_icmp .ge 34, 3) := by decide +kernel
theorem dX3_forgedPlace_10 : decode cX3_forgedPlace 10 = .ok (.aload_n 0, 1) := by decide +kernel
theorem dX3_forgedPlace_11 : decode cX3_forgedPlace 11 = .ok (.aload_n 1, 1) := by decide +kernel
theorem dX3_forgedPlace_12 : decode cX3_forgedPlace 12 = .ok (.iload_n 3, 1) := by decide +kernel
theorem dX3_forgedPlace_13 : decode cX3_forgedPlace 13 = .ok (.invokestatic 49, 3) := by decide +kernel
theorem dX3_forgedPlace_16 : decode cX3_forgedPlace 16 = .ok (.istore 4, 2) := by decide +kernel
theorem dX3_forgedPlace_18 : decode cX3_forgedPlace 18 = .ok (.iload 4, 2) := by decide +kernel
theorem dX3_forgedPlace_20 : decode cX3_forgedPlace 20 = .ok (.bipush (-4), 2) := by decide +kernel
theorem dX3_forgedPlace_22 : decode cX3_forgedPlace 22 = .ok (.if_icmp .ne 6, 3) := by decide +kernel
theorem dX3_forgedPlace_25 : decode cX3_forgedPlace 25 = .ok (.bipush (-4), 2) := by decide +kernel
theorem dX3_forgedPlace_27 : decode cX3_forgedPlace 27 = .ok (.ireturn, 1) := by decide +kernel
theorem dX3_forgedPlace_28 : decode cX3_forgedPlace 28 = .ok (.iload_n 2, 1) := by decide +kernel
theorem dX3_forgedPlace_29 : decode cX3_forgedPlace 29 = .ok (.iload 4, 2) := by decide +kernel
theorem dX3_forgedPlace_31 : decode cX3_forgedPlace 31 = .ok (.invokestatic 24, 3) := by decide +kernel
theorem dX3_forgedPlace_34 : decode cX3_forgedPlace 34 = .ok (.istore_n 2, 1) := by decide +kernel
theorem dX3_forgedPlace_35 : decode cX3_forgedPlace 35 = .ok (.iinc 3 1, 3) := by decide +kernel
theorem dX3_forgedPlace_38 : decode cX3_forgedPlace 38 = .ok (.goto (-34), 3) := by decide +kernel
theorem dX3_forgedPlace_41 : decode cX3_forgedPlace 41 = .ok (.iload_n 2, 1) := by decide +kernel
theorem dX3_forgedPlace_42 : decode cX3_forgedPlace 42 = .ok (.ireturn, 1) := by decide +kernel
theorem dX3_forgedPlaceFrom_0 : decode cX3_forgedPlaceFrom 0 = .ok (.iconst 0, 1) := by decide +kernel
theorem dX3_forgedPlaceFrom_1 : decode cX3_forgedPlaceFrom 1 = .ok (.istore_n 3, 1) := by decide +kernel
theorem dX3_forgedPlaceFrom_2 : decode cX3_forgedPlaceFrom 2 = .ok (.iload_n 3, 1) := by decide +kernel
theorem dX3_forgedPlaceFrom_3 : decode cX3_forgedPlaceFrom 3 = .ok (.aload_n 1, 1) := by decide +kernel
theorem dX3_forgedPlaceFrom_4 : decode cX3_forgedPlaceFrom 4 = .ok (.getfield 53, 3) := by decide +kernel
theorem dX3_forgedPlaceFrom_7 : decode cX3_forgedPlaceFrom 7 = .ok (.if_icmp .ge 30, 3) := by decide +kernel
theorem dX3_forgedPlaceFrom_10 : decode cX3_forgedPlaceFrom 10 = .ok (.aload_n 1, 1) := by decide +kernel
theorem dX3_forgedPlaceFrom_11 : decode cX3_forgedPlaceFrom 11 = .ok (.getfield 58, 3) := by decide +kernel
theorem dX3_forgedPlaceFrom_14 : decode cX3_forgedPlaceFrom 14 = .ok (.iload_n 3, 1) := by decide +kernel
theorem dX3_forgedPlaceFrom_15 : decode cX3_forgedPlaceFrom 15 = .ok (.iaload, 1) := by decide +kernel
theorem dX3_forgedPlaceFrom_16 : decode cX3_forgedPlaceFrom 16 = .ok (.aload_n 0, 1) := by decide +kernel
theorem dX3_forgedPlaceFrom_17 : decode cX3_forgedPlaceFrom 17 = .ok (.iload_n 2, 1) := by decide +kernel
theorem dX3_forgedPlaceFrom_18 : decode cX3_forgedPlaceFrom 18 = .ok (.iload_n 3, 1) := by decide +kernel
theorem dX3_forgedPlaceFrom_19 : decode cX3_forgedPlaceFrom 19 = .ok (.iadd, 1) := by decide +kernel
theorem dX3_forgedPlaceFrom_20 : decode cX3_forgedPlaceFrom 20 = .ok (.bipush 24, 2) := by decide +kernel
theorem dX3_forgedPlaceFrom_22 : decode cX3_forgedPlaceFrom 22 = .ok (.irem, 1) := by decide +kernel
theorem dX3_forgedPlaceFrom_23 : decode cX3_forgedPlaceFrom 23 = .ok (.invokevirtual 61, 3) := by decide +kernel
theorem dX3_forgedPlaceFrom_26 : decode cX3_forgedPlaceFrom 26 = .ok (.if_icmp .eq 5, 3) := by decide +kernel
theorem dX3_forgedPlaceFrom_29 : decode cX3_forgedPlaceFrom 29 = .ok (.iload_n 3, 1) := by decide +kernel
theorem dX3_forgedPlaceFrom_30 : decode cX3_forgedPlaceFrom 30 = .ok (.ireturn, 1) := by decide +kernel
theorem dX3_forgedPlaceFrom_31 : decode cX3_forgedPlaceFrom 31 = .ok (.iinc 3 1, 3) := by decide +kernel
theorem dX3_forgedPlaceFrom_34 : decode cX3_forgedPlaceFrom 34 = .ok (.goto (-32), 3) := by decide +kernel
theorem dX3_forgedPlaceFrom_37 : decode cX3_forgedPlaceFrom 37 = .ok (.bipush (-4), 2) := by decide +kernel
theorem dX3_forgedPlaceFrom_39 : decode cX3_forgedPlaceFrom 39 = .ok (.ireturn, 1) := by decide +kernel
theorem dX3_wrongYear_0 : decode cX3_wrongYear 0 = .ok (.aload_n 0, 1) := by decide +kernel
theorem dX3_wrongYear_1 : decode cX3_wrongYear 1 = .ok (.getfield 9, 3) := by decide +kernel
theorem dX3_wrongYear_4 : decode cX3_wrongYear 4 = .ok (.istore_n 2, 1) := by decide +kernel
theorem dX3_wrongYear_5 : decode cX3_wrongYear 5 = .ok (.iconst 0, 1) := by decide +kernel
theorem dX3_wrongYear_6 : decode cX3_wrongYear 6 = .ok (.istore_n 3, 1) := by decide +kernel
theorem dX3_wrongYear_7 : decode cX3_wrongYear 7 = .ok (.iload_n 3, 1) := by decide +kernel
theorem dX3_wrongYear_8 : decode cX3_wrongYear 8 = .ok (.aload_n 1, 1) := by decide +kernel
theorem dX3_wrongYear_9 : decode cX3_wrongYear 9 = .ok (.getfield 53, 3) := by decide +kernel
theorem dX3_wrongYear_12 : decode cX3_wrongYear 12 = .ok (.if_icmp .ge 44, 3) := by decide +kernel
theorem dX3_wrongYear_15 : decode cX3_wrongYear 15 = .ok (.aload_n 1, 1) := by decide +kernel
theorem dX3_wrongYear_16 : decode cX3_wrongYear 16 = .ok (.getfield 58, 3) := by decide +kernel
theorem dX3_wrongYear_19 : decode cX3_wrongYear 19 = .ok (.iload_n 3, 1) := by decide +kernel
theorem dX3_wrongYear_20 : decode cX3_wrongYear 20 = .ok (.iaload, 1) := by decide +kernel
theorem dX3_wrongYear_21 : decode cX3_wrongYear 21 = .ok (.aload_n 1, 1) := by decide +kernel
theorem dX3_wrongYear_22 : decode cX3_wrongYear 22 = .ok (.invokevirtual 65, 3) := by decide +kernel
theorem dX3_wrongYear_25 : decode cX3_wrongYear 25 = .ok (.if_icmp .eq 15, 3) := by decide +kernel
theorem dX3_wrongYear_28 : decode cX3_wrongYear 28 = .ok (.aload_n 1, 1) := by decide +kernel
theorem dX3_wrongYear_29 : decode cX3_wrongYear 29 = .ok (.getfield 58, 3) := by decide +kernel
theorem dX3_wrongYear_32 : decode cX3_wrongYear 32 = .ok (.iload_n 3, 1) := by decide +kernel
theorem dX3_wrongYear_33 : decode cX3_wrongYear 33 = .ok (.iaload, 1) := by decide +kernel
theorem dX3_wrongYear_34 : decode cX3_wrongYear 34 = .ok (.iload_n 2, 1) := by decide +kernel
theorem dX3_wrongYear_35 : decode cX3_wrongYear 35 = .ok (.if_icmp .eq 5, 3) := by decide +kernel
theorem dX3_wrongYear_38 : decode cX3_wrongYear 38 = .ok (.iload_n 3, 1) := by decide +kernel
theorem dX3_wrongYear_39 : decode cX3_wrongYear 39 = .ok (.ireturn, 1) := by decide +kernel
theorem dX3_wrongYear_40 : decode cX3_wrongYear 40 = .ok (.aload_n 0, 1) := by decide +kernel
theorem dX3_wrongYear_41 : decode cX3_wrongYear 41 = .ok (.iload_n 2, 1) := by decide +kernel
theorem dX3_wrongYear_42 : decode cX3_wrongYear 42 = .ok (.aload_n 0, 1) := by decide +kernel
theorem dX3_wrongYear_43 : decode cX3_wrongYear 43 = .ok (.getfield 17, 3) := by decide +kernel
theorem dX3_wrongYear_46 : decode cX3_wrongYear 46 = .ok (.invokevirtual 20, 3) := by decide +kernel
theorem dX3_wrongYear_49 : decode cX3_wrongYear 49 = .ok (.istore_n 2, 1) := by decide +kernel
theorem dX3_wrongYear_50 : decode cX3_wrongYear 50 = .ok (.iinc 3 1, 3) := by decide +kernel
theorem dX3_wrongYear_53 : decode cX3_wrongYear 53 = .ok (.goto (-46), 3) := by decide +kernel
theorem dX3_wrongYear_56 : decode cX3_wrongYear 56 = .ok (.bipush (-4), 2) := by decide +kernel
theorem dX3_wrongYear_58 : decode cX3_wrongYear 58 = .ok (.ireturn, 1) := by decide +kernel
theorem dX3_drawnYears_0 : decode cX3_drawnYears 0 = .ok (.iconst 0, 1) := by decide +kernel
theorem dX3_drawnYears_1 : decode cX3_drawnYears 1 = .ok (.istore 4, 2) := by decide +kernel
theorem dX3_drawnYears_3 : decode cX3_drawnYears 3 = .ok (.iconst 0, 1) := by decide +kernel
theorem dX3_drawnYears_4 : decode cX3_drawnYears 4 = .ok (.istore 5, 2) := by decide +kernel
theorem dX3_drawnYears_6 : decode cX3_drawnYears 6 = .ok (.iload_n 2, 1) := by decide +kernel
theorem dX3_drawnYears_7 : decode cX3_drawnYears 7 = .ok (.istore 6, 2) := by decide +kernel
theorem dX3_drawnYears_9 : decode cX3_drawnYears 9 = .ok (.iconst 0, 1) := by decide +kernel
theorem dX3_drawnYears_10 : decode cX3_drawnYears 10 = .ok (.istore 7, 2) := by decide +kernel
theorem dX3_drawnYears_12 : decode cX3_drawnYears 12 = .ok (.iload 7, 2) := by decide +kernel
theorem dX3_drawnYears_14 : decode cX3_drawnYears 14 = .ok (.iload_n 1, 1) := by decide +kernel
theorem dX3_drawnYears_15 : decode cX3_drawnYears 15 = .ok (.if_icmp .ge 89, 3) := by decide +kernel
theorem dX3_drawnYears_18 : decode cX3_drawnYears 18 = .ok (.aload_n 0, 1) := by decide +kernel
theorem dX3_drawnYears_19 : decode cX3_drawnYears 19 = .ok (.getfield 9, 3) := by decide +kernel
theorem dX3_drawnYears_22 : decode cX3_drawnYears 22 = .ok (.istore 8, 2) := by decide +kernel
theorem dX3_drawnYears_24 : decode cX3_drawnYears 24 = .ok (.iconst 0, 1) := by decide +kernel
theorem dX3_drawnYears_25 : decode cX3_drawnYears 25 = .ok (.istore 9, 2) := by decide +kernel
theorem dX3_drawnYears_27 : decode cX3_drawnYears 27 = .ok (.iload 9, 2) := by decide +kernel
theorem dX3_drawnYears_29 : decode cX3_drawnYears 29 = .ok (.bipush 10, 2) := by decide +kernel
theorem dX3_drawnYears_31 : decode cX3_drawnYears 31 = .ok (.if_icmp .ge 55, 3) := by decide +kernel
theorem dX3_drawnYears_34 : decode cX3_drawnYears 34 = .ok (.iload 6, 2) := by decide +kernel
theorem dX3_drawnYears_36 : decode cX3_drawnYears 36 = .ok (.ldc 68, 2) := by decide +kernel
theorem dX3_drawnYears_38 : decode cX3_drawnYears 38 = .ok (.imul, 1) := by decide +kernel
theorem dX3_drawnYears_39 : decode cX3_drawnYears 39 = .ok (.sipush 12345, 3) := by decide +kernel
theorem dX3_drawnYears_42 : decode cX3_drawnYears 42 = .ok (.iadd, 1) := by decide +kernel
theorem dX3_drawnYears_43 : decode cX3_drawnYears 43 = .ok (.istore 6, 2) := by decide +kernel
theorem dX3_drawnYears_45 : decode cX3_drawnYears 45 = .ok (.iload 6, 2) := by decide +kernel
theorem dX3_drawnYears_47 : decode cX3_drawnYears 47 = .ok (.ldc 69, 2) := by decide +kernel
theorem dX3_drawnYears_49 : decode cX3_drawnYears 49 = .ok (.iand, 1) := by decide +kernel
theorem dX3_drawnYears_50 : decode cX3_drawnYears 50 = .ok (.ldc 70, 2) := by decide +kernel
theorem dX3_drawnYears_52 : decode cX3_drawnYears 52 = .ok (.idiv, 1) := by decide +kernel
theorem dX3_drawnYears_53 : decode cX3_drawnYears 53 = .ok (.bipush 24, 2) := by decide +kernel
theorem dX3_drawnYears_55 : decode cX3_drawnYears 55 = .ok (.irem, 1) := by decide +kernel
theorem dX3_drawnYears_56 : decode cX3_drawnYears 56 = .ok (.istore 10, 2) := by decide +kernel
theorem dX3_drawnYears_58 : decode cX3_drawnYears 58 = .ok (.aload_n 0, 1) := by decide +kernel
theorem dX3_drawnYears_59 : decode cX3_drawnYears 59 = .ok (.iload 8, 2) := by decide +kernel
theorem dX3_drawnYears_61 : decode cX3_drawnYears 61 = .ok (.iload 10, 2) := by decide +kernel
theorem dX3_drawnYears_63 : decode cX3_drawnYears 63 = .ok (.invokevirtual 20, 3) := by decide +kernel
theorem dX3_drawnYears_66 : decode cX3_drawnYears 66 = .ok (.istore 8, 2) := by decide +kernel
theorem dX3_drawnYears_68 : decode cX3_drawnYears 68 = .ok (.aload_n 0, 1) := by decide +kernel
theorem dX3_drawnYears_69 : decode cX3_drawnYears 69 = .ok (.iload 10, 2) := by decide +kernel
theorem dX3_drawnYears_71 : decode cX3_drawnYears 71 = .ok (.invokevirtual 61, 3) := by decide +kernel
theorem dX3_drawnYears_74 : decode cX3_drawnYears 74 = .ok (.ifCond .le 6, 3) := by decide +kernel
theorem dX3_drawnYears_77 : decode cX3_drawnYears 77 = .ok (.iinc 5 1, 3) := by decide +kernel
theorem dX3_drawnYears_80 : decode cX3_drawnYears 80 = .ok (.iinc 9 1, 3) := by decide +kernel
theorem dX3_drawnYears_83 : decode cX3_drawnYears 83 = .ok (.goto (-56), 3) := by decide +kernel
theorem dX3_drawnYears_86 : decode cX3_drawnYears 86 = .ok (.iload 4, 2) := by decide +kernel
theorem dX3_drawnYears_88 : decode cX3_drawnYears 88 = .ok (.iload 8, 2) := by decide +kernel
theorem dX3_drawnYears_90 : decode cX3_drawnYears 90 = .ok (.aload_n 0, 1) := by decide +kernel
theorem dX3_drawnYears_91 : decode cX3_drawnYears 91 = .ok (.getfield 9, 3) := by decide +kernel
theorem dX3_drawnYears_94 : decode cX3_drawnYears 94 = .ok (.isub, 1) := by decide +kernel
theorem dX3_drawnYears_95 : decode cX3_drawnYears 95 = .ok (.iadd, 1) := by decide +kernel
theorem dX3_drawnYears_96 : decode cX3_drawnYears 96 = .ok (.istore 4, 2) := by decide +kernel
theorem dX3_drawnYears_98 : decode cX3_drawnYears 98 = .ok (.iinc 7 1, 3) := by decide +kernel
theorem dX3_drawnYears_101 : decode cX3_drawnYears 101 = .ok (.goto (-89), 3) := by decide +kernel
theorem dX3_drawnYears_104 : decode cX3_drawnYears 104 = .ok (.iload_n 3, 1) := by decide +kernel
theorem dX3_drawnYears_105 : decode cX3_drawnYears 105 = .ok (.ifCond .ne 8, 3) := by decide +kernel
theorem dX3_drawnYears_108 : decode cX3_drawnYears 108 = .ok (.iload 4, 2) := by decide +kernel
theorem dX3_drawnYears_110 : decode cX3_drawnYears 110 = .ok (.goto 5, 3) := by decide +kernel
theorem dX3_drawnYears_113 : decode cX3_drawnYears 113 = .ok (.iload 5, 2) := by decide +kernel
theorem dX3_drawnYears_115 : decode cX3_drawnYears 115 = .ok (.ireturn, 1) := by decide +kernel
theorem dX4_leastTerms_0 : decode cX4_leastTerms 0 = .ok (.lload_n 0, 1) := by decide +kernel
theorem dX4_leastTerms_1 : decode cX4_leastTerms 1 = .ok (.lload_n 2, 1) := by decide +kernel
theorem dX4_leastTerms_2 : decode cX4_leastTerms 2 = .ok (.invokestatic 7, 3) := by decide +kernel
theorem dX4_leastTerms_5 : decode cX4_leastTerms 5 = .ok (.lstore 5, 2) := by decide +kernel
theorem dX4_leastTerms_7 : decode cX4_leastTerms 7 = .ok (.lload 5, 2) := by decide +kernel
theorem dX4_leastTerms_9 : decode cX4_leastTerms 9 = .ok (.lconst 0, 1) := by decide +kernel
theorem dX4_leastTerms_10 : decode cX4_leastTerms 10 = .ok (.lcmp, 1) := by decide +kernel
theorem dX4_leastTerms_11 : decode cX4_leastTerms 11 = .ok (.ifCond .gt 5, 3) := by decide +kernel
theorem dX4_leastTerms_14 : decode cX4_leastTerms 14 = .ok (.lconst 0, 1) := by decide +kernel
theorem dX4_leastTerms_15 : decode cX4_leastTerms 15 = .ok (.lreturn, 1) := by decide +kernel
theorem dX4_leastTerms_16 : decode cX4_leastTerms 16 = .ok (.iload 4, 2) := by decide +kernel
theorem dX4_leastTerms_18 : decode cX4_leastTerms 18 = .ok (.ifCond .ne 10, 3) := by decide +kernel
theorem dX4_leastTerms_21 : decode cX4_leastTerms 21 = .ok (.lload_n 0, 1) := by decide +kernel
theorem dX4_leastTerms_22 : decode cX4_leastTerms 22 = .ok (.lload 5, 2) := by decide +kernel
theorem dX4_leastTerms_24 : decode cX4_leastTerms 24 = .ok (.ldiv, 1) := by decide +kernel
theorem dX4_leastTerms_25 : decode cX4_leastTerms 25 = .ok (.goto 7, 3) := by decide +kernel
theorem dX4_leastTerms_28 : decode cX4_leastTerms 28 = .ok (.lload_n 2, 1) := by decide +kernel
theorem dX4_leastTerms_29 : decode cX4_leastTerms 29 = .ok (.lload 5, 2) := by decide +kernel
theorem dX4_leastTerms_31 : decode cX4_leastTerms 31 = .ok (.ldiv, 1) := by decide +kernel
theorem dX4_leastTerms_32 : decode cX4_leastTerms 32 = .ok (.lreturn, 1) := by decide +kernel
theorem dX4_commonDivisor_0 : decode cX4_commonDivisor 0 = .ok (.lload_n 0, 1) := by decide +kernel
theorem dX4_commonDivisor_1 : decode cX4_commonDivisor 1 = .ok (.lstore 4, 2) := by decide +kernel
theorem dX4_commonDivisor_3 : decode cX4_commonDivisor 3 = .ok (.lload_n 2, 1) := by decide +kernel
theorem dX4_commonDivisor_4 : decode cX4_commonDivisor 4 = .ok (.lstore 6, 2) := by decide +kernel
theorem dX4_commonDivisor_6 : decode cX4_commonDivisor 6 = .ok (.iconst 0, 1) := by decide +kernel
theorem dX4_commonDivisor_7 : decode cX4_commonDivisor 7 = .ok (.istore 8, 2) := by decide +kernel
theorem dX4_commonDivisor_9 : decode cX4_commonDivisor 9 = .ok (.iload 8, 2) := by decide +kernel
theorem dX4_commonDivisor_11 : decode cX4_commonDivisor 11 = .ok (.sipush 1000, 3) := by decide +kernel
theorem dX4_commonDivisor_14 : decode cX4_commonDivisor 14 = .ok (.if_icmp .ge 31, 3) := by decide +kernel
theorem dX4_commonDivisor_17 : decode cX4_commonDivisor 17 = .ok (.lload 6, 2) := by decide +kernel
theorem dX4_commonDivisor_19 : decode cX4_commonDivisor 19 = .ok (.lconst 0, 1) := by decide +kernel
theorem dX4_commonDivisor_20 : decode cX4_commonDivisor 20 = .ok (.lcmp, 1) := by decide +kernel
theorem dX4_commonDivisor_21 : decode cX4_commonDivisor 21 = .ok (.ifCond .eq 24, 3) := by decide +kernel
theorem dX4_commonDivisor_24 : decode cX4_commonDivisor 24 = .ok (.lload 4, 2) := by decide +kernel
theorem dX4_commonDivisor_26 : decode cX4_commonDivisor 26 = .ok (.lload 6, 2) := by decide +kernel
theorem dX4_commonDivisor_28 : decode cX4_commonDivisor 28 = .ok (.lrem, 1) := by decide +kernel
theorem dX4_commonDivisor_29 : decode cX4_commonDivisor 29 = .ok (.lstore 9, 2) := by decide +kernel
theorem dX4_commonDivisor_31 : decode cX4_commonDivisor 31 = .ok (.lload 6, 2) := by decide +kernel
theorem dX4_commonDivisor_33 : decode cX4_commonDivisor 33 = .ok (.lstore 4, 2) := by decide +kernel
theorem dX4_commonDivisor_35 : decode cX4_commonDivisor 35 = .ok (.lload 9, 2) := by decide +kernel
theorem dX4_commonDivisor_37 : decode cX4_commonDivisor 37 = .ok (.lstore 6, 2) := by decide +kernel
theorem dX4_commonDivisor_39 : decode cX4_commonDivisor 39 = .ok (.iinc 8 1, 3) := by decide +kernel
theorem dX4_commonDivisor_42 : decode cX4_commonDivisor 42 = .ok (.goto (-33), 3) := by decide +kernel
theorem dX4_commonDivisor_45 : decode cX4_commonDivisor 45 = .ok (.lload 4, 2) := by decide +kernel
theorem dX4_commonDivisor_47 : decode cX4_commonDivisor 47 = .ok (.lreturn, 1) := by decide +kernel
theorem dX4_power_0 : decode cX4_power 0 = .ok (.lconst 1, 1) := by decide +kernel
theorem dX4_power_1 : decode cX4_power 1 = .ok (.lstore_n 3, 1) := by decide +kernel
theorem dX4_power_2 : decode cX4_power 2 = .ok (.iconst 0, 1) := by decide +kernel
theorem dX4_power_3 : decode cX4_power 3 = .ok (.istore 5, 2) := by decide +kernel
theorem dX4_power_5 : decode cX4_power 5 = .ok (.iload 5, 2) := by decide +kernel
theorem dX4_power_7 : decode cX4_power 7 = .ok (.iload_n 2, 1) := by decide +kernel
theorem dX4_power_8 : decode cX4_power 8 = .ok (.if_icmp .ge 13, 3) := by decide +kernel
theorem dX4_power_11 : decode cX4_power 11 = .ok (.lload_n 3, 1) := by decide +kernel
theorem dX4_power_12 : decode cX4_power 12 = .ok (.lload_n 0, 1) := by decide +kernel
theorem dX4_power_13 : decode cX4_power 13 = .ok (.lmul, 1) := by decide +kernel
theorem dX4_power_14 : decode cX4_power 14 = .ok (.lstore_n 3, 1) := by decide +kernel
theorem dX4_power_15 : decode cX4_power 15 = .ok (.iinc 5 1, 3) := by decide +kernel
theorem dX4_power_18 : decode cX4_power 18 = .ok (.goto (-13), 3) := by decide +kernel
theorem dX4_power_21 : decode cX4_power 21 = .ok (.lload_n 3, 1) := by decide +kernel
theorem dX4_power_22 : decode cX4_power 22 = .ok (.lreturn, 1) := by decide +kernel
theorem dX4_wetWays_0 : decode cX4_wetWays 0 = .ok (.lconst 0, 1) := by decide +kernel
theorem dX4_wetWays_1 : decode cX4_wetWays 1 = .ok (.lstore_n 3, 1) := by decide +kernel
theorem dX4_wetWays_2 : decode cX4_wetWays 2 = .ok (.lconst 1, 1) := by decide +kernel
theorem dX4_wetWays_3 : decode cX4_wetWays 3 = .ok (.lstore 5, 2) := by decide +kernel
theorem dX4_wetWays_5 : decode cX4_wetWays 5 = .ok (.iconst 0, 1) := by decide +kernel
theorem dX4_wetWays_6 : decode cX4_wetWays 6 = .ok (.istore 7, 2) := by decide +kernel
theorem dX4_wetWays_8 : decode cX4_wetWays 8 = .ok (.iload 7, 2) := by decide +kernel
theorem dX4_wetWays_10 : decode cX4_wetWays 10 = .ok (.iload_n 1, 1) := by decide +kernel
theorem dX4_wetWays_11 : decode cX4_wetWays 11 = .ok (.if_icmp .gt 48, 3) := by decide +kernel
theorem dX4_wetWays_14 : decode cX4_wetWays 14 = .ok (.iload 7, 2) := by decide +kernel
theorem dX4_wetWays_16 : decode cX4_wetWays 16 = .ok (.iload_n 2, 1) := by decide +kernel
theorem dX4_wetWays_17 : decode cX4_wetWays 17 = .ok (.if_icmp .lt 20, 3) := by decide +kernel
theorem dX4_wetWays_20 : decode cX4_wetWays 20 = .ok (.lload_n 3, 1) := by decide +kernel
theorem dX4_wetWays_21 : decode cX4_wetWays 21 = .ok (.lload 5, 2) := by decide +kernel
theorem dX4_wetWays_23 : decode cX4_wetWays 23 = .ok (.iload_n 0, 1) := by decide +kernel
theorem dX4_wetWays_24 : decode cX4_wetWays 24 = .ok (.iconst 1, 1) := by decide +kernel
theorem dX4_wetWays_25 : decode cX4_wetWays 25 = .ok (.isub, 1) := by decide +kernel
theorem dX4_wetWays_26 : decode cX4_wetWays 26 = .ok (.i2l, 1) := by decide +kernel
theorem dX4_wetWays_27 : decode cX4_wetWays 27 = .ok (.iload_n 1, 1) := by decide +kernel
theorem dX4_wetWays_28 : decode cX4_wetWays 28 = .ok (.iload 7, 2) := by decide +kernel
theorem dX4_wetWays_30 : decode cX4_wetWays 30 = .ok (.isub, 1) := by decide +kernel
theorem dX4_wetWays_31 : decode cX4_wetWays 31 = .ok (.invokestatic 13, 3) := by decide +kernel
theorem dX4_wetWays_34 : decode cX4_wetWays 34 = .ok (.lmul, 1) := by decide +kernel
theorem dX4_wetWays_35 : decode cX4_wetWays 35 = .ok (.ladd, 1) := by decide +kernel
theorem dX4_wetWays_36 : decode cX4_wetWays 36 = .ok (.lstore_n 3, 1) := by decide +kernel
theorem dX4_wetWays_37 : decode cX4_wetWays 37 = .ok (.lload 5, 2) := by decide +kernel
theorem dX4_wetWays_39 : decode cX4_wetWays 39 = .ok (.iload_n 1, 1) := by decide +kernel
theorem dX4_wetWays_40 : decode cX4_wetWays 40 = .ok (.iload 7, 2) := by decide +kernel
theorem dX4_wetWays_42 : decode cX4_wetWays 42 = .ok (.isub, 1) := by decide +kernel
theorem dX4_wetWays_43 : decode cX4_wetWays 43 = .ok (.i2l, 1) := by decide +kernel
theorem dX4_wetWays_44 : decode cX4_wetWays 44 = .ok (.lmul, 1) := by decide +kernel
theorem dX4_wetWays_45 : decode cX4_wetWays 45 = .ok (.iload 7, 2) := by decide +kernel
theorem dX4_wetWays_47 : decode cX4_wetWays 47 = .ok (.iconst 1, 1) := by decide +kernel
theorem dX4_wetWays_48 : decode cX4_wetWays 48 = .ok (.iadd, 1) := by decide +kernel
theorem dX4_wetWays_49 : decode cX4_wetWays 49 = .ok (.i2l, 1) := by decide +kernel
theorem dX4_wetWays_50 : decode cX4_wetWays 50 = .ok (.ldiv, 1) := by decide +kernel
theorem dX4_wetWays_51 : decode cX4_wetWays 51 = .ok (.lstore 5, 2) := by decide +kernel
theorem dX4_wetWays_53 : decode cX4_wetWays 53 = .ok (.iinc 7 1, 3) := by decide +kernel
theorem dX4_wetWays_56 : decode cX4_wetWays 56 = .ok (.goto (-48), 3) := by decide +kernel
theorem dX4_wetWays_59 : decode cX4_wetWays 59 = .ok (.lload_n 3, 1) := by decide +kernel
theorem dX4_wetWays_60 : decode cX4_wetWays 60 = .ok (.lreturn, 1) := by decide +kernel
theorem dX5_mostDue_0 : decode cX5_mostDue 0 = .ok (.aload_n 0, 1) := by decide +kernel
theorem dX5_mostDue_1 : decode cX5_mostDue 1 = .ok (.iconst 0, 1) := by decide +kernel
theorem dX5_mostDue_2 : decode cX5_mostDue 2 = .ok (.aload_n 0, 1) := by decide +kernel
theorem dX5_mostDue_3 : decode cX5_mostDue 3 = .ok (.getfield 9, 3) := by decide +kernel
theorem dX5_mostDue_6 : decode cX5_mostDue 6 = .ok (.iload_n 1, 1) := by decide +kernel
theorem dX5_mostDue_7 : decode cX5_mostDue 7 = .ok (.invokestatic 15, 3) := by decide +kernel
theorem dX5_mostDue_10 : decode cX5_mostDue 10 = .ok (.ireturn, 1) := by decide +kernel
theorem dX5_firstHour_0 : decode cX5_firstHour 0 = .ok (.iload_n 1, 1) := by decide +kernel
theorem dX5_firstHour_1 : decode cX5_firstHour 1 = .ok (.ifCond .gt 6, 3) := by decide +kernel
theorem dX5_firstHour_4 : decode cX5_firstHour 4 = .ok (.bipush (-4), 2) := by decide +kernel
theorem dX5_firstHour_6 : decode cX5_firstHour 6 = .ok (.ireturn, 1) := by decide +kernel
theorem dX5_firstHour_7 : decode cX5_firstHour 7 = .ok (.iconst 0, 1) := by decide +kernel
theorem dX5_firstHour_8 : decode cX5_firstHour 8 = .ok (.istore_n 2, 1) := by decide +kernel
theorem dX5_firstHour_9 : decode cX5_firstHour 9 = .ok (.aload_n 0, 1) := by decide +kernel
theorem dX5_firstHour_10 : decode cX5_firstHour 10 = .ok (.iconst 0, 1) := by decide +kernel
theorem dX5_firstHour_11 : decode cX5_firstHour 11 = .ok (.aload_n 0, 1) := by decide +kernel
theorem dX5_firstHour_12 : decode cX5_firstHour 12 = .ok (.getfield 9, 3) := by decide +kernel
theorem dX5_firstHour_15 : decode cX5_firstHour 15 = .ok (.iload_n 1, 1) := by decide +kernel
theorem dX5_firstHour_16 : decode cX5_firstHour 16 = .ok (.iconst 0, 1) := by decide +kernel
theorem dX5_firstHour_17 : decode cX5_firstHour 17 = .ok (.invokestatic 21, 3) := by decide +kernel
theorem dX5_firstHour_20 : decode cX5_firstHour 20 = .ok (.istore_n 3, 1) := by decide +kernel
theorem dX5_firstHour_21 : decode cX5_firstHour 21 = .ok (.iconst 1, 1) := by decide +kernel
theorem dX5_firstHour_22 : decode cX5_firstHour 22 = .ok (.istore 4, 2) := by decide +kernel
theorem dX5_firstHour_24 : decode cX5_firstHour 24 = .ok (.iload 4, 2) := by decide +kernel
theorem dX5_firstHour_26 : decode cX5_firstHour 26 = .ok (.iconst 4, 1) := by decide +kernel
theorem dX5_firstHour_27 : decode cX5_firstHour 27 = .ok (.if_icmp .ge 35, 3) := by decide +kernel
theorem dX5_firstHour_30 : decode cX5_firstHour 30 = .ok (.aload_n 0, 1) := by decide +kernel
theorem dX5_firstHour_31 : decode cX5_firstHour 31 = .ok (.iconst 0, 1) := by decide +kernel
theorem dX5_firstHour_32 : decode cX5_firstHour 32 = .ok (.aload_n 0, 1) := by decide +kernel
theorem dX5_firstHour_33 : decode cX5_firstHour 33 = .ok (.getfield 9, 3) := by decide +kernel
theorem dX5_firstHour_36 : decode cX5_firstHour 36 = .ok (.iload_n 1, 1) := by decide +kernel
theorem dX5_firstHour_37 : decode cX5_firstHour 37 = .ok (.iload 4, 2) := by decide +kernel
theorem dX5_firstHour_39 : decode cX5_firstHour 39 = .ok (.invokestatic 21, 3) := by decide +kernel
theorem dX5_firstHour_42 : decode cX5_firstHour 42 = .ok (.istore 5, 2) := by decide +kernel
theorem dX5_firstHour_44 : decode cX5_firstHour 44 = .ok (.iload 5, 2) := by decide +kernel
theorem dX5_firstHour_46 : decode cX5_firstHour 46 = .ok (.iload_n 3, 1) := by decide +kernel
theorem dX5_firstHour_47 : decode cX5_firstHour 47 = .ok (.if_icmp .le 9, 3) := by decide +kernel
theorem dX5_firstHour_50 : decode cX5_firstHour 50 = .ok (.iload 4, 2) := by decide +kernel
theorem dX5_firstHour_52 : decode cX5_firstHour 52 = .ok (.istore_n 2, 1) := by decide +kernel
theorem dX5_firstHour_53 : decode cX5_firstHour 53 = .ok (.iload 5, 2) := by decide +kernel
theorem dX5_firstHour_55 : decode cX5_firstHour 55 = .ok (.istore_n 3, 1) := by decide +kernel
theorem dX5_firstHour_56 : decode cX5_firstHour 56 = .ok (.iinc 4 1, 3) := by decide +kernel
theorem dX5_firstHour_59 : decode cX5_firstHour 59 = .ok (.goto (-35), 3) := by decide +kernel
theorem dX5_firstHour_62 : decode cX5_firstHour 62 = .ok (.iload_n 2, 1) := by decide +kernel
theorem dX5_firstHour_63 : decode cX5_firstHour 63 = .ok (.bipush 6, 2) := by decide +kernel
theorem dX5_firstHour_65 : decode cX5_firstHour 65 = .ok (.imul, 1) := by decide +kernel
theorem dX5_firstHour_66 : decode cX5_firstHour 66 = .ok (.ireturn, 1) := by decide +kernel
theorem dX5_gained_0 : decode cX5_gained 0 = .ok (.iconst 0, 1) := by decide +kernel
theorem dX5_gained_1 : decode cX5_gained 1 = .ok (.istore 4, 2) := by decide +kernel
theorem dX5_gained_3 : decode cX5_gained 3 = .ok (.iload_n 3, 1) := by decide +kernel
theorem dX5_gained_4 : decode cX5_gained 4 = .ok (.ifCond .gt 6, 3) := by decide +kernel
theorem dX5_gained_7 : decode cX5_gained 7 = .ok (.iload 4, 2) := by decide +kernel
theorem dX5_gained_9 : decode cX5_gained 9 = .ok (.ireturn, 1) := by decide +kernel
theorem dX5_gained_10 : decode cX5_gained 10 = .ok (.iconst 0, 1) := by decide +kernel
theorem dX5_gained_11 : decode cX5_gained 11 = .ok (.istore 5, 2) := by decide +kernel
theorem dX5_gained_13 : decode cX5_gained 13 = .ok (.iload 5, 2) := by decide +kernel
theorem dX5_gained_15 : decode cX5_gained 15 = .ok (.iconst 4, 1) := by decide +kernel
theorem dX5_gained_16 : decode cX5_gained 16 = .ok (.if_icmp .ge 34, 3) := by decide +kernel
theorem dX5_gained_19 : decode cX5_gained 19 = .ok (.iload_n 1, 1) := by decide +kernel
theorem dX5_gained_20 : decode cX5_gained 20 = .ok (.iload 5, 2) := by decide +kernel
theorem dX5_gained_22 : decode cX5_gained 22 = .ok (.ishr, 1) := by decide +kernel
theorem dX5_gained_23 : decode cX5_gained 23 = .ok (.iconst 1, 1) := by decide +kernel
theorem dX5_gained_24 : decode cX5_gained 24 = .ok (.iand, 1) := by decide +kernel
theorem dX5_gained_25 : decode cX5_gained 25 = .ok (.ifCond .ne 19, 3) := by decide +kernel
theorem dX5_gained_28 : decode cX5_gained 28 = .ok (.iload 4, 2) := by decide +kernel
theorem dX5_gained_30 : decode cX5_gained 30 = .ok (.aload_n 0, 1) := by decide +kernel
theorem dX5_gained_31 : decode cX5_gained 31 = .ok (.iload_n 1, 1) := by decide +kernel
theorem dX5_gained_32 : decode cX5_gained 32 = .ok (.iload_n 2, 1) := by decide +kernel
theorem dX5_gained_33 : decode cX5_gained 33 = .ok (.iload_n 3, 1) := by decide +kernel
theorem dX5_gained_34 : decode cX5_gained 34 = .ok (.iload 5, 2) := by decide +kernel
theorem dX5_gained_36 : decode cX5_gained 36 = .ok (.invokestatic 21, 3) := by decide +kernel
theorem dX5_gained_39 : decode cX5_gained 39 = .ok (.invokestatic 25, 3) := by decide +kernel
theorem dX5_gained_42 : decode cX5_gained 42 = .ok (.istore 4, 2) := by decide +kernel
theorem dX5_gained_44 : decode cX5_gained 44 = .ok (.iinc 5 1, 3) := by decide +kernel
theorem dX5_gained_47 : decode cX5_gained 47 = .ok (.goto (-34), 3) := by decide +kernel
theorem dX5_gained_50 : decode cX5_gained 50 = .ok (.iload 4, 2) := by decide +kernel
theorem dX5_gained_52 : decode cX5_gained 52 = .ok (.ireturn, 1) := by decide +kernel
theorem dX5_gainedBy_0 : decode cX5_gainedBy 0 = .ok (.aload_n 0, 1) := by decide +kernel
theorem dX5_gainedBy_1 : decode cX5_gainedBy 1 = .ok (.iload_n 2, 1) := by decide +kernel
theorem dX5_gainedBy_2 : decode cX5_gainedBy 2 = .ok (.iload 4, 2) := by decide +kernel
theorem dX5_gainedBy_4 : decode cX5_gainedBy 4 = .ok (.bipush 6, 2) := by decide +kernel
theorem dX5_gainedBy_6 : decode cX5_gainedBy 6 = .ok (.imul, 1) := by decide +kernel
theorem dX5_gainedBy_7 : decode cX5_gainedBy 7 = .ok (.invokestatic 31, 3) := by decide +kernel
theorem dX5_gainedBy_10 : decode cX5_gainedBy 10 = .ok (.istore 5, 2) := by decide +kernel
theorem dX5_gainedBy_12 : decode cX5_gainedBy 12 = .ok (.iload_n 3, 1) := by decide +kernel
theorem dX5_gainedBy_13 : decode cX5_gainedBy 13 = .ok (.iconst 1, 1) := by decide +kernel
theorem dX5_gainedBy_14 : decode cX5_gainedBy 14 = .ok (.if_icmp .gt 6, 3) := by decide +kernel
theorem dX5_gainedBy_17 : decode cX5_gainedBy 17 = .ok (.iload 5, 2) := by decide +kernel
theorem dX5_gainedBy_19 : decode cX5_gainedBy 19 = .ok (.ireturn, 1) := by decide +kernel
theorem dX5_gainedBy_20 : decode cX5_gainedBy 20 = .ok (.iload_n 1, 1) := by decide +kernel
theorem dX5_gainedBy_21 : decode cX5_gainedBy 21 = .ok (.iconst 1, 1) := by decide +kernel
theorem dX5_gainedBy_22 : decode cX5_gainedBy 22 = .ok (.iload 4, 2) := by decide +kernel
theorem dX5_gainedBy_24 : decode cX5_gainedBy 24 = .ok (.ishl, 1) := by decide +kernel
theorem dX5_gainedBy_25 : decode cX5_gainedBy 25 = .ok (.ior, 1) := by decide +kernel
theorem dX5_gainedBy_26 : decode cX5_gainedBy 26 = .ok (.istore 6, 2) := by decide +kernel
theorem dX5_gainedBy_28 : decode cX5_gainedBy 28 = .ok (.aload_n 0, 1) := by decide +kernel
theorem dX5_gainedBy_29 : decode cX5_gainedBy 29 = .ok (.iload 6, 2) := by decide +kernel
theorem dX5_gainedBy_31 : decode cX5_gainedBy 31 = .ok (.iload_n 2, 1) := by decide +kernel
theorem dX5_gainedBy_32 : decode cX5_gainedBy 32 = .ok (.iload_n 3, 1) := by decide +kernel
theorem dX5_gainedBy_33 : decode cX5_gainedBy 33 = .ok (.iconst 1, 1) := by decide +kernel
theorem dX5_gainedBy_34 : decode cX5_gainedBy 34 = .ok (.isub, 1) := by decide +kernel
theorem dX5_gainedBy_35 : decode cX5_gainedBy 35 = .ok (.invokestatic 15, 3) := by decide +kernel
theorem dX5_gainedBy_38 : decode cX5_gainedBy 38 = .ok (.istore 7, 2) := by decide +kernel
theorem dX5_gainedBy_40 : decode cX5_gainedBy 40 = .ok (.iconst 0, 1) := by decide +kernel
theorem dX5_gainedBy_41 : decode cX5_gainedBy 41 = .ok (.istore 8, 2) := by decide +kernel
theorem dX5_gainedBy_43 : decode cX5_gainedBy 43 = .ok (.iload 8, 2) := by decide +kernel
theorem dX5_gainedBy_45 : decode cX5_gainedBy 45 = .ok (.aload_n 0, 1) := by decide +kernel
theorem dX5_gainedBy_46 : decode cX5_gainedBy 46 = .ok (.getfield 35, 3) := by decide +kernel
theorem dX5_gainedBy_49 : decode cX5_gainedBy 49 = .ok (.if_icmp .ge 40, 3) := by decide +kernel
theorem dX5_gainedBy_52 : decode cX5_gainedBy 52 = .ok (.iload_n 2, 1) := by decide +kernel
theorem dX5_gainedBy_53 : decode cX5_gainedBy 53 = .ok (.iload 8, 2) := by decide +kernel
theorem dX5_gainedBy_55 : decode cX5_gainedBy 55 = .ok (.ishr, 1) := by decide +kernel
theorem dX5_gainedBy_56 : decode cX5_gainedBy 56 = .ok (.iconst 1, 1) := by decide +kernel
theorem dX5_gainedBy_57 : decode cX5_gainedBy 57 = .ok (.iand, 1) := by decide +kernel
theorem dX5_gainedBy_58 : decode cX5_gainedBy 58 = .ok (.ifCond .ne 25, 3) := by decide +kernel
theorem dX5_gainedBy_61 : decode cX5_gainedBy 61 = .ok (.iload 7, 2) := by decide +kernel
theorem dX5_gainedBy_63 : decode cX5_gainedBy 63 = .ok (.aload_n 0, 1) := by decide +kernel
theorem dX5_gainedBy_64 : decode cX5_gainedBy 64 = .ok (.iload 6, 2) := by decide +kernel
theorem dX5_gainedBy_66 : decode cX5_gainedBy 66 = .ok (.iload_n 2, 1) := by decide +kernel
theorem dX5_gainedBy_67 : decode cX5_gainedBy 67 = .ok (.iconst 1, 1) := by decide +kernel
theorem dX5_gainedBy_68 : decode cX5_gainedBy 68 = .ok (.iload 8, 2) := by decide +kernel
theorem dX5_gainedBy_70 : decode cX5_gainedBy 70 = .ok (.ishl, 1) := by decide +kernel
theorem dX5_gainedBy_71 : decode cX5_gainedBy 71 = .ok (.ior, 1) := by decide +kernel
theorem dX5_gainedBy_72 : decode cX5_gainedBy 72 = .ok (.iload_n 3, 1) := by decide +kernel
theorem dX5_gainedBy_73 : decode cX5_gainedBy 73 = .ok (.iconst 1, 1) := by decide +kernel
theorem dX5_gainedBy_74 : decode cX5_gainedBy 74 = .ok (.isub, 1) := by decide +kernel
theorem dX5_gainedBy_75 : decode cX5_gainedBy 75 = .ok (.invokestatic 15, 3) := by decide +kernel
theorem dX5_gainedBy_78 : decode cX5_gainedBy 78 = .ok (.invokestatic 38, 3) := by decide +kernel
theorem dX5_gainedBy_81 : decode cX5_gainedBy 81 = .ok (.istore 7, 2) := by decide +kernel
theorem dX5_gainedBy_83 : decode cX5_gainedBy 83 = .ok (.iinc 8 1, 3) := by decide +kernel
theorem dX5_gainedBy_86 : decode cX5_gainedBy 86 = .ok (.goto (-43), 3) := by decide +kernel
theorem dX5_gainedBy_89 : decode cX5_gainedBy 89 = .ok (.iload 5, 2) := by decide +kernel
theorem dX5_gainedBy_91 : decode cX5_gainedBy 91 = .ok (.iload 7, 2) := by decide +kernel
theorem dX5_gainedBy_93 : decode cX5_gainedBy 93 = .ok (.iadd, 1) := by decide +kernel
theorem dX5_gainedBy_94 : decode cX5_gainedBy 94 = .ok (.ireturn, 1) := by decide +kernel
theorem dX5_seenAt_0 : decode cX5_seenAt 0 = .ok (.iconst 0, 1) := by decide +kernel
theorem dX5_seenAt_1 : decode cX5_seenAt 1 = .ok (.istore_n 3, 1) := by decide +kernel
theorem dX5_seenAt_2 : decode cX5_seenAt 2 = .ok (.iconst 0, 1) := by decide +kernel
theorem dX5_seenAt_3 : decode cX5_seenAt 3 = .ok (.istore 4, 2) := by decide +kernel
theorem dX5_seenAt_5 : decode cX5_seenAt 5 = .ok (.iload 4, 2) := by decide +kernel
theorem dX5_seenAt_7 : decode cX5_seenAt 7 = .ok (.aload_n 0, 1) := by decide +kernel
theorem dX5_seenAt_8 : decode cX5_seenAt 8 = .ok (.getfield 35, 3) := by decide +kernel
theorem dX5_seenAt_11 : decode cX5_seenAt 11 = .ok (.if_icmp .ge 40, 3) := by decide +kernel
theorem dX5_seenAt_14 : decode cX5_seenAt 14 = .ok (.iload_n 1, 1) := by decide +kernel
theorem dX5_seenAt_15 : decode cX5_seenAt 15 = .ok (.iload 4, 2) := by decide +kernel
theorem dX5_seenAt_17 : decode cX5_seenAt 17 = .ok (.ishr, 1) := by decide +kernel
theorem dX5_seenAt_18 : decode cX5_seenAt 18 = .ok (.iconst 1, 1) := by decide +kernel
theorem dX5_seenAt_19 : decode cX5_seenAt 19 = .ok (.iand, 1) := by decide +kernel
theorem dX5_seenAt_20 : decode cX5_seenAt 20 = .ok (.ifCond .ne 25, 3) := by decide +kernel
theorem dX5_seenAt_23 : decode cX5_seenAt 23 = .ok (.aload_n 0, 1) := by decide +kernel
theorem dX5_seenAt_24 : decode cX5_seenAt 24 = .ok (.iload 4, 2) := by decide +kernel
theorem dX5_seenAt_26 : decode cX5_seenAt 26 = .ok (.iload_n 2, 1) := by decide +kernel
theorem dX5_seenAt_27 : decode cX5_seenAt 27 = .ok (.invokevirtual 41, 3) := by decide +kernel
theorem dX5_seenAt_30 : decode cX5_seenAt 30 = .ok (.ifCond .eq 15, 3) := by decide +kernel
theorem dX5_seenAt_33 : decode cX5_seenAt 33 = .ok (.iload_n 3, 1) := by decide +kernel
theorem dX5_seenAt_34 : decode cX5_seenAt 34 = .ok (.aload_n 0, 1) := by decide +kernel
theorem dX5_seenAt_35 : decode cX5_seenAt 35 = .ok (.getfield 45, 3) := by decide +kernel
theorem dX5_seenAt_38 : decode cX5_seenAt 38 = .ok (.iload 4, 2) := by decide +kernel
theorem dX5_seenAt_40 : decode cX5_seenAt 40 = .ok (.iaload, 1) := by decide +kernel
theorem dX5_seenAt_41 : decode cX5_seenAt 41 = .ok (.iconst 1, 1) := by decide +kernel
theorem dX5_seenAt_42 : decode cX5_seenAt 42 = .ok (.iadd, 1) := by decide +kernel
theorem dX5_seenAt_43 : decode cX5_seenAt 43 = .ok (.iadd, 1) := by decide +kernel
theorem dX5_seenAt_44 : decode cX5_seenAt 44 = .ok (.istore_n 3, 1) := by decide +kernel
theorem dX5_seenAt_45 : decode cX5_seenAt 45 = .ok (.iinc 4 1, 3) := by decide +kernel
theorem dX5_seenAt_48 : decode cX5_seenAt 48 = .ok (.goto (-43), 3) := by decide +kernel
theorem dX5_seenAt_51 : decode cX5_seenAt 51 = .ok (.iload_n 3, 1) := by decide +kernel
theorem dX5_seenAt_52 : decode cX5_seenAt 52 = .ok (.ireturn, 1) := by decide +kernel
theorem dX6_init_0 : decode cX6_init 0 = .ok (.aload_n 0, 1) := by decide +kernel
theorem dX6_init_1 : decode cX6_init 1 = .ok (.invokespecial 3, 3) := by decide +kernel
theorem dX6_init_4 : decode cX6_init 4 = .ok (.aload_n 0, 1) := by decide +kernel
theorem dX6_init_5 : decode cX6_init 5 = .ok (.iconst 0, 1) := by decide +kernel
theorem dX6_init_6 : decode cX6_init 6 = .ok (.putfield 11, 3) := by decide +kernel
theorem dX6_init_9 : decode cX6_init 9 = .ok (.aload_n 0, 1) := by decide +kernel
theorem dX6_init_10 : decode cX6_init 10 = .ok (.iconst 0, 1) := by decide +kernel
theorem dX6_init_11 : decode cX6_init 11 = .ok (.putfield 15, 3) := by decide +kernel
theorem dX6_init_14 : decode cX6_init 14 = .ok (.aload_n 0, 1) := by decide +kernel
theorem dX6_init_15 : decode cX6_init 15 = .ok (.iconst 0, 1) := by decide +kernel
theorem dX6_init_16 : decode cX6_init 16 = .ok (.putfield 18, 3) := by decide +kernel
theorem dX6_init_19 : decode cX6_init 19 = .ok (.aload_n 0, 1) := by decide +kernel
theorem dX6_init_20 : decode cX6_init 20 = .ok (.iconst 0, 1) := by decide +kernel
theorem dX6_init_21 : decode cX6_init 21 = .ok (.putfield 21, 3) := by decide +kernel
theorem dX6_init_24 : decode cX6_init 24 = .ok (.aload_n 0, 1) := by decide +kernel
theorem dX6_init_25 : decode cX6_init 25 = .ok (.iconst 0, 1) := by decide +kernel
theorem dX6_init_26 : decode cX6_init 26 = .ok (.putfield 24, 3) := by decide +kernel
theorem dX6_init_29 : decode cX6_init 29 = .ok (.aload_n 0, 1) := by decide +kernel
theorem dX6_init_30 : decode cX6_init 30 = .ok (.bipush 100, 2) := by decide +kernel
theorem dX6_init_32 : decode cX6_init 32 = .ok (.newarray .int, 2) := by decide +kernel
theorem dX6_init_34 : decode cX6_init 34 = .ok (.putfield 27, 3) := by decide +kernel
theorem dX6_init_37 : decode cX6_init 37 = .ok (.return_, 1) := by decide +kernel
theorem dX6_isSort_0 : decode cX6_isSort 0 = .ok (.iload_n 0, 1) := by decide +kernel
theorem dX6_isSort_1 : decode cX6_isSort 1 = .ok (.ifCond .eq 13, 3) := by decide +kernel
theorem dX6_isSort_4 : decode cX6_isSort 4 = .ok (.iload_n 0, 1) := by decide +kernel
theorem dX6_isSort_5 : decode cX6_isSort 5 = .ok (.iconst 1, 1) := by decide +kernel
theorem dX6_isSort_6 : decode cX6_isSort 6 = .ok (.if_icmp .eq 8, 3) := by decide +kernel
theorem dX6_isSort_9 : decode cX6_isSort 9 = .ok (.iload_n 0, 1) := by decide +kernel
theorem dX6_isSort_10 : decode cX6_isSort 10 = .ok (.iconst 2, 1) := by decide +kernel
theorem dX6_isSort_11 : decode cX6_isSort 11 = .ok (.if_icmp .ne 7, 3) := by decide +kernel
theorem dX6_isSort_14 : decode cX6_isSort 14 = .ok (.iconst 1, 1) := by decide +kernel
theorem dX6_isSort_15 : decode cX6_isSort 15 = .ok (.goto 4, 3) := by decide +kernel
theorem dX6_isSort_18 : decode cX6_isSort 18 = .ok (.iconst 0, 1) := by decide +kernel
theorem dX6_isSort_19 : decode cX6_isSort 19 = .ok (.ireturn, 1) := by decide +kernel
theorem dX6_clearOut_0 : decode cX6_clearOut 0 = .ok (.aload_n 0, 1) := by decide +kernel
theorem dX6_clearOut_1 : decode cX6_clearOut 1 = .ok (.iconst 0, 1) := by decide +kernel
theorem dX6_clearOut_2 : decode cX6_clearOut 2 = .ok (.putfield 11, 3) := by decide +kernel
theorem dX6_clearOut_5 : decode cX6_clearOut 5 = .ok (.return_, 1) := by decide +kernel
theorem dX6_holdKind_0 : decode cX6_holdKind 0 = .ok (.aload_n 0, 1) := by decide +kernel
theorem dX6_holdKind_1 : decode cX6_holdKind 1 = .ok (.iconst 1, 1) := by decide +kernel
theorem dX6_holdKind_2 : decode cX6_holdKind 2 = .ok (.putfield 11, 3) := by decide +kernel
theorem dX6_holdKind_5 : decode cX6_holdKind 5 = .ok (.aload_n 0, 1) := by decide +kernel
theorem dX6_holdKind_6 : decode cX6_holdKind 6 = .ok (.iload_n 1, 1) := by decide +kernel
theorem dX6_holdKind_7 : decode cX6_holdKind 7 = .ok (.putfield 15, 3) := by decide +kernel
theorem dX6_holdKind_10 : decode cX6_holdKind 10 = .ok (.aload_n 0, 1) := by decide +kernel
theorem dX6_holdKind_11 : decode cX6_holdKind 11 = .ok (.iload_n 2, 1) := by decide +kernel
theorem dX6_holdKind_12 : decode cX6_holdKind 12 = .ok (.putfield 18, 3) := by decide +kernel
theorem dX6_holdKind_15 : decode cX6_holdKind 15 = .ok (.return_, 1) := by decide +kernel
theorem dX6_holdRow_0 : decode cX6_holdRow 0 = .ok (.aload_n 0, 1) := by decide +kernel
theorem dX6_holdRow_1 : decode cX6_holdRow 1 = .ok (.iconst 2, 1) := by decide +kernel
theorem dX6_holdRow_2 : decode cX6_holdRow 2 = .ok (.putfield 11, 3) := by decide +kernel
theorem dX6_holdRow_5 : decode cX6_holdRow 5 = .ok (.aload_n 0, 1) := by decide +kernel
theorem dX6_holdRow_6 : decode cX6_holdRow 6 = .ok (.iload_n 1, 1) := by decide +kernel
theorem dX6_holdRow_7 : decode cX6_holdRow 7 = .ok (.putfield 21, 3) := by decide +kernel
theorem dX6_holdRow_10 : decode cX6_holdRow 10 = .ok (.aload_n 0, 1) := by decide +kernel
theorem dX6_holdRow_11 : decode cX6_holdRow 11 = .ok (.iload_n 2, 1) := by decide +kernel
theorem dX6_holdRow_12 : decode cX6_holdRow 12 = .ok (.putfield 24, 3) := by decide +kernel
theorem dX6_holdRow_15 : decode cX6_holdRow 15 = .ok (.iconst 0, 1) := by decide +kernel
theorem dX6_holdRow_16 : decode cX6_holdRow 16 = .ok (.istore_n 3, 1) := by decide +kernel
theorem dX6_holdRow_17 : decode cX6_holdRow 17 = .ok (.iload_n 3, 1) := by decide +kernel
theorem dX6_holdRow_18 : decode cX6_holdRow 18 = .ok (.bipush 100, 2) := by decide +kernel
theorem dX6_holdRow_20 : decode cX6_holdRow 20 = .ok (.if_icmp .ge 16, 3) := by decide +kernel
theorem dX6_holdRow_23 : decode cX6_holdRow 23 = .ok (.aload_n 0, 1) := by decide +kernel
theorem dX6_holdRow_24 : decode cX6_holdRow 24 = .ok (.getfield 27, 3) := by decide +kernel
theorem dX6_holdRow_27 : decode cX6_holdRow 27 = .ok (.iload_n 3, 1) := by decide +kernel
theorem dX6_holdRow_28 : decode cX6_holdRow 28 = .ok (.iconst 0, 1) := by decide +kernel
theorem dX6_holdRow_29 : decode cX6_holdRow 29 = .ok (.iastore, 1) := by decide +kernel
theorem dX6_holdRow_30 : decode cX6_holdRow 30 = .ok (.iinc 3 1, 3) := by decide +kernel
theorem dX6_holdRow_33 : decode cX6_holdRow 33 = .ok (.goto (-16), 3) := by decide +kernel
theorem dX6_holdRow_36 : decode cX6_holdRow 36 = .ok (.return_, 1) := by decide +kernel
theorem dX6_refusalAsRow_0 : decode cX6_refusalAsRow 0 = .ok (.aload_n 0, 1) := by decide +kernel
theorem dX6_refusalAsRow_1 : decode cX6_refusalAsRow 1 = .ok (.getfield 11, 3) := by decide +kernel
theorem dX6_refusalAsRow_4 : decode cX6_refusalAsRow 4 = .ok (.ifCond .ne 6, 3) := by decide +kernel
theorem dX6_refusalAsRow_7 : decode cX6_refusalAsRow 7 = .ok (.bipush (-11), 2) := by decide +kernel
theorem dX6_refusalAsRow_9 : decode cX6_refusalAsRow 9 = .ok (.ireturn, 1) := by decide +kernel
theorem dX6_refusalAsRow_10 : decode cX6_refusalAsRow 10 = .ok (.aload_n 0, 1) := by decide +kernel
theorem dX6_refusalAsRow_11 : decode cX6_refusalAsRow 11 = .ok (.getfield 11, 3) := by decide +kernel
theorem dX6_refusalAsRow_14 : decode cX6_refusalAsRow 14 = .ok (.iconst 2, 1) := by decide +kernel
theorem dX6_refusalAsRow_15 : decode cX6_refusalAsRow 15 = .ok (.if_icmp .ne 7, 3) := by decide +kernel
theorem dX6_refusalAsRow_18 : decode cX6_refusalAsRow 18 = .ok (.iconst 0, 1) := by decide +kernel
theorem dX6_refusalAsRow_19 : decode cX6_refusalAsRow 19 = .ok (.goto 5, 3) := by decide +kernel
theorem dX6_refusalAsRow_22 : decode cX6_refusalAsRow 22 = .ok (.bipush (-12), 2) := by decide +kernel
theorem dX6_refusalAsRow_24 : decode cX6_refusalAsRow 24 = .ok (.ireturn, 1) := by decide +kernel
theorem dX6_refusalAsKind_0 : decode cX6_refusalAsKind 0 = .ok (.aload_n 0, 1) := by decide +kernel
theorem dX6_refusalAsKind_1 : decode cX6_refusalAsKind 1 = .ok (.getfield 11, 3) := by decide +kernel
theorem dX6_refusalAsKind_4 : decode cX6_refusalAsKind 4 = .ok (.ifCond .ne 6, 3) := by decide +kernel
theorem dX6_refusalAsKind_7 : decode cX6_refusalAsKind 7 = .ok (.bipush (-11), 2) := by decide +kernel
theorem dX6_refusalAsKind_9 : decode cX6_refusalAsKind 9 = .ok (.ireturn, 1) := by decide +kernel
theorem dX6_refusalAsKind_10 : decode cX6_refusalAsKind 10 = .ok (.aload_n 0, 1) := by decide +kernel
theorem dX6_refusalAsKind_11 : decode cX6_refusalAsKind 11 = .ok (.getfield 11, 3) := by decide +kernel
theorem dX6_refusalAsKind_14 : decode cX6_refusalAsKind 14 = .ok (.iconst 1, 1) := by decide +kernel
theorem dX6_refusalAsKind_15 : decode cX6_refusalAsKind 15 = .ok (.if_icmp .ne 7, 3) := by decide +kernel
theorem dX6_refusalAsKind_18 : decode cX6_refusalAsKind 18 = .ok (.iconst 0, 1) := by decide +kernel
theorem dX6_refusalAsKind_19 : decode cX6_refusalAsKind 19 = .ok (.goto 5, 3) := by decide +kernel
theorem dX6_refusalAsKind_22 : decode cX6_refusalAsKind 22 = .ok (.bipush (-12), 2) := by decide +kernel
theorem dX6_refusalAsKind_24 : decode cX6_refusalAsKind 24 = .ok (.ireturn, 1) := by decide +kernel
theorem dX6_isPlace_0 : decode cX6_isPlace 0 = .ok (.iload_n 1, 1) := by decide +kernel
theorem dX6_isPlace_1 : decode cX6_isPlace 1 = .ok (.ifCond .lt 15, 3) := by decide +kernel
theorem dX6_isPlace_4 : decode cX6_isPlace 4 = .ok (.iload_n 1, 1) := by decide +kernel
theorem dX6_isPlace_5 : decode cX6_isPlace 5 = .ok (.aload_n 0, 1) := by decide +kernel
theorem dX6_isPlace_6 : decode cX6_isPlace 6 = .ok (.getfield 24, 3) := by decide +kernel
theorem dX6_isPlace_9 : decode cX6_isPlace 9 = .ok (.if_icmp .ge 7, 3) := by decide +kernel
theorem dX6_isPlace_12 : decode cX6_isPlace 12 = .ok (.iconst 1, 1) := by decide +kernel
theorem dX6_isPlace_13 : decode cX6_isPlace 13 = .ok (.goto 4, 3) := by decide +kernel
theorem dX6_isPlace_16 : decode cX6_isPlace 16 = .ok (.iconst 0, 1) := by decide +kernel
theorem dX6_isPlace_17 : decode cX6_isPlace 17 = .ok (.ireturn, 1) := by decide +kernel
theorem dX6_isStretch_0 : decode cX6_isStretch 0 = .ok (.iload_n 2, 1) := by decide +kernel
theorem dX6_isStretch_1 : decode cX6_isStretch 1 = .ok (.ifCond .lt 29, 3) := by decide +kernel
theorem dX6_isStretch_4 : decode cX6_isStretch 4 = .ok (.iload_n 2, 1) := by decide +kernel
theorem dX6_isStretch_5 : decode cX6_isStretch 5 = .ok (.aload_n 0, 1) := by decide +kernel
theorem dX6_isStretch_6 : decode cX6_isStretch 6 = .ok (.getfield 24, 3) := by decide +kernel
theorem dX6_isStretch_9 : decode cX6_isStretch 9 = .ok (.if_icmp .gt 21, 3) := by decide +kernel
theorem dX6_isStretch_12 : decode cX6_isStretch 12 = .ok (.iload_n 1, 1) := by decide +kernel
theorem dX6_isStretch_13 : decode cX6_isStretch 13 = .ok (.ifCond .lt 17, 3) := by decide +kernel
theorem dX6_isStretch_16 : decode cX6_isStretch 16 = .ok (.iload_n 1, 1) := by decide +kernel
theorem dX6_isStretch_17 : decode cX6_isStretch 17 = .ok (.aload_n 0, 1) := by decide +kernel
theorem dX6_isStretch_18 : decode cX6_isStretch 18 = .ok (.getfield 24, 3) := by decide +kernel
theorem dX6_isStretch_21 : decode cX6_isStretch 21 = .ok (.iload_n 2, 1) := by decide +kernel
theorem dX6_isStretch_22 : decode cX6_isStretch 22 = .ok (.isub, 1) := by decide +kernel
theorem dX6_isStretch_23 : decode cX6_isStretch 23 = .ok (.if_icmp .gt 7, 3) := by decide +kernel
theorem dX6_isStretch_26 : decode cX6_isStretch 26 = .ok (.iconst 1, 1) := by decide +kernel
theorem dX6_isStretch_27 : decode cX6_isStretch 27 = .ok (.goto 4, 3) := by decide +kernel
theorem dX6_isStretch_30 : decode cX6_isStretch 30 = .ok (.iconst 0, 1) := by decide +kernel
theorem dX6_isStretch_31 : decode cX6_isStretch 31 = .ok (.ireturn, 1) := by decide +kernel
theorem dX6_write_0 : decode cX6_write 0 = .ok (.aload_n 0, 1) := by decide +kernel
theorem dX6_write_1 : decode cX6_write 1 = .ok (.getfield 21, 3) := by decide +kernel
theorem dX6_write_4 : decode cX6_write 4 = .ok (.ifCond .ne 14, 3) := by decide +kernel
theorem dX6_write_7 : decode cX6_write 7 = .ok (.aload_n 0, 1) := by decide +kernel
theorem dX6_write_8 : decode cX6_write 8 = .ok (.getfield 27, 3) := by decide +kernel
theorem dX6_write_11 : decode cX6_write 11 = .ok (.iload_n 1, 1) := by decide +kernel
theorem dX6_write_12 : decode cX6_write 12 = .ok (.iload_n 2, 1) := by decide +kernel
theorem dX6_write_13 : decode cX6_write 13 = .ok (.i2b, 1) := by decide +kernel
theorem dX6_write_14 : decode cX6_write 14 = .ok (.iastore, 1) := by decide +kernel
theorem dX6_write_15 : decode cX6_write 15 = .ok (.goto 29, 3) := by decide +kernel
theorem dX6_write_18 : decode cX6_write 18 = .ok (.aload_n 0, 1) := by decide +kernel
theorem dX6_write_19 : decode cX6_write 19 = .ok (.getfield 21, 3) := by decide +kernel
theorem dX6_write_22 : decode cX6_write 22 = .ok (.iconst 1, 1) := by decide +kernel
theorem dX6_write_23 : decode cX6_write 23 = .ok (.if_icmp .ne 14, 3) := by decide +kernel
theorem dX6_write_26 : decode cX6_write 26 = .ok (.aload_n 0, 1) := by decide +kernel
theorem dX6_write_27 : decode cX6_write 27 = .ok (.getfield 27, 3) := by decide +kernel
theorem dX6_write_30 : decode cX6_write 30 = .ok (.iload_n 1, 1) := by decide +kernel
theorem dX6_write_31 : decode cX6_write 31 = .ok (.iload_n 2, 1) := by decide +kernel
theorem dX6_write_32 : decode cX6_write 32 = .ok (.i2s, 1) := by decide +kernel
theorem dX6_write_33 : decode cX6_write 33 = .ok (.iastore, 1) := by decide +kernel
theorem dX6_write_34 : decode cX6_write 34 = .ok (.goto 10, 3) := by decide +kernel
theorem dX6_write_37 : decode cX6_write 37 = .ok (.aload_n 0, 1) := by decide +kernel
theorem dX6_write_38 : decode cX6_write 38 = .ok (.getfield 27, 3) := by decide +kernel
theorem dX6_write_41 : decode cX6_write 41 = .ok (.iload_n 1, 1) := by decide +kernel
theorem dX6_write_42 : decode cX6_write 42 = .ok (.iload_n 2, 1) := by decide +kernel
theorem dX6_write_43 : decode cX6_write 43 = .ok (.iastore, 1) := by decide +kernel
theorem dX6_write_44 : decode cX6_write 44 = .ok (.return_, 1) := by decide +kernel
theorem dX6_untold_0 : decode cX6_untold 0 = .ok (.aload_n 0, 1) := by decide +kernel
theorem dX6_untold_1 : decode cX6_untold 1 = .ok (.getfield 21, 3) := by decide +kernel
theorem dX6_untold_4 : decode cX6_untold 4 = .ok (.ifCond .ne 6, 3) := by decide +kernel
theorem dX6_untold_7 : decode cX6_untold 7 = .ok (.bipush (-128), 2) := by decide +kernel
theorem dX6_untold_9 : decode cX6_untold 9 = .ok (.ireturn, 1) := by decide +kernel
theorem dX6_untold_10 : decode cX6_untold 10 = .ok (.aload_n 0, 1) := by decide +kernel
theorem dX6_untold_11 : decode cX6_untold 11 = .ok (.getfield 21, 3) := by decide +kernel
theorem dX6_untold_14 : decode cX6_untold 14 = .ok (.iconst 1, 1) := by decide +kernel
theorem dX6_untold_15 : decode cX6_untold 15 = .ok (.if_icmp .ne 9, 3) := by decide +kernel
theorem dX6_untold_18 : decode cX6_untold 18 = .ok (.sipush (-32768), 3) := by decide +kernel
theorem dX6_untold_21 : decode cX6_untold 21 = .ok (.goto 5, 3) := by decide +kernel
theorem dX6_untold_24 : decode cX6_untold 24 = .ok (.ldc 31, 2) := by decide +kernel
theorem dX6_untold_26 : decode cX6_untold 26 = .ok (.ireturn, 1) := by decide +kernel
theorem dX7_faultyByte_0 : decode cX7_faultyByte 0 = .ok (.iconst 0, 1) := by decide +kernel
theorem dX7_faultyByte_1 : decode cX7_faultyByte 1 = .ok (.istore_n 1, 1) := by decide +kernel
theorem dX7_faultyByte_2 : decode cX7_faultyByte 2 = .ok (.aload_n 0, 1) := by decide +kernel
theorem dX7_faultyByte_3 : decode cX7_faultyByte 3 = .ok (.iload_n 1, 1) := by decide +kernel
theorem dX7_faultyByte_4 : decode cX7_faultyByte 4 = .ok (.invokestatic 9, 3) := by decide +kernel
theorem dX7_faultyByte_7 : decode cX7_faultyByte 7 = .ok (.istore_n 2, 1) := by decide +kernel
theorem dX7_faultyByte_8 : decode cX7_faultyByte 8 = .ok (.iload_n 2, 1) := by decide +kernel
theorem dX7_faultyByte_9 : decode cX7_faultyByte 9 = .ok (.iconst (-1), 1) := by decide +kernel
theorem dX7_faultyByte_10 : decode cX7_faultyByte 10 = .ok (.if_icmp .eq 5, 3) := by decide +kernel
theorem dX7_faultyByte_13 : decode cX7_faultyByte 13 = .ok (.iload_n 2, 1) := by decide +kernel
theorem dX7_faultyByte_14 : decode cX7_faultyByte 14 = .ok (.ireturn, 1) := by decide +kernel
theorem dX7_faultyByte_15 : decode cX7_faultyByte 15 = .ok (.iload_n 1, 1) := by decide +kernel
theorem dX7_faultyByte_16 : decode cX7_faultyByte 16 = .ok (.aload_n 0, 1) := by decide +kernel
theorem dX7_faultyByte_17 : decode cX7_faultyByte 17 = .ok (.getfield 15, 3) := by decide +kernel
theorem dX7_faultyByte_20 : decode cX7_faultyByte 20 = .ok (.iload_n 1, 1) := by decide +kernel
theorem dX7_faultyByte_21 : decode cX7_faultyByte 21 = .ok (.iaload, 1) := by decide +kernel
theorem dX7_faultyByte_22 : decode cX7_faultyByte 22 = .ok (.invokestatic 21, 3) := by decide +kernel
theorem dX7_faultyByte_25 : decode cX7_faultyByte 25 = .ok (.iconst 2, 1) := by decide +kernel
theorem dX7_faultyByte_26 : decode cX7_faultyByte 26 = .ok (.iadd, 1) := by decide +kernel
theorem dX7_faultyByte_27 : decode cX7_faultyByte 27 = .ok (.iadd, 1) := by decide +kernel
theorem dX7_faultyByte_28 : decode cX7_faultyByte 28 = .ok (.istore_n 1, 1) := by decide +kernel
theorem dX7_faultyByte_29 : decode cX7_faultyByte 29 = .ok (.iload_n 1, 1) := by decide +kernel
theorem dX7_faultyByte_30 : decode cX7_faultyByte 30 = .ok (.aload_n 0, 1) := by decide +kernel
theorem dX7_faultyByte_31 : decode cX7_faultyByte 31 = .ok (.getfield 25, 3) := by decide +kernel
theorem dX7_faultyByte_34 : decode cX7_faultyByte 34 = .ok (.if_icmp .lt (-32), 3) := by decide +kernel
theorem dX7_faultyByte_37 : decode cX7_faultyByte 37 = .ok (.iconst (-1), 1) := by decide +kernel
theorem dX7_faultyByte_38 : decode cX7_faultyByte 38 = .ok (.ireturn, 1) := by decide +kernel
theorem dX7_faultyByteOfStatement_0 : decode cX7_faultyByteOfStatement 0 = .ok (.aload_n 0, 1) := by decide +kernel
theorem dX7_faultyByteOfStatement_1 : decode cX7_faultyByteOfStatement 1 = .ok (.iload_n 1, 1) := by decide +kernel
theorem dX7_faultyByteOfStatement_2 : decode cX7_faultyByteOfStatement 2 = .ok (.invokevirtual 29, 3) := by decide +kernel
theorem dX7_faultyByteOfStatement_5 : decode cX7_faultyByteOfStatement 5 = .ok (.ifCond .ne 8, 3) := by decide +kernel
theorem dX7_faultyByteOfStatement_8 : decode cX7_faultyByteOfStatement 8 = .ok (.aload_n 0, 1) := by decide +kernel
theorem dX7_faultyByteOfStatement_9 : decode cX7_faultyByteOfStatement 9 = .ok (.getfield 25, 3) := by decide +kernel
theorem dX7_faultyByteOfStatement_12 : decode cX7_faultyByteOfStatement 12 = .ok (.ireturn, 1) := by decide +kernel
theorem dX7_faultyByteOfStatement_13 : decode cX7_faultyByteOfStatement 13 = .ok (.aload_n 0, 1) := by decide +kernel
theorem dX7_faultyByteOfStatement_14 : decode cX7_faultyByteOfStatement 14 = .ok (.getfield 15, 3) := by decide +kernel
theorem dX7_faultyByteOfStatement_17 : decode cX7_faultyByteOfStatement 17 = .ok (.iload_n 1, 1) := by decide +kernel
theorem dX7_faultyByteOfStatement_18 : decode cX7_faultyByteOfStatement 18 = .ok (.iaload, 1) := by decide +kernel
theorem dX7_faultyByteOfStatement_19 : decode cX7_faultyByteOfStatement 19 = .ok (.invokestatic 21, 3) := by decide +kernel
theorem dX7_faultyByteOfStatement_22 : decode cX7_faultyByteOfStatement 22 = .ok (.istore_n 2, 1) := by decide +kernel
theorem dX7_faultyByteOfStatement_23 : decode cX7_faultyByteOfStatement 23 = .ok (.iload_n 2, 1) := by decide +kernel
theorem dX7_faultyByteOfStatement_24 : decode cX7_faultyByteOfStatement 24 = .ok (.ifCond .ne 5, 3) := by decide +kernel
theorem dX7_faultyByteOfStatement_27 : decode cX7_faultyByteOfStatement 27 = .ok (.iload_n 1, 1) := by decide +kernel
theorem dX7_faultyByteOfStatement_28 : decode cX7_faultyByteOfStatement 28 = .ok (.ireturn, 1) := by decide +kernel
theorem dX7_faultyByteOfStatement_29 : decode cX7_faultyByteOfStatement 29 = .ok (.iload_n 1, 1) := by decide +kernel
theorem dX7_faultyByteOfStatement_30 : decode cX7_faultyByteOfStatement 30 = .ok (.iconst 1, 1) := by decide +kernel
theorem dX7_faultyByteOfStatement_31 : decode cX7_faultyByteOfStatement 31 = .ok (.iadd, 1) := by decide +kernel
theorem dX7_faultyByteOfStatement_32 : decode cX7_faultyByteOfStatement 32 = .ok (.istore_n 3, 1) := by decide +kernel
theorem dX7_faultyByteOfStatement_33 : decode cX7_faultyByteOfStatement 33 = .ok (.iload_n 3, 1) := by decide +kernel
theorem dX7_faultyByteOfStatement_34 : decode cX7_faultyByteOfStatement 34 = .ok (.iload_n 1, 1) := by decide +kernel
theorem dX7_faultyByteOfStatement_35 : decode cX7_faultyByteOfStatement 35 = .ok (.iload_n 2, 1) := by decide +kernel
theorem dX7_faultyByteOfStatement_36 : decode cX7_faultyByteOfStatement 36 = .ok (.iadd, 1) := by decide +kernel
theorem dX7_faultyByteOfStatement_37 : decode cX7_faultyByteOfStatement 37 = .ok (.if_icmp .gt 36, 3) := by decide +kernel
theorem dX7_faultyByteOfStatement_40 : decode cX7_faultyByteOfStatement 40 = .ok (.aload_n 0, 1) := by decide +kernel
theorem dX7_faultyByteOfStatement_41 : decode cX7_faultyByteOfStatement 41 = .ok (.iload_n 3, 1) := by decide +kernel
theorem dX7_faultyByteOfStatement_42 : decode cX7_faultyByteOfStatement 42 = .ok (.invokevirtual 29, 3) := by decide +kernel
theorem dX7_faultyByteOfStatement_45 : decode cX7_faultyByteOfStatement 45 = .ok (.ifCond .ne 8, 3) := by decide +kernel
theorem dX7_faultyByteOfStatement_48 : decode cX7_faultyByteOfStatement 48 = .ok (.aload_n 0, 1) := by decide +kernel
theorem dX7_faultyByteOfStatement_49 : decode cX7_faultyByteOfStatement 49 = .ok (.getfield 25, 3) := by decide +kernel
theorem dX7_faultyByteOfStatement_52 : decode cX7_faultyByteOfStatement 52 = .ok (.ireturn, 1) := by decide +kernel
theorem dX7_faultyByteOfStatement_53 : decode cX7_faultyByteOfStatement 53 = .ok (.aload_n 0, 1) := by decide +kernel
theorem dX7_faultyByteOfStatement_54 : decode cX7_faultyByteOfStatement 54 = .ok (.getfield 15, 3) := by decide +kernel
theorem dX7_faultyByteOfStatement_57 : decode cX7_faultyByteOfStatement 57 = .ok (.iload_n 3, 1) := by decide +kernel
theorem dX7_faultyByteOfStatement_58 : decode cX7_faultyByteOfStatement 58 = .ok (.iaload, 1) := by decide +kernel
theorem dX7_faultyByteOfStatement_59 : decode cX7_faultyByteOfStatement 59 = .ok (.invokestatic 33, 3) := by decide +kernel
theorem dX7_faultyByteOfStatement_62 : decode cX7_faultyByteOfStatement 62 = .ok (.ifCond .ne 5, 3) := by decide +kernel
theorem dX7_faultyByteOfStatement_65 : decode cX7_faultyByteOfStatement 65 = .ok (.iload_n 3, 1) := by decide +kernel
theorem dX7_faultyByteOfStatement_66 : decode cX7_faultyByteOfStatement 66 = .ok (.ireturn, 1) := by decide +kernel
theorem dX7_faultyByteOfStatement_67 : decode cX7_faultyByteOfStatement 67 = .ok (.iinc 3 1, 3) := by decide +kernel
theorem dX7_faultyByteOfStatement_70 : decode cX7_faultyByteOfStatement 70 = .ok (.goto (-37), 3) := by decide +kernel
theorem dX7_faultyByteOfStatement_73 : decode cX7_faultyByteOfStatement 73 = .ok (.iload_n 1, 1) := by decide +kernel
theorem dX7_faultyByteOfStatement_74 : decode cX7_faultyByteOfStatement 74 = .ok (.iload_n 2, 1) := by decide +kernel
theorem dX7_faultyByteOfStatement_75 : decode cX7_faultyByteOfStatement 75 = .ok (.iadd, 1) := by decide +kernel
theorem dX7_faultyByteOfStatement_76 : decode cX7_faultyByteOfStatement 76 = .ok (.iconst 1, 1) := by decide +kernel
theorem dX7_faultyByteOfStatement_77 : decode cX7_faultyByteOfStatement 77 = .ok (.iadd, 1) := by decide +kernel
theorem dX7_faultyByteOfStatement_78 : decode cX7_faultyByteOfStatement 78 = .ok (.istore_n 3, 1) := by decide +kernel
theorem dX7_faultyByteOfStatement_79 : decode cX7_faultyByteOfStatement 79 = .ok (.aload_n 0, 1) := by decide +kernel
theorem dX7_faultyByteOfStatement_80 : decode cX7_faultyByteOfStatement 80 = .ok (.iload_n 3, 1) := by decide +kernel
theorem dX7_faultyByteOfStatement_81 : decode cX7_faultyByteOfStatement 81 = .ok (.invokevirtual 29, 3) := by decide +kernel
theorem dX7_faultyByteOfStatement_84 : decode cX7_faultyByteOfStatement 84 = .ok (.ifCond .ne 8, 3) := by decide +kernel
theorem dX7_faultyByteOfStatement_87 : decode cX7_faultyByteOfStatement 87 = .ok (.aload_n 0, 1) := by decide +kernel
theorem dX7_faultyByteOfStatement_88 : decode cX7_faultyByteOfStatement 88 = .ok (.getfield 25, 3) := by decide +kernel
theorem dX7_faultyByteOfStatement_91 : decode cX7_faultyByteOfStatement 91 = .ok (.ireturn, 1) := by decide +kernel
theorem dX7_faultyByteOfStatement_92 : decode cX7_faultyByteOfStatement 92 = .ok (.aload_n 0, 1) := by decide +kernel
theorem dX7_faultyByteOfStatement_93 : decode cX7_faultyByteOfStatement 93 = .ok (.getfield 15, 3) := by decide +kernel
theorem dX7_faultyByteOfStatement_96 : decode cX7_faultyByteOfStatement 96 = .ok (.iload_n 3, 1) := by decide +kernel
theorem dX7_faultyByteOfStatement_97 : decode cX7_faultyByteOfStatement 97 = .ok (.iaload, 1) := by decide +kernel
theorem dX7_faultyByteOfStatement_98 : decode cX7_faultyByteOfStatement 98 = .ok (.bipush 59, 2) := by decide +kernel
theorem dX7_faultyByteOfStatement_100 : decode cX7_faultyByteOfStatement 100 = .ok (.if_icmp .ne 7, 3) := by decide +kernel
theorem dX7_faultyByteOfStatement_103 : decode cX7_faultyByteOfStatement 103 = .ok (.iconst (-1), 1) := by decide +kernel
theorem dX7_faultyByteOfStatement_104 : decode cX7_faultyByteOfStatement 104 = .ok (.goto 4, 3) := by decide +kernel
theorem dX7_faultyByteOfStatement_107 : decode cX7_faultyByteOfStatement 107 = .ok (.iload_n 3, 1) := by decide +kernel
theorem dX7_faultyByteOfStatement_108 : decode cX7_faultyByteOfStatement 108 = .ok (.ireturn, 1) := by decide +kernel
theorem dX7_digitsBehind_0 : decode cX7_digitsBehind 0 = .ok (.iload_n 0, 1) := by decide +kernel
theorem dX7_digitsBehind_1 : decode cX7_digitsBehind 1 = .ok (.tableswitch 95 104 121 #[91, 95, 95, 95, 95, 95, 89, 95, 89, 95, 93, 93, 95, 95, 95, 87, 95, 91], 87) := by decide +kernel
theorem dX7_digitsBehind_88 : decode cX7_digitsBehind 88 = .ok (.iconst 5, 1) := by decide +kernel
theorem dX7_digitsBehind_89 : decode cX7_digitsBehind 89 = .ok (.ireturn, 1) := by decide +kernel
theorem dX7_digitsBehind_90 : decode cX7_digitsBehind 90 = .ok (.iconst 3, 1) := by decide +kernel
theorem dX7_digitsBehind_91 : decode cX7_digitsBehind 91 = .ok (.ireturn, 1) := by decide +kernel
theorem dX7_digitsBehind_92 : decode cX7_digitsBehind 92 = .ok (.iconst 2, 1) := by decide +kernel
theorem dX7_digitsBehind_93 : decode cX7_digitsBehind 93 = .ok (.ireturn, 1) := by decide +kernel
theorem dX7_digitsBehind_94 : decode cX7_digitsBehind 94 = .ok (.iconst 1, 1) := by decide +kernel
theorem dX7_digitsBehind_95 : decode cX7_digitsBehind 95 = .ok (.ireturn, 1) := by decide +kernel
theorem dX7_digitsBehind_96 : decode cX7_digitsBehind 96 = .ok (.iconst 0, 1) := by decide +kernel
theorem dX7_digitsBehind_97 : decode cX7_digitsBehind 97 = .ok (.ireturn, 1) := by decide +kernel
theorem dX7_isDigit_0 : decode cX7_isDigit 0 = .ok (.iload_n 0, 1) := by decide +kernel
theorem dX7_isDigit_1 : decode cX7_isDigit 1 = .ok (.bipush 48, 2) := by decide +kernel
theorem dX7_isDigit_3 : decode cX7_isDigit 3 = .ok (.if_icmp .lt 13, 3) := by decide +kernel
theorem dX7_isDigit_6 : decode cX7_isDigit 6 = .ok (.iload_n 0, 1) := by decide +kernel
theorem dX7_isDigit_7 : decode cX7_isDigit 7 = .ok (.bipush 57, 2) := by decide +kernel
theorem dX7_isDigit_9 : decode cX7_isDigit 9 = .ok (.if_icmp .gt 7, 3) := by decide +kernel
theorem dX7_isDigit_12 : decode cX7_isDigit 12 = .ok (.iconst 1, 1) := by decide +kernel
theorem dX7_isDigit_13 : decode cX7_isDigit 13 = .ok (.goto 4, 3) := by decide +kernel
theorem dX7_isDigit_16 : decode cX7_isDigit 16 = .ok (.iconst 0, 1) := by decide +kernel
theorem dX7_isDigit_17 : decode cX7_isDigit 17 = .ok (.ireturn, 1) := by decide +kernel
theorem dX7_carryOut_0 : decode cX7_carryOut 0 = .ok (.iconst 0, 1) := by decide +kernel
theorem dX7_carryOut_1 : decode cX7_carryOut 1 = .ok (.istore_n 2, 1) := by decide +kernel
theorem dX7_carryOut_2 : decode cX7_carryOut 2 = .ok (.iconst 0, 1) := by decide +kernel
theorem dX7_carryOut_3 : decode cX7_carryOut 3 = .ok (.istore_n 3, 1) := by decide +kernel
theorem dX7_carryOut_4 : decode cX7_carryOut 4 = .ok (.iload_n 3, 1) := by decide +kernel
theorem dX7_carryOut_5 : decode cX7_carryOut 5 = .ok (.aload_n 0, 1) := by decide +kernel
theorem dX7_carryOut_6 : decode cX7_carryOut 6 = .ok (.getfield 25, 3) := by decide +kernel
theorem dX7_carryOut_9 : decode cX7_carryOut 9 = .ok (.if_icmp .ge 38, 3) := by decide +kernel
theorem dX7_carryOut_12 : decode cX7_carryOut 12 = .ok (.aload_n 0, 1) := by decide +kernel
theorem dX7_carryOut_13 : decode cX7_carryOut 13 = .ok (.iload_n 3, 1) := by decide +kernel
theorem dX7_carryOut_14 : decode cX7_carryOut 14 = .ok (.aload_n 1, 1) := by decide +kernel
theorem dX7_carryOut_15 : decode cX7_carryOut 15 = .ok (.invokestatic 36, 3) := by decide +kernel
theorem dX7_carryOut_18 : decode cX7_carryOut 18 = .ok (.ifCond .ge 9, 3) := by decide +kernel
theorem dX7_carryOut_21 : decode cX7_carryOut 21 = .ok (.sipush (-2000), 3) := by decide +kernel
theorem dX7_carryOut_24 : decode cX7_carryOut 24 = .ok (.iload_n 3, 1) := by decide +kernel
theorem dX7_carryOut_25 : decode cX7_carryOut 25 = .ok (.isub, 1) := by decide +kernel
theorem dX7_carryOut_26 : decode cX7_carryOut 26 = .ok (.ireturn, 1) := by decide +kernel
theorem dX7_carryOut_27 : decode cX7_carryOut 27 = .ok (.iinc 2 1, 3) := by decide +kernel
theorem dX7_carryOut_30 : decode cX7_carryOut 30 = .ok (.iload_n 3, 1) := by decide +kernel
theorem dX7_carryOut_31 : decode cX7_carryOut 31 = .ok (.aload_n 0, 1) := by decide +kernel
theorem dX7_carryOut_32 : decode cX7_carryOut 32 = .ok (.getfield 15, 3) := by decide +kernel
theorem dX7_carryOut_35 : decode cX7_carryOut 35 = .ok (.iload_n 3, 1) := by decide +kernel
theorem dX7_carryOut_36 : decode cX7_carryOut 36 = .ok (.iaload, 1) := by decide +kernel
theorem dX7_carryOut_37 : decode cX7_carryOut 37 = .ok (.invokestatic 21, 3) := by decide +kernel
theorem dX7_carryOut_40 : decode cX7_carryOut 40 = .ok (.iconst 2, 1) := by decide +kernel
theorem dX7_carryOut_41 : decode cX7_carryOut 41 = .ok (.iadd, 1) := by decide +kernel
theorem dX7_carryOut_42 : decode cX7_carryOut 42 = .ok (.iadd, 1) := by decide +kernel
theorem dX7_carryOut_43 : decode cX7_carryOut 43 = .ok (.istore_n 3, 1) := by decide +kernel
theorem dX7_carryOut_44 : decode cX7_carryOut 44 = .ok (.goto (-40), 3) := by decide +kernel
theorem dX7_carryOut_47 : decode cX7_carryOut 47 = .ok (.iload_n 2, 1) := by decide +kernel
theorem dX7_carryOut_48 : decode cX7_carryOut 48 = .ok (.ireturn, 1) := by decide +kernel
theorem dX7_answerTo_0 : decode cX7_answerTo 0 = .ok (.aload_n 0, 1) := by decide +kernel
theorem dX7_answerTo_1 : decode cX7_answerTo 1 = .ok (.getfield 15, 3) := by decide +kernel
theorem dX7_answerTo_4 : decode cX7_answerTo 4 = .ok (.iload_n 1, 1) := by decide +kernel
theorem dX7_answerTo_5 : decode cX7_answerTo 5 = .ok (.iaload, 1) := by decide +kernel
theorem dX7_answerTo_6 : decode cX7_answerTo 6 = .ok (.tableswitch 209 104 121 #[157, 209, 209, 209, 209, 209, 123, 209, 196, 209, 170, 144, 209, 209, 209, 86, 209, 183], 86) := by decide +kernel
theorem dX7_answerTo_92 : decode cX7_answerTo 92 = .ok (.aload_n 2, 1) := by decide +kernel
theorem dX7_answerTo_93 : decode cX7_answerTo 93 = .ok (.aload_n 0, 1) := by decide +kernel
theorem dX7_answerTo_94 : decode cX7_answerTo 94 = .ok (.iload_n 1, 1) := by decide +kernel
theorem dX7_answerTo_95 : decode cX7_answerTo 95 = .ok (.iconst 1, 1) := by decide +kernel
theorem dX7_answerTo_96 : decode cX7_answerTo 96 = .ok (.iadd, 1) := by decide +kernel
theorem dX7_answerTo_97 : decode cX7_answerTo 97 = .ok (.iconst 1, 1) := by decide +kernel
theorem dX7_answerTo_98 : decode cX7_answerTo 98 = .ok (.invokestatic 40, 3) := by decide +kernel
theorem dX7_answerTo_101 : decode cX7_answerTo 101 = .ok (.aload_n 0, 1) := by decide +kernel
theorem dX7_answerTo_102 : decode cX7_answerTo 102 = .ok (.iload_n 1, 1) := by decide +kernel
theorem dX7_answerTo_103 : decode cX7_answerTo 103 = .ok (.iconst 2, 1) := by decide +kernel
theorem dX7_answerTo_104 : decode cX7_answerTo 104 = .ok (.iadd, 1) := by decide +kernel
theorem dX7_answerTo_105 : decode cX7_answerTo 105 = .ok (.iconst 1, 1) := by decide +kernel
theorem dX7_answerTo_106 : decode cX7_answerTo 106 = .ok (.invokestatic 40, 3) := by decide +kernel
theorem dX7_answerTo_109 : decode cX7_answerTo 109 = .ok (.aload_n 0, 1) := by decide +kernel
theorem dX7_answerTo_110 : decode cX7_answerTo 110 = .ok (.iload_n 1, 1) := by decide +kernel
theorem dX7_answerTo_111 : decode cX7_answerTo 111 = .ok (.iconst 3, 1) := by decide +kernel
theorem dX7_answerTo_112 : decode cX7_answerTo 112 = .ok (.iadd, 1) := by decide +kernel
theorem dX7_answerTo_113 : decode cX7_answerTo 113 = .ok (.iconst 1, 1) := by decide +kernel
theorem dX7_answerTo_114 : decode cX7_answerTo 114 = .ok (.invokestatic 40, 3) := by decide +kernel
theorem dX7_answerTo_117 : decode cX7_answerTo 117 = .ok (.aload_n 0, 1) := by decide +kernel
theorem dX7_answerTo_118 : decode cX7_answerTo 118 = .ok (.iload_n 1, 1) := by decide +kernel
theorem dX7_answerTo_119 : decode cX7_answerTo 119 = .ok (.iconst 4, 1) := by decide +kernel
theorem dX7_answerTo_120 : decode cX7_answerTo 120 = .ok (.iadd, 1) := by decide +kernel
theorem dX7_answerTo_121 : decode cX7_answerTo 121 = .ok (.iconst 2, 1) := by decide +kernel
theorem dX7_answerTo_122 : decode cX7_answerTo 122 = .ok (.invokestatic 40, 3) := by decide +kernel
theorem dX7_answerTo_125 : decode cX7_answerTo 125 = .ok (.invokevirtual 44, 3) := by decide +kernel
theorem dX7_answerTo_128 : decode cX7_answerTo 128 = .ok (.ireturn, 1) := by decide +kernel
theorem dX7_answerTo_129 : decode cX7_answerTo 129 = .ok (.aload_n 2, 1) := by decide +kernel
theorem dX7_answerTo_130 : decode cX7_answerTo 130 = .ok (.aload_n 0, 1) := by decide +kernel
theorem dX7_answerTo_131 : decode cX7_answerTo 131 = .ok (.iload_n 1, 1) := by decide +kernel
theorem dX7_answerTo_132 : decode cX7_answerTo 132 = .ok (.iconst 1, 1) := by decide +kernel
theorem dX7_answerTo_133 : decode cX7_answerTo 133 = .ok (.iadd, 1) := by decide +kernel
theorem dX7_answerTo_134 : decode cX7_answerTo 134 = .ok (.iconst 1, 1) := by decide +kernel
theorem dX7_answerTo_135 : decode cX7_answerTo 135 = .ok (.invokestatic 40, 3) := by decide +kernel
theorem dX7_answerTo_138 : decode cX7_answerTo 138 = .ok (.aload_n 0, 1) := by decide +kernel
theorem dX7_answerTo_139 : decode cX7_answerTo 139 = .ok (.iload_n 1, 1) := by decide +kernel
theorem dX7_answerTo_140 : decode cX7_answerTo 140 = .ok (.iconst 2, 1) := by decide +kernel
theorem dX7_answerTo_141 : decode cX7_answerTo 141 = .ok (.iadd, 1) := by decide +kernel
theorem dX7_answerTo_142 : decode cX7_answerTo 142 = .ok (.iconst 2, 1) := by decide +kernel
theorem dX7_answerTo_143 : decode cX7_answerTo 143 = .ok (.invokestatic 40, 3) := by decide +kernel
theorem dX7_answerTo_146 : decode cX7_answerTo 146 = .ok (.invokevirtual 50, 3) := by decide +kernel
theorem dX7_answerTo_149 : decode cX7_answerTo 149 = .ok (.ireturn, 1) := by decide +kernel
theorem dX7_answerTo_150 : decode cX7_answerTo 150 = .ok (.aload_n 2, 1) := by decide +kernel
theorem dX7_answerTo_151 : decode cX7_answerTo 151 = .ok (.aload_n 0, 1) := by decide +kernel
theorem dX7_answerTo_152 : decode cX7_answerTo 152 = .ok (.iload_n 1, 1) := by decide +kernel
theorem dX7_answerTo_153 : decode cX7_answerTo 153 = .ok (.iconst 1, 1) := by decide +kernel
theorem dX7_answerTo_154 : decode cX7_answerTo 154 = .ok (.iadd, 1) := by decide +kernel
theorem dX7_answerTo_155 : decode cX7_answerTo 155 = .ok (.iconst 1, 1) := by decide +kernel
theorem dX7_answerTo_156 : decode cX7_answerTo 156 = .ok (.invokestatic 40, 3) := by decide +kernel
theorem dX7_answerTo_159 : decode cX7_answerTo 159 = .ok (.invokevirtual 54, 3) := by decide +kernel
theorem dX7_answerTo_162 : decode cX7_answerTo 162 = .ok (.ireturn, 1) := by decide +kernel
theorem dX7_answerTo_163 : decode cX7_answerTo 163 = .ok (.aload_n 2, 1) := by decide +kernel
theorem dX7_answerTo_164 : decode cX7_answerTo 164 = .ok (.aload_n 0, 1) := by decide +kernel
theorem dX7_answerTo_165 : decode cX7_answerTo 165 = .ok (.iload_n 1, 1) := by decide +kernel
theorem dX7_answerTo_166 : decode cX7_answerTo 166 = .ok (.iconst 1, 1) := by decide +kernel
theorem dX7_answerTo_167 : decode cX7_answerTo 167 = .ok (.iadd, 1) := by decide +kernel
theorem dX7_answerTo_168 : decode cX7_answerTo 168 = .ok (.iconst 2, 1) := by decide +kernel
theorem dX7_answerTo_169 : decode cX7_answerTo 169 = .ok (.invokestatic 40, 3) := by decide +kernel
theorem dX7_answerTo_172 : decode cX7_answerTo 172 = .ok (.invokevirtual 57, 3) := by decide +kernel
theorem dX7_answerTo_175 : decode cX7_answerTo 175 = .ok (.ireturn, 1) := by decide +kernel
theorem dX7_answerTo_176 : decode cX7_answerTo 176 = .ok (.aload_n 2, 1) := by decide +kernel
theorem dX7_answerTo_177 : decode cX7_answerTo 177 = .ok (.aload_n 0, 1) := by decide +kernel
theorem dX7_answerTo_178 : decode cX7_answerTo 178 = .ok (.iload_n 1, 1) := by decide +kernel
theorem dX7_answerTo_179 : decode cX7_answerTo 179 = .ok (.iconst 1, 1) := by decide +kernel
theorem dX7_answerTo_180 : decode cX7_answerTo 180 = .ok (.iadd, 1) := by decide +kernel
theorem dX7_answerTo_181 : decode cX7_answerTo 181 = .ok (.iconst 1, 1) := by decide +kernel
theorem dX7_answerTo_182 : decode cX7_answerTo 182 = .ok (.invokestatic 40, 3) := by decide +kernel
theorem dX7_answerTo_185 : decode cX7_answerTo 185 = .ok (.invokevirtual 60, 3) := by decide +kernel
theorem dX7_answerTo_188 : decode cX7_answerTo 188 = .ok (.ireturn, 1) := by decide +kernel
theorem dX7_answerTo_189 : decode cX7_answerTo 189 = .ok (.aload_n 2, 1) := by decide +kernel
theorem dX7_answerTo_190 : decode cX7_answerTo 190 = .ok (.aload_n 0, 1) := by decide +kernel
theorem dX7_answerTo_191 : decode cX7_answerTo 191 = .ok (.iload_n 1, 1) := by decide +kernel
theorem dX7_answerTo_192 : decode cX7_answerTo 192 = .ok (.iconst 1, 1) := by decide +kernel
theorem dX7_answerTo_193 : decode cX7_answerTo 193 = .ok (.iadd, 1) := by decide +kernel
theorem dX7_answerTo_194 : decode cX7_answerTo 194 = .ok (.iconst 2, 1) := by decide +kernel
theorem dX7_answerTo_195 : decode cX7_answerTo 195 = .ok (.invokestatic 40, 3) := by decide +kernel
theorem dX7_answerTo_198 : decode cX7_answerTo 198 = .ok (.invokevirtual 63, 3) := by decide +kernel
theorem dX7_answerTo_201 : decode cX7_answerTo 201 = .ok (.ireturn, 1) := by decide +kernel
theorem dX7_answerTo_202 : decode cX7_answerTo 202 = .ok (.aload_n 2, 1) := by decide +kernel
theorem dX7_answerTo_203 : decode cX7_answerTo 203 = .ok (.aload_n 0, 1) := by decide +kernel
theorem dX7_answerTo_204 : decode cX7_answerTo 204 = .ok (.iload_n 1, 1) := by decide +kernel
theorem dX7_answerTo_205 : decode cX7_answerTo 205 = .ok (.iconst 1, 1) := by decide +kernel
theorem dX7_answerTo_206 : decode cX7_answerTo 206 = .ok (.iadd, 1) := by decide +kernel
theorem dX7_answerTo_207 : decode cX7_answerTo 207 = .ok (.iconst 3, 1) := by decide +kernel
theorem dX7_answerTo_208 : decode cX7_answerTo 208 = .ok (.invokestatic 40, 3) := by decide +kernel
theorem dX7_answerTo_211 : decode cX7_answerTo 211 = .ok (.invokevirtual 66, 3) := by decide +kernel
theorem dX7_answerTo_214 : decode cX7_answerTo 214 = .ok (.ireturn, 1) := by decide +kernel
theorem dX7_answerTo_215 : decode cX7_answerTo 215 = .ok (.iconst (-1), 1) := by decide +kernel
theorem dX7_answerTo_216 : decode cX7_answerTo 216 = .ok (.ireturn, 1) := by decide +kernel
theorem dX7_numberAt_0 : decode cX7_numberAt 0 = .ok (.iconst 0, 1) := by decide +kernel
theorem dX7_numberAt_1 : decode cX7_numberAt 1 = .ok (.istore_n 3, 1) := by decide +kernel
theorem dX7_numberAt_2 : decode cX7_numberAt 2 = .ok (.iload_n 1, 1) := by decide +kernel
theorem dX7_numberAt_3 : decode cX7_numberAt 3 = .ok (.istore 4, 2) := by decide +kernel
theorem dX7_numberAt_5 : decode cX7_numberAt 5 = .ok (.iload 4, 2) := by decide +kernel
theorem dX7_numberAt_7 : decode cX7_numberAt 7 = .ok (.iload_n 1, 1) := by decide +kernel
theorem dX7_numberAt_8 : decode cX7_numberAt 8 = .ok (.iload_n 2, 1) := by decide +kernel
theorem dX7_numberAt_9 : decode cX7_numberAt 9 = .ok (.iadd, 1) := by decide +kernel
theorem dX7_numberAt_10 : decode cX7_numberAt 10 = .ok (.if_icmp .ge 34, 3) := by decide +kernel
theorem dX7_numberAt_13 : decode cX7_numberAt 13 = .ok (.aload_n 0, 1) := by decide +kernel
theorem dX7_numberAt_14 : decode cX7_numberAt 14 = .ok (.iload 4, 2) := by decide +kernel
theorem dX7_numberAt_16 : decode cX7_numberAt 16 = .ok (.invokevirtual 29, 3) := by decide +kernel
theorem dX7_numberAt_19 : decode cX7_numberAt 19 = .ok (.ifCond .eq 19, 3) := by decide +kernel
theorem dX7_numberAt_22 : decode cX7_numberAt 22 = .ok (.iload_n 3, 1) := by decide +kernel
theorem dX7_numberAt_23 : decode cX7_numberAt 23 = .ok (.bipush 10, 2) := by decide +kernel
theorem dX7_numberAt_25 : decode cX7_numberAt 25 = .ok (.imul, 1) := by decide +kernel
theorem dX7_numberAt_26 : decode cX7_numberAt 26 = .ok (.aload_n 0, 1) := by decide +kernel
theorem dX7_numberAt_27 : decode cX7_numberAt 27 = .ok (.getfield 15, 3) := by decide +kernel
theorem dX7_numberAt_30 : decode cX7_numberAt 30 = .ok (.iload 4, 2) := by decide +kernel
theorem dX7_numberAt_32 : decode cX7_numberAt 32 = .ok (.iaload, 1) := by decide +kernel
theorem dX7_numberAt_33 : decode cX7_numberAt 33 = .ok (.iadd, 1) := by decide +kernel
theorem dX7_numberAt_34 : decode cX7_numberAt 34 = .ok (.bipush 48, 2) := by decide +kernel
theorem dX7_numberAt_36 : decode cX7_numberAt 36 = .ok (.isub, 1) := by decide +kernel
theorem dX7_numberAt_37 : decode cX7_numberAt 37 = .ok (.istore_n 3, 1) := by decide +kernel
theorem dX7_numberAt_38 : decode cX7_numberAt 38 = .ok (.iinc 4 1, 3) := by decide +kernel
theorem dX7_numberAt_41 : decode cX7_numberAt 41 = .ok (.goto (-36), 3) := by decide +kernel
theorem dX7_numberAt_44 : decode cX7_numberAt 44 = .ok (.iload_n 3, 1) := by decide +kernel
theorem dX7_numberAt_45 : decode cX7_numberAt 45 = .ok (.ireturn, 1) := by decide +kernel
theorem dX8_fewestLooks_0 : decode cX8_fewestLooks 0 = .ok (.aload_n 0, 1) := by decide +kernel
theorem dX8_fewestLooks_1 : decode cX8_fewestLooks 1 = .ok (.invokestatic 9, 3) := by decide +kernel
theorem dX8_fewestLooks_4 : decode cX8_fewestLooks 4 = .ok (.astore_n 1, 1) := by decide +kernel
theorem dX8_fewestLooks_5 : decode cX8_fewestLooks 5 = .ok (.aload_n 1, 1) := by decide +kernel
theorem dX8_fewestLooks_6 : decode cX8_fewestLooks 6 = .ok (.iconst 0, 1) := by decide +kernel
theorem dX8_fewestLooks_7 : decode cX8_fewestLooks 7 = .ok (.invokestatic 15, 3) := by decide +kernel
theorem dX8_fewestLooks_10 : decode cX8_fewestLooks 10 = .ok (.ifCond .eq 5, 3) := by decide +kernel
theorem dX8_fewestLooks_13 : decode cX8_fewestLooks 13 = .ok (.iconst 0, 1) := by decide +kernel
theorem dX8_fewestLooks_14 : decode cX8_fewestLooks 14 = .ok (.ireturn, 1) := by decide +kernel
theorem dX8_fewestLooks_15 : decode cX8_fewestLooks 15 = .ok (.iconst 0, 1) := by decide +kernel
theorem dX8_fewestLooks_16 : decode cX8_fewestLooks 16 = .ok (.istore_n 2, 1) := by decide +kernel
theorem dX8_fewestLooks_17 : decode cX8_fewestLooks 17 = .ok (.iload_n 2, 1) := by decide +kernel
theorem dX8_fewestLooks_18 : decode cX8_fewestLooks 18 = .ok (.bipush 24, 2) := by decide +kernel
theorem dX8_fewestLooks_20 : decode cX8_fewestLooks 20 = .ok (.if_icmp .ge 23, 3) := by decide +kernel
theorem dX8_fewestLooks_23 : decode cX8_fewestLooks 23 = .ok (.aload_n 1, 1) := by decide +kernel
theorem dX8_fewestLooks_24 : decode cX8_fewestLooks 24 = .ok (.iconst 1, 1) := by decide +kernel
theorem dX8_fewestLooks_25 : decode cX8_fewestLooks 25 = .ok (.iload_n 2, 1) := by decide +kernel
theorem dX8_fewestLooks_26 : decode cX8_fewestLooks 26 = .ok (.ishl, 1) := by decide +kernel
theorem dX8_fewestLooks_27 : decode cX8_fewestLooks 27 = .ok (.invokestatic 15, 3) := by decide +kernel
theorem dX8_fewestLooks_30 : decode cX8_fewestLooks 30 = .ok (.ifCond .eq 7, 3) := by decide +kernel
theorem dX8_fewestLooks_33 : decode cX8_fewestLooks 33 = .ok (.iconst 1, 1) := by decide +kernel
theorem dX8_fewestLooks_34 : decode cX8_fewestLooks 34 = .ok (.iload_n 2, 1) := by decide +kernel
theorem dX8_fewestLooks_35 : decode cX8_fewestLooks 35 = .ok (.ishl, 1) := by decide +kernel
theorem dX8_fewestLooks_36 : decode cX8_fewestLooks 36 = .ok (.ireturn, 1) := by decide +kernel
theorem dX8_fewestLooks_37 : decode cX8_fewestLooks 37 = .ok (.iinc 2 1, 3) := by decide +kernel
theorem dX8_fewestLooks_40 : decode cX8_fewestLooks 40 = .ok (.goto (-23), 3) := by decide +kernel
theorem dX8_fewestLooks_43 : decode cX8_fewestLooks 43 = .ok (.iconst 1, 1) := by decide +kernel
theorem dX8_fewestLooks_44 : decode cX8_fewestLooks 44 = .ok (.istore_n 2, 1) := by decide +kernel
theorem dX8_fewestLooks_45 : decode cX8_fewestLooks 45 = .ok (.iload_n 2, 1) := by decide +kernel
theorem dX8_fewestLooks_46 : decode cX8_fewestLooks 46 = .ok (.bipush 24, 2) := by decide +kernel
theorem dX8_fewestLooks_48 : decode cX8_fewestLooks 48 = .ok (.if_icmp .ge 44, 3) := by decide +kernel
theorem dX8_fewestLooks_51 : decode cX8_fewestLooks 51 = .ok (.iconst 0, 1) := by decide +kernel
theorem dX8_fewestLooks_52 : decode cX8_fewestLooks 52 = .ok (.istore_n 3, 1) := by decide +kernel
theorem dX8_fewestLooks_53 : decode cX8_fewestLooks 53 = .ok (.iload_n 3, 1) := by decide +kernel
theorem dX8_fewestLooks_54 : decode cX8_fewestLooks 54 = .ok (.iload_n 2, 1) := by decide +kernel
theorem dX8_fewestLooks_55 : decode cX8_fewestLooks 55 = .ok (.if_icmp .ge 31, 3) := by decide +kernel
theorem dX8_fewestLooks_58 : decode cX8_fewestLooks 58 = .ok (.aload_n 1, 1) := by decide +kernel
theorem dX8_fewestLooks_59 : decode cX8_fewestLooks 59 = .ok (.iconst 1, 1) := by decide +kernel
theorem dX8_fewestLooks_60 : decode cX8_fewestLooks 60 = .ok (.iload_n 2, 1) := by decide +kernel
theorem dX8_fewestLooks_61 : decode cX8_fewestLooks 61 = .ok (.ishl, 1) := by decide +kernel
theorem dX8_fewestLooks_62 : decode cX8_fewestLooks 62 = .ok (.iconst 1, 1) := by decide +kernel
theorem dX8_fewestLooks_63 : decode cX8_fewestLooks 63 = .ok (.iload_n 3, 1) := by decide +kernel
theorem dX8_fewestLooks_64 : decode cX8_fewestLooks 64 = .ok (.ishl, 1) := by decide +kernel
theorem dX8_fewestLooks_65 : decode cX8_fewestLooks 65 = .ok (.ior, 1) := by decide +kernel
theorem dX8_fewestLooks_66 : decode cX8_fewestLooks 66 = .ok (.invokestatic 15, 3) := by decide +kernel
theorem dX8_fewestLooks_69 : decode cX8_fewestLooks 69 = .ok (.ifCond .eq 11, 3) := by decide +kernel
theorem dX8_fewestLooks_72 : decode cX8_fewestLooks 72 = .ok (.iconst 1, 1) := by decide +kernel
theorem dX8_fewestLooks_73 : decode cX8_fewestLooks 73 = .ok (.iload_n 2, 1) := by decide +kernel
theorem dX8_fewestLooks_74 : decode cX8_fewestLooks 74 = .ok (.ishl, 1) := by decide +kernel
theorem dX8_fewestLooks_75 : decode cX8_fewestLooks 75 = .ok (.iconst 1, 1) := by decide +kernel
theorem dX8_fewestLooks_76 : decode cX8_fewestLooks 76 = .ok (.iload_n 3, 1) := by decide +kernel
theorem dX8_fewestLooks_77 : decode cX8_fewestLooks 77 = .ok (.ishl, 1) := by decide +kernel
theorem dX8_fewestLooks_78 : decode cX8_fewestLooks 78 = .ok (.ior, 1) := by decide +kernel
theorem dX8_fewestLooks_79 : decode cX8_fewestLooks 79 = .ok (.ireturn, 1) := by decide +kernel
theorem dX8_fewestLooks_80 : decode cX8_fewestLooks 80 = .ok (.iinc 3 1, 3) := by decide +kernel
theorem dX8_fewestLooks_83 : decode cX8_fewestLooks 83 = .ok (.goto (-30), 3) := by decide +kernel
theorem dX8_fewestLooks_86 : decode cX8_fewestLooks 86 = .ok (.iinc 2 1, 3) := by decide +kernel
theorem dX8_fewestLooks_89 : decode cX8_fewestLooks 89 = .ok (.goto (-44), 3) := by decide +kernel
theorem dX8_fewestLooks_92 : decode cX8_fewestLooks 92 = .ok (.aload_n 1, 1) := by decide +kernel
theorem dX8_fewestLooks_93 : decode cX8_fewestLooks 93 = .ok (.invokestatic 21, 3) := by decide +kernel
theorem dX8_fewestLooks_96 : decode cX8_fewestLooks 96 = .ok (.ireturn, 1) := by decide +kernel
theorem dX8_leastOfThreeLooks_0 : decode cX8_leastOfThreeLooks 0 = .ok (.iconst 2, 1) := by decide +kernel
theorem dX8_leastOfThreeLooks_1 : decode cX8_leastOfThreeLooks 1 = .ok (.istore_n 1, 1) := by decide +kernel
theorem dX8_leastOfThreeLooks_2 : decode cX8_leastOfThreeLooks 2 = .ok (.iload_n 1, 1) := by decide +kernel
theorem dX8_leastOfThreeLooks_3 : decode cX8_leastOfThreeLooks 3 = .ok (.bipush 24, 2) := by decide +kernel
theorem dX8_leastOfThreeLooks_5 : decode cX8_leastOfThreeLooks 5 = .ok (.if_icmp .ge 60, 3) := by decide +kernel
theorem dX8_leastOfThreeLooks_8 : decode cX8_leastOfThreeLooks 8 = .ok (.iconst 1, 1) := by decide +kernel
theorem dX8_leastOfThreeLooks_9 : decode cX8_leastOfThreeLooks 9 = .ok (.istore_n 2, 1) := by decide +kernel
theorem dX8_leastOfThreeLooks_10 : decode cX8_leastOfThreeLooks 10 = .ok (.iload_n 2, 1) := by decide +kernel
theorem dX8_leastOfThreeLooks_11 : decode cX8_leastOfThreeLooks 11 = .ok (.iload_n 1, 1) := by decide +kernel
theorem dX8_leastOfThreeLooks_12 : decode cX8_leastOfThreeLooks 12 = .ok (.if_icmp .ge 47, 3) := by decide +kernel
theorem dX8_leastOfThreeLooks_15 : decode cX8_leastOfThreeLooks 15 = .ok (.iconst 0, 1) := by decide +kernel
theorem dX8_leastOfThreeLooks_16 : decode cX8_leastOfThreeLooks 16 = .ok (.istore_n 3, 1) := by decide +kernel
theorem dX8_leastOfThreeLooks_17 : decode cX8_leastOfThreeLooks 17 = .ok (.iload_n 3, 1) := by decide +kernel
theorem dX8_leastOfThreeLooks_18 : decode cX8_leastOfThreeLooks 18 = .ok (.iload_n 2, 1) := by decide +kernel
theorem dX8_leastOfThreeLooks_19 : decode cX8_leastOfThreeLooks 19 = .ok (.if_icmp .ge 34, 3) := by decide +kernel
theorem dX8_leastOfThreeLooks_22 : decode cX8_leastOfThreeLooks 22 = .ok (.iconst 1, 1) := by decide +kernel
theorem dX8_leastOfThreeLooks_23 : decode cX8_leastOfThreeLooks 23 = .ok (.iload_n 1, 1) := by decide +kernel
theorem dX8_leastOfThreeLooks_24 : decode cX8_leastOfThreeLooks 24 = .ok (.ishl, 1) := by decide +kernel
theorem dX8_leastOfThreeLooks_25 : decode cX8_leastOfThreeLooks 25 = .ok (.iconst 1, 1) := by decide +kernel
theorem dX8_leastOfThreeLooks_26 : decode cX8_leastOfThreeLooks 26 = .ok (.iload_n 2, 1) := by decide +kernel
theorem dX8_leastOfThreeLooks_27 : decode cX8_leastOfThreeLooks 27 = .ok (.ishl, 1) := by decide +kernel
theorem dX8_leastOfThreeLooks_28 : decode cX8_leastOfThreeLooks 28 = .ok (.ior, 1) := by decide +kernel
theorem dX8_leastOfThreeLooks_29 : decode cX8_leastOfThreeLooks 29 = .ok (.iconst 1, 1) := by decide +kernel
theorem dX8_leastOfThreeLooks_30 : decode cX8_leastOfThreeLooks 30 = .ok (.iload_n 3, 1) := by decide +kernel
theorem dX8_leastOfThreeLooks_31 : decode cX8_leastOfThreeLooks 31 = .ok (.ishl, 1) := by decide +kernel
theorem dX8_leastOfThreeLooks_32 : decode cX8_leastOfThreeLooks 32 = .ok (.ior, 1) := by decide +kernel
theorem dX8_leastOfThreeLooks_33 : decode cX8_leastOfThreeLooks 33 = .ok (.istore 4, 2) := by decide +kernel
theorem dX8_leastOfThreeLooks_35 : decode cX8_leastOfThreeLooks 35 = .ok (.aload_n 0, 1) := by decide +kernel
theorem dX8_leastOfThreeLooks_36 : decode cX8_leastOfThreeLooks 36 = .ok (.iload 4, 2) := by decide +kernel
theorem dX8_leastOfThreeLooks_38 : decode cX8_leastOfThreeLooks 38 = .ok (.invokestatic 15, 3) := by decide +kernel
theorem dX8_leastOfThreeLooks_41 : decode cX8_leastOfThreeLooks 41 = .ok (.ifCond .eq 6, 3) := by decide +kernel
theorem dX8_leastOfThreeLooks_44 : decode cX8_leastOfThreeLooks 44 = .ok (.iload 4, 2) := by decide +kernel
theorem dX8_leastOfThreeLooks_46 : decode cX8_leastOfThreeLooks 46 = .ok (.ireturn, 1) := by decide +kernel
theorem dX8_leastOfThreeLooks_47 : decode cX8_leastOfThreeLooks 47 = .ok (.iinc 3 1, 3) := by decide +kernel
theorem dX8_leastOfThreeLooks_50 : decode cX8_leastOfThreeLooks 50 = .ok (.goto (-33), 3) := by decide +kernel
theorem dX8_leastOfThreeLooks_53 : decode cX8_leastOfThreeLooks 53 = .ok (.iinc 2 1, 3) := by decide +kernel
theorem dX8_leastOfThreeLooks_56 : decode cX8_leastOfThreeLooks 56 = .ok (.goto (-46), 3) := by decide +kernel
theorem dX8_leastOfThreeLooks_59 : decode cX8_leastOfThreeLooks 59 = .ok (.iinc 1 1, 3) := by decide +kernel
theorem dX8_leastOfThreeLooks_62 : decode cX8_leastOfThreeLooks 62 = .ok (.goto (-60), 3) := by decide +kernel
theorem dX8_leastOfThreeLooks_65 : decode cX8_leastOfThreeLooks 65 = .ok (.bipush (-4), 2) := by decide +kernel
theorem dX8_leastOfThreeLooks_67 : decode cX8_leastOfThreeLooks 67 = .ok (.ireturn, 1) := by decide +kernel
theorem dX8_movingHours_0 : decode cX8_movingHours 0 = .ok (.bipush 8, 2) := by decide +kernel
theorem dX8_movingHours_2 : decode cX8_movingHours 2 = .ok (.newarray .int, 2) := by decide +kernel
theorem dX8_movingHours_4 : decode cX8_movingHours 4 = .ok (.astore_n 1, 1) := by decide +kernel
theorem dX8_movingHours_5 : decode cX8_movingHours 5 = .ok (.iconst 0, 1) := by decide +kernel
theorem dX8_movingHours_6 : decode cX8_movingHours 6 = .ok (.istore_n 2, 1) := by decide +kernel
theorem dX8_movingHours_7 : decode cX8_movingHours 7 = .ok (.iload_n 2, 1) := by decide +kernel
theorem dX8_movingHours_8 : decode cX8_movingHours 8 = .ok (.bipush 8, 2) := by decide +kernel
theorem dX8_movingHours_10 : decode cX8_movingHours 10 = .ok (.if_icmp .ge 37, 3) := by decide +kernel
theorem dX8_movingHours_13 : decode cX8_movingHours 13 = .ok (.aload_n 1, 1) := by decide +kernel
theorem dX8_movingHours_14 : decode cX8_movingHours 14 = .ok (.iload_n 2, 1) := by decide +kernel
theorem dX8_movingHours_15 : decode cX8_movingHours 15 = .ok (.aload_n 0, 1) := by decide +kernel
theorem dX8_movingHours_16 : decode cX8_movingHours 16 = .ok (.iload_n 2, 1) := by decide +kernel
theorem dX8_movingHours_17 : decode cX8_movingHours 17 = .ok (.invokevirtual 25, 3) := by decide +kernel
theorem dX8_movingHours_20 : decode cX8_movingHours 20 = .ok (.ifCond .eq 11, 3) := by decide +kernel
theorem dX8_movingHours_23 : decode cX8_movingHours 23 = .ok (.aload_n 0, 1) := by decide +kernel
theorem dX8_movingHours_24 : decode cX8_movingHours 24 = .ok (.iload_n 2, 1) := by decide +kernel
theorem dX8_movingHours_25 : decode cX8_movingHours 25 = .ok (.invokevirtual 29, 3) := by decide +kernel
theorem dX8_movingHours_28 : decode cX8_movingHours 28 = .ok (.ifCond .eq 7, 3) := by decide +kernel
theorem dX8_movingHours_31 : decode cX8_movingHours 31 = .ok (.iconst (-1), 1) := by decide +kernel
theorem dX8_movingHours_32 : decode cX8_movingHours 32 = .ok (.goto 8, 3) := by decide +kernel
theorem dX8_movingHours_35 : decode cX8_movingHours 35 = .ok (.aload_n 0, 1) := by decide +kernel
theorem dX8_movingHours_36 : decode cX8_movingHours 36 = .ok (.iload_n 2, 1) := by decide +kernel
theorem dX8_movingHours_37 : decode cX8_movingHours 37 = .ok (.invokestatic 32, 3) := by decide +kernel
theorem dX8_movingHours_40 : decode cX8_movingHours 40 = .ok (.iastore, 1) := by decide +kernel
theorem dX8_movingHours_41 : decode cX8_movingHours 41 = .ok (.iinc 2 1, 3) := by decide +kernel
theorem dX8_movingHours_44 : decode cX8_movingHours 44 = .ok (.goto (-37), 3) := by decide +kernel
theorem dX8_movingHours_47 : decode cX8_movingHours 47 = .ok (.aload_n 1, 1) := by decide +kernel
theorem dX8_movingHours_48 : decode cX8_movingHours 48 = .ok (.areturn, 1) := by decide +kernel
theorem dX8_movingHoursOf_0 : decode cX8_movingHoursOf 0 = .ok (.iconst 0, 1) := by decide +kernel
theorem dX8_movingHoursOf_1 : decode cX8_movingHoursOf 1 = .ok (.istore_n 2, 1) := by decide +kernel
theorem dX8_movingHoursOf_2 : decode cX8_movingHoursOf 2 = .ok (.iconst 0, 1) := by decide +kernel
theorem dX8_movingHoursOf_3 : decode cX8_movingHoursOf 3 = .ok (.istore_n 3, 1) := by decide +kernel
theorem dX8_movingHoursOf_4 : decode cX8_movingHoursOf 4 = .ok (.iload_n 3, 1) := by decide +kernel
theorem dX8_movingHoursOf_5 : decode cX8_movingHoursOf 5 = .ok (.bipush 24, 2) := by decide +kernel
theorem dX8_movingHoursOf_7 : decode cX8_movingHoursOf 7 = .ok (.if_icmp .ge 24, 3) := by decide +kernel
theorem dX8_movingHoursOf_10 : decode cX8_movingHoursOf 10 = .ok (.aload_n 0, 1) := by decide +kernel
theorem dX8_movingHoursOf_11 : decode cX8_movingHoursOf 11 = .ok (.iload_n 1, 1) := by decide +kernel
theorem dX8_movingHoursOf_12 : decode cX8_movingHoursOf 12 = .ok (.iload_n 3, 1) := by decide +kernel
theorem dX8_movingHoursOf_13 : decode cX8_movingHoursOf 13 = .ok (.invokevirtual 36, 3) := by decide +kernel
theorem dX8_movingHoursOf_16 : decode cX8_movingHoursOf 16 = .ok (.ifCond .eq 9, 3) := by decide +kernel
theorem dX8_movingHoursOf_19 : decode cX8_movingHoursOf 19 = .ok (.iload_n 2, 1) := by decide +kernel
theorem dX8_movingHoursOf_20 : decode cX8_movingHoursOf 20 = .ok (.iconst 1, 1) := by decide +kernel
theorem dX8_movingHoursOf_21 : decode cX8_movingHoursOf 21 = .ok (.iload_n 3, 1) := by decide +kernel
theorem dX8_movingHoursOf_22 : decode cX8_movingHoursOf 22 = .ok (.ishl, 1) := by decide +kernel
theorem dX8_movingHoursOf_23 : decode cX8_movingHoursOf 23 = .ok (.ior, 1) := by decide +kernel
theorem dX8_movingHoursOf_24 : decode cX8_movingHoursOf 24 = .ok (.istore_n 2, 1) := by decide +kernel
theorem dX8_movingHoursOf_25 : decode cX8_movingHoursOf 25 = .ok (.iinc 3 1, 3) := by decide +kernel
theorem dX8_movingHoursOf_28 : decode cX8_movingHoursOf 28 = .ok (.goto (-24), 3) := by decide +kernel
theorem dX8_movingHoursOf_31 : decode cX8_movingHoursOf 31 = .ok (.iload_n 2, 1) := by decide +kernel
theorem dX8_movingHoursOf_32 : decode cX8_movingHoursOf 32 = .ok (.ireturn, 1) := by decide +kernel
theorem dX8_areAllUnlike_0 : decode cX8_areAllUnlike 0 = .ok (.iconst 1, 1) := by decide +kernel
theorem dX8_areAllUnlike_1 : decode cX8_areAllUnlike 1 = .ok (.istore_n 2, 1) := by decide +kernel
theorem dX8_areAllUnlike_2 : decode cX8_areAllUnlike 2 = .ok (.iload_n 2, 1) := by decide +kernel
theorem dX8_areAllUnlike_3 : decode cX8_areAllUnlike 3 = .ok (.aload_n 0, 1) := by decide +kernel
theorem dX8_areAllUnlike_4 : decode cX8_areAllUnlike 4 = .ok (.arraylength, 1) := by decide +kernel
theorem dX8_areAllUnlike_5 : decode cX8_areAllUnlike 5 = .ok (.if_icmp .ge 48, 3) := by decide +kernel
theorem dX8_areAllUnlike_8 : decode cX8_areAllUnlike 8 = .ok (.iconst 0, 1) := by decide +kernel
theorem dX8_areAllUnlike_9 : decode cX8_areAllUnlike 9 = .ok (.istore_n 3, 1) := by decide +kernel
theorem dX8_areAllUnlike_10 : decode cX8_areAllUnlike 10 = .ok (.iload_n 3, 1) := by decide +kernel
theorem dX8_areAllUnlike_11 : decode cX8_areAllUnlike 11 = .ok (.iload_n 2, 1) := by decide +kernel
theorem dX8_areAllUnlike_12 : decode cX8_areAllUnlike 12 = .ok (.if_icmp .ge 35, 3) := by decide +kernel
theorem dX8_areAllUnlike_15 : decode cX8_areAllUnlike 15 = .ok (.aload_n 0, 1) := by decide +kernel
theorem dX8_areAllUnlike_16 : decode cX8_areAllUnlike 16 = .ok (.iload_n 3, 1) := by decide +kernel
theorem dX8_areAllUnlike_17 : decode cX8_areAllUnlike 17 = .ok (.iaload, 1) := by decide +kernel
theorem dX8_areAllUnlike_18 : decode cX8_areAllUnlike 18 = .ok (.ifCond .lt 23, 3) := by decide +kernel
theorem dX8_areAllUnlike_21 : decode cX8_areAllUnlike 21 = .ok (.aload_n 0, 1) := by decide +kernel
theorem dX8_areAllUnlike_22 : decode cX8_areAllUnlike 22 = .ok (.iload_n 2, 1) := by decide +kernel
theorem dX8_areAllUnlike_23 : decode cX8_areAllUnlike 23 = .ok (.iaload, 1) := by decide +kernel
theorem dX8_areAllUnlike_24 : decode cX8_areAllUnlike 24 = .ok (.ifCond .lt 17, 3) := by decide +kernel
theorem dX8_areAllUnlike_27 : decode cX8_areAllUnlike 27 = .ok (.aload_n 0, 1) := by decide +kernel
theorem dX8_areAllUnlike_28 : decode cX8_areAllUnlike 28 = .ok (.iload_n 3, 1) := by decide +kernel
theorem dX8_areAllUnlike_29 : decode cX8_areAllUnlike 29 = .ok (.iaload, 1) := by decide +kernel
theorem dX8_areAllUnlike_30 : decode cX8_areAllUnlike 30 = .ok (.aload_n 0, 1) := by decide +kernel
theorem dX8_areAllUnlike_31 : decode cX8_areAllUnlike 31 = .ok (.iload_n 2, 1) := by decide +kernel
theorem dX8_areAllUnlike_32 : decode cX8_areAllUnlike 32 = .ok (.iaload, 1) := by decide +kernel
theorem dX8_areAllUnlike_33 : decode cX8_areAllUnlike 33 = .ok (.ixor, 1) := by decide +kernel
theorem dX8_areAllUnlike_34 : decode cX8_areAllUnlike 34 = .ok (.iload_n 1, 1) := by decide +kernel
theorem dX8_areAllUnlike_35 : decode cX8_areAllUnlike 35 = .ok (.iand, 1) := by decide +kernel
theorem dX8_areAllUnlike_36 : decode cX8_areAllUnlike 36 = .ok (.ifCond .ne 5, 3) := by decide +kernel
theorem dX8_areAllUnlike_39 : decode cX8_areAllUnlike 39 = .ok (.iconst 0, 1) := by decide +kernel
theorem dX8_areAllUnlike_40 : decode cX8_areAllUnlike 40 = .ok (.ireturn, 1) := by decide +kernel
theorem dX8_areAllUnlike_41 : decode cX8_areAllUnlike 41 = .ok (.iinc 3 1, 3) := by decide +kernel
theorem dX8_areAllUnlike_44 : decode cX8_areAllUnlike 44 = .ok (.goto (-34), 3) := by decide +kernel
theorem dX8_areAllUnlike_47 : decode cX8_areAllUnlike 47 = .ok (.iinc 2 1, 3) := by decide +kernel
theorem dX8_areAllUnlike_50 : decode cX8_areAllUnlike 50 = .ok (.goto (-48), 3) := by decide +kernel
theorem dX8_areAllUnlike_53 : decode cX8_areAllUnlike 53 = .ok (.iconst 1, 1) := by decide +kernel
theorem dX8_areAllUnlike_54 : decode cX8_areAllUnlike 54 = .ok (.ireturn, 1) := by decide +kernel
theorem dX8_liveliestHour_0 : decode cX8_liveliestHour 0 = .ok (.iconst 0, 1) := by decide +kernel
theorem dX8_liveliestHour_1 : decode cX8_liveliestHour 1 = .ok (.istore_n 1, 1) := by decide +kernel
theorem dX8_liveliestHour_2 : decode cX8_liveliestHour 2 = .ok (.iconst 1, 1) := by decide +kernel
theorem dX8_liveliestHour_3 : decode cX8_liveliestHour 3 = .ok (.istore_n 2, 1) := by decide +kernel
theorem dX8_liveliestHour_4 : decode cX8_liveliestHour 4 = .ok (.iload_n 2, 1) := by decide +kernel
theorem dX8_liveliestHour_5 : decode cX8_liveliestHour 5 = .ok (.bipush 24, 2) := by decide +kernel
theorem dX8_liveliestHour_7 : decode cX8_liveliestHour 7 = .ok (.if_icmp .ge 24, 3) := by decide +kernel
theorem dX8_liveliestHour_10 : decode cX8_liveliestHour 10 = .ok (.aload_n 0, 1) := by decide +kernel
theorem dX8_liveliestHour_11 : decode cX8_liveliestHour 11 = .ok (.iload_n 2, 1) := by decide +kernel
theorem dX8_liveliestHour_12 : decode cX8_liveliestHour 12 = .ok (.invokevirtual 40, 3) := by decide +kernel
theorem dX8_liveliestHour_15 : decode cX8_liveliestHour 15 = .ok (.aload_n 0, 1) := by decide +kernel
theorem dX8_liveliestHour_16 : decode cX8_liveliestHour 16 = .ok (.iload_n 1, 1) := by decide +kernel
theorem dX8_liveliestHour_17 : decode cX8_liveliestHour 17 = .ok (.invokevirtual 40, 3) := by decide +kernel
theorem dX8_liveliestHour_20 : decode cX8_liveliestHour 20 = .ok (.if_icmp .le 5, 3) := by decide +kernel
theorem dX8_liveliestHour_23 : decode cX8_liveliestHour 23 = .ok (.iload_n 2, 1) := by decide +kernel
theorem dX8_liveliestHour_24 : decode cX8_liveliestHour 24 = .ok (.istore_n 1, 1) := by decide +kernel
theorem dX8_liveliestHour_25 : decode cX8_liveliestHour 25 = .ok (.iinc 2 1, 3) := by decide +kernel
theorem dX8_liveliestHour_28 : decode cX8_liveliestHour 28 = .ok (.goto (-24), 3) := by decide +kernel
theorem dX8_liveliestHour_31 : decode cX8_liveliestHour 31 = .ok (.iload_n 1, 1) := by decide +kernel
theorem dX8_liveliestHour_32 : decode cX8_liveliestHour 32 = .ok (.ireturn, 1) := by decide +kernel
theorem dX8_takenForTrue_0 : decode cX8_takenForTrue 0 = .ok (.iconst 0, 1) := by decide +kernel
theorem dX8_takenForTrue_1 : decode cX8_takenForTrue 1 = .ok (.istore_n 2, 1) := by decide +kernel
theorem dX8_takenForTrue_2 : decode cX8_takenForTrue 2 = .ok (.iconst 0, 1) := by decide +kernel
theorem dX8_takenForTrue_3 : decode cX8_takenForTrue 3 = .ok (.istore_n 3, 1) := by decide +kernel
theorem dX8_takenForTrue_4 : decode cX8_takenForTrue 4 = .ok (.iload_n 3, 1) := by decide +kernel
theorem dX8_takenForTrue_5 : decode cX8_takenForTrue 5 = .ok (.aload_n 0, 1) := by decide +kernel
theorem dX8_takenForTrue_6 : decode cX8_takenForTrue 6 = .ok (.getfield 44, 3) := by decide +kernel
theorem dX8_takenForTrue_9 : decode cX8_takenForTrue 9 = .ok (.if_icmp .ge 48, 3) := by decide +kernel
theorem dX8_takenForTrue_12 : decode cX8_takenForTrue 12 = .ok (.aload_n 0, 1) := by decide +kernel
theorem dX8_takenForTrue_13 : decode cX8_takenForTrue 13 = .ok (.iload_n 3, 1) := by decide +kernel
theorem dX8_takenForTrue_14 : decode cX8_takenForTrue 14 = .ok (.invokevirtual 29, 3) := by decide +kernel
theorem dX8_takenForTrue_17 : decode cX8_takenForTrue 17 = .ok (.ifCond .ne 34, 3) := by decide +kernel
theorem dX8_takenForTrue_20 : decode cX8_takenForTrue 20 = .ok (.aload_n 0, 1) := by decide +kernel
theorem dX8_takenForTrue_21 : decode cX8_takenForTrue 21 = .ok (.iload_n 3, 1) := by decide +kernel
theorem dX8_takenForTrue_22 : decode cX8_takenForTrue 22 = .ok (.aload_n 0, 1) := by decide +kernel
theorem dX8_takenForTrue_23 : decode cX8_takenForTrue 23 = .ok (.getfield 48, 3) := by decide +kernel
theorem dX8_takenForTrue_26 : decode cX8_takenForTrue 26 = .ok (.invokevirtual 51, 3) := by decide +kernel
theorem dX8_takenForTrue_29 : decode cX8_takenForTrue 29 = .ok (.iload_n 1, 1) := by decide +kernel
theorem dX8_takenForTrue_30 : decode cX8_takenForTrue 30 = .ok (.if_icmp .lt 21, 3) := by decide +kernel
theorem dX8_takenForTrue_33 : decode cX8_takenForTrue 33 = .ok (.aload_n 0, 1) := by decide +kernel
theorem dX8_takenForTrue_34 : decode cX8_takenForTrue 34 = .ok (.iload_n 3, 1) := by decide +kernel
theorem dX8_takenForTrue_35 : decode cX8_takenForTrue 35 = .ok (.aload_n 0, 1) := by decide +kernel
theorem dX8_takenForTrue_36 : decode cX8_takenForTrue 36 = .ok (.getfield 48, 3) := by decide +kernel
theorem dX8_takenForTrue_39 : decode cX8_takenForTrue 39 = .ok (.invokevirtual 55, 3) := by decide +kernel
theorem dX8_takenForTrue_42 : decode cX8_takenForTrue 42 = .ok (.ifCond .ne 9, 3) := by decide +kernel
theorem dX8_takenForTrue_45 : decode cX8_takenForTrue 45 = .ok (.iload_n 2, 1) := by decide +kernel
theorem dX8_takenForTrue_46 : decode cX8_takenForTrue 46 = .ok (.iconst 1, 1) := by decide +kernel
theorem dX8_takenForTrue_47 : decode cX8_takenForTrue 47 = .ok (.iload_n 3, 1) := by decide +kernel
theorem dX8_takenForTrue_48 : decode cX8_takenForTrue 48 = .ok (.ishl, 1) := by decide +kernel
theorem dX8_takenForTrue_49 : decode cX8_takenForTrue 49 = .ok (.ior, 1) := by decide +kernel
theorem dX8_takenForTrue_50 : decode cX8_takenForTrue 50 = .ok (.istore_n 2, 1) := by decide +kernel
theorem dX8_takenForTrue_51 : decode cX8_takenForTrue 51 = .ok (.iinc 3 1, 3) := by decide +kernel
theorem dX8_takenForTrue_54 : decode cX8_takenForTrue 54 = .ok (.goto (-50), 3) := by decide +kernel
theorem dX8_takenForTrue_57 : decode cX8_takenForTrue 57 = .ok (.iload_n 2, 1) := by decide +kernel
theorem dX8_takenForTrue_58 : decode cX8_takenForTrue 58 = .ok (.ireturn, 1) := by decide +kernel
theorem dX8_seemingHour_0 : decode cX8_seemingHour 0 = .ok (.aload_n 0, 1) := by decide +kernel
theorem dX8_seemingHour_1 : decode cX8_seemingHour 1 = .ok (.getfield 58, 3) := by decide +kernel
theorem dX8_seemingHour_4 : decode cX8_seemingHour 4 = .ok (.iload_n 1, 1) := by decide +kernel
theorem dX8_seemingHour_5 : decode cX8_seemingHour 5 = .ok (.iaload, 1) := by decide +kernel
theorem dX8_seemingHour_6 : decode cX8_seemingHour 6 = .ok (.invokestatic 62, 3) := by decide +kernel
theorem dX8_seemingHour_9 : decode cX8_seemingHour 9 = .ok (.ifCond .ne 6, 3) := by decide +kernel
theorem dX8_seemingHour_12 : decode cX8_seemingHour 12 = .ok (.bipush (-4), 2) := by decide +kernel
theorem dX8_seemingHour_14 : decode cX8_seemingHour 14 = .ok (.ireturn, 1) := by decide +kernel
theorem dX8_seemingHour_15 : decode cX8_seemingHour 15 = .ok (.iconst 0, 1) := by decide +kernel
theorem dX8_seemingHour_16 : decode cX8_seemingHour 16 = .ok (.istore_n 2, 1) := by decide +kernel
theorem dX8_seemingHour_17 : decode cX8_seemingHour 17 = .ok (.iconst 1, 1) := by decide +kernel
theorem dX8_seemingHour_18 : decode cX8_seemingHour 18 = .ok (.istore_n 3, 1) := by decide +kernel
theorem dX8_seemingHour_19 : decode cX8_seemingHour 19 = .ok (.iload_n 3, 1) := by decide +kernel
theorem dX8_seemingHour_20 : decode cX8_seemingHour 20 = .ok (.bipush 24, 2) := by decide +kernel
theorem dX8_seemingHour_22 : decode cX8_seemingHour 22 = .ok (.if_icmp .ge 26, 3) := by decide +kernel
theorem dX8_seemingHour_25 : decode cX8_seemingHour 25 = .ok (.aload_n 0, 1) := by decide +kernel
theorem dX8_seemingHour_26 : decode cX8_seemingHour 26 = .ok (.iload_n 1, 1) := by decide +kernel
theorem dX8_seemingHour_27 : decode cX8_seemingHour 27 = .ok (.iload_n 3, 1) := by decide +kernel
theorem dX8_seemingHour_28 : decode cX8_seemingHour 28 = .ok (.invokevirtual 67, 3) := by decide +kernel
theorem dX8_seemingHour_31 : decode cX8_seemingHour 31 = .ok (.aload_n 0, 1) := by decide +kernel
theorem dX8_seemingHour_32 : decode cX8_seemingHour 32 = .ok (.iload_n 1, 1) := by decide +kernel
theorem dX8_seemingHour_33 : decode cX8_seemingHour 33 = .ok (.iload_n 2, 1) := by decide +kernel
theorem dX8_seemingHour_34 : decode cX8_seemingHour 34 = .ok (.invokevirtual 67, 3) := by decide +kernel
theorem dX8_seemingHour_37 : decode cX8_seemingHour 37 = .ok (.if_icmp .le 5, 3) := by decide +kernel
theorem dX8_seemingHour_40 : decode cX8_seemingHour 40 = .ok (.iload_n 3, 1) := by decide +kernel
theorem dX8_seemingHour_41 : decode cX8_seemingHour 41 = .ok (.istore_n 2, 1) := by decide +kernel
theorem dX8_seemingHour_42 : decode cX8_seemingHour 42 = .ok (.iinc 3 1, 3) := by decide +kernel
theorem dX8_seemingHour_45 : decode cX8_seemingHour 45 = .ok (.goto (-26), 3) := by decide +kernel
theorem dX8_seemingHour_48 : decode cX8_seemingHour 48 = .ok (.iload_n 2, 1) := by decide +kernel
theorem dX8_seemingHour_49 : decode cX8_seemingHour 49 = .ok (.ireturn, 1) := by decide +kernel
theorem dX8_addressed_0 : decode cX8_addressed 0 = .ok (.bipush (-4), 2) := by decide +kernel
theorem dX8_addressed_2 : decode cX8_addressed 2 = .ok (.istore_n 2, 1) := by decide +kernel
theorem dX8_addressed_3 : decode cX8_addressed 3 = .ok (.iconst 0, 1) := by decide +kernel
theorem dX8_addressed_4 : decode cX8_addressed 4 = .ok (.istore_n 3, 1) := by decide +kernel
theorem dX8_addressed_5 : decode cX8_addressed 5 = .ok (.iload_n 3, 1) := by decide +kernel
theorem dX8_addressed_6 : decode cX8_addressed 6 = .ok (.aload_n 0, 1) := by decide +kernel
theorem dX8_addressed_7 : decode cX8_addressed 7 = .ok (.getfield 44, 3) := by decide +kernel
theorem dX8_addressed_10 : decode cX8_addressed 10 = .ok (.if_icmp .ge 34, 3) := by decide +kernel
theorem dX8_addressed_13 : decode cX8_addressed 13 = .ok (.aload_n 0, 1) := by decide +kernel
theorem dX8_addressed_14 : decode cX8_addressed 14 = .ok (.iload_n 3, 1) := by decide +kernel
theorem dX8_addressed_15 : decode cX8_addressed 15 = .ok (.iload_n 1, 1) := by decide +kernel
theorem dX8_addressed_16 : decode cX8_addressed 16 = .ok (.invokevirtual 51, 3) := by decide +kernel
theorem dX8_addressed_19 : decode cX8_addressed 19 = .ok (.ifCond .le 19, 3) := by decide +kernel
theorem dX8_addressed_22 : decode cX8_addressed 22 = .ok (.iload_n 2, 1) := by decide +kernel
theorem dX8_addressed_23 : decode cX8_addressed 23 = .ok (.ifCond .lt 13, 3) := by decide +kernel
theorem dX8_addressed_26 : decode cX8_addressed 26 = .ok (.aload_n 0, 1) := by decide +kernel
theorem dX8_addressed_27 : decode cX8_addressed 27 = .ok (.iload_n 3, 1) := by decide +kernel
theorem dX8_addressed_28 : decode cX8_addressed 28 = .ok (.iload_n 2, 1) := by decide +kernel
theorem dX8_addressed_29 : decode cX8_addressed 29 = .ok (.iload_n 1, 1) := by decide +kernel
theorem dX8_addressed_30 : decode cX8_addressed 30 = .ok (.invokestatic 70, 3) := by decide +kernel
theorem dX8_addressed_33 : decode cX8_addressed 33 = .ok (.ifCond .eq 5, 3) := by decide +kernel
theorem dX8_addressed_36 : decode cX8_addressed 36 = .ok (.iload_n 3, 1) := by decide +kernel
theorem dX8_addressed_37 : decode cX8_addressed 37 = .ok (.istore_n 2, 1) := by decide +kernel
theorem dX8_addressed_38 : decode cX8_addressed 38 = .ok (.iinc 3 1, 3) := by decide +kernel
theorem dX8_addressed_41 : decode cX8_addressed 41 = .ok (.goto (-36), 3) := by decide +kernel
theorem dX8_addressed_44 : decode cX8_addressed 44 = .ok (.iload_n 2, 1) := by decide +kernel
theorem dX8_addressed_45 : decode cX8_addressed 45 = .ok (.ireturn, 1) := by decide +kernel
theorem dX8_isPreferred_0 : decode cX8_isPreferred 0 = .ok (.aload_n 0, 1) := by decide +kernel
theorem dX8_isPreferred_1 : decode cX8_isPreferred 1 = .ok (.iload_n 1, 1) := by decide +kernel
theorem dX8_isPreferred_2 : decode cX8_isPreferred 2 = .ok (.iload_n 3, 1) := by decide +kernel
theorem dX8_isPreferred_3 : decode cX8_isPreferred 3 = .ok (.invokevirtual 51, 3) := by decide +kernel
theorem dX8_isPreferred_6 : decode cX8_isPreferred 6 = .ok (.istore 4, 2) := by decide +kernel
theorem dX8_isPreferred_8 : decode cX8_isPreferred 8 = .ok (.aload_n 0, 1) := by decide +kernel
theorem dX8_isPreferred_9 : decode cX8_isPreferred 9 = .ok (.iload_n 2, 1) := by decide +kernel
theorem dX8_isPreferred_10 : decode cX8_isPreferred 10 = .ok (.iload_n 3, 1) := by decide +kernel
theorem dX8_isPreferred_11 : decode cX8_isPreferred 11 = .ok (.invokevirtual 51, 3) := by decide +kernel
theorem dX8_isPreferred_14 : decode cX8_isPreferred 14 = .ok (.istore 5, 2) := by decide +kernel
theorem dX8_isPreferred_16 : decode cX8_isPreferred 16 = .ok (.iload 4, 2) := by decide +kernel
theorem dX8_isPreferred_18 : decode cX8_isPreferred 18 = .ok (.iload 5, 2) := by decide +kernel
theorem dX8_isPreferred_20 : decode cX8_isPreferred 20 = .ok (.if_icmp .gt 25, 3) := by decide +kernel
theorem dX8_isPreferred_23 : decode cX8_isPreferred 23 = .ok (.iload 4, 2) := by decide +kernel
theorem dX8_isPreferred_25 : decode cX8_isPreferred 25 = .ok (.iload 5, 2) := by decide +kernel
theorem dX8_isPreferred_27 : decode cX8_isPreferred 27 = .ok (.if_icmp .ne 22, 3) := by decide +kernel
theorem dX8_isPreferred_30 : decode cX8_isPreferred 30 = .ok (.aload_n 0, 1) := by decide +kernel
theorem dX8_isPreferred_31 : decode cX8_isPreferred 31 = .ok (.getfield 74, 3) := by decide +kernel
theorem dX8_isPreferred_34 : decode cX8_isPreferred 34 = .ok (.iload_n 1, 1) := by decide +kernel
theorem dX8_isPreferred_35 : decode cX8_isPreferred 35 = .ok (.iaload, 1) := by decide +kernel
theorem dX8_isPreferred_36 : decode cX8_isPreferred 36 = .ok (.aload_n 0, 1) := by decide +kernel
theorem dX8_isPreferred_37 : decode cX8_isPreferred 37 = .ok (.getfield 74, 3) := by decide +kernel
theorem dX8_isPreferred_40 : decode cX8_isPreferred 40 = .ok (.iload_n 2, 1) := by decide +kernel
theorem dX8_isPreferred_41 : decode cX8_isPreferred 41 = .ok (.iaload, 1) := by decide +kernel
theorem dX8_isPreferred_42 : decode cX8_isPreferred 42 = .ok (.if_icmp .le 7, 3) := by decide +kernel
theorem dX8_isPreferred_45 : decode cX8_isPreferred 45 = .ok (.iconst 1, 1) := by decide +kernel
theorem dX8_isPreferred_46 : decode cX8_isPreferred 46 = .ok (.goto 4, 3) := by decide +kernel
theorem dX8_isPreferred_49 : decode cX8_isPreferred 49 = .ok (.iconst 0, 1) := by decide +kernel
theorem dX8_isPreferred_50 : decode cX8_isPreferred 50 = .ok (.ireturn, 1) := by decide +kernel
theorem dX8_daysToAnother_0 : decode cX8_daysToAnother 0 = .ok (.aload_n 0, 1) := by decide +kernel
theorem dX8_daysToAnother_1 : decode cX8_daysToAnother 1 = .ok (.aload_n 0, 1) := by decide +kernel
theorem dX8_daysToAnother_2 : decode cX8_daysToAnother 2 = .ok (.getfield 48, 3) := by decide +kernel
theorem dX8_daysToAnother_5 : decode cX8_daysToAnother 5 = .ok (.invokestatic 77, 3) := by decide +kernel
theorem dX8_daysToAnother_8 : decode cX8_daysToAnother 8 = .ok (.istore_n 1, 1) := by decide +kernel
theorem dX8_daysToAnother_9 : decode cX8_daysToAnother 9 = .ok (.iload_n 1, 1) := by decide +kernel
theorem dX8_daysToAnother_10 : decode cX8_daysToAnother 10 = .ok (.ifCond .ge 6, 3) := by decide +kernel
theorem dX8_daysToAnother_13 : decode cX8_daysToAnother 13 = .ok (.bipush (-4), 2) := by decide +kernel
theorem dX8_daysToAnother_15 : decode cX8_daysToAnother 15 = .ok (.ireturn, 1) := by decide +kernel
theorem dX8_daysToAnother_16 : decode cX8_daysToAnother 16 = .ok (.iconst 1, 1) := by decide +kernel
theorem dX8_daysToAnother_17 : decode cX8_daysToAnother 17 = .ok (.istore_n 2, 1) := by decide +kernel
theorem dX8_daysToAnother_18 : decode cX8_daysToAnother 18 = .ok (.iload_n 2, 1) := by decide +kernel
theorem dX8_daysToAnother_19 : decode cX8_daysToAnother 19 = .ok (.bipush 24, 2) := by decide +kernel
theorem dX8_daysToAnother_21 : decode cX8_daysToAnother 21 = .ok (.if_icmp .ge 34, 3) := by decide +kernel
theorem dX8_daysToAnother_24 : decode cX8_daysToAnother 24 = .ok (.aload_n 0, 1) := by decide +kernel
theorem dX8_daysToAnother_25 : decode cX8_daysToAnother 25 = .ok (.aload_n 0, 1) := by decide +kernel
theorem dX8_daysToAnother_26 : decode cX8_daysToAnother 26 = .ok (.getfield 48, 3) := by decide +kernel
theorem dX8_daysToAnother_29 : decode cX8_daysToAnother 29 = .ok (.iload_n 2, 1) := by decide +kernel
theorem dX8_daysToAnother_30 : decode cX8_daysToAnother 30 = .ok (.iadd, 1) := by decide +kernel
theorem dX8_daysToAnother_31 : decode cX8_daysToAnother 31 = .ok (.bipush 24, 2) := by decide +kernel
theorem dX8_daysToAnother_33 : decode cX8_daysToAnother 33 = .ok (.irem, 1) := by decide +kernel
theorem dX8_daysToAnother_34 : decode cX8_daysToAnother 34 = .ok (.invokestatic 77, 3) := by decide +kernel
theorem dX8_daysToAnother_37 : decode cX8_daysToAnother 37 = .ok (.istore_n 3, 1) := by decide +kernel
theorem dX8_daysToAnother_38 : decode cX8_daysToAnother 38 = .ok (.iload_n 3, 1) := by decide +kernel
theorem dX8_daysToAnother_39 : decode cX8_daysToAnother 39 = .ok (.ifCond .lt 10, 3) := by decide +kernel
theorem dX8_daysToAnother_42 : decode cX8_daysToAnother 42 = .ok (.iload_n 3, 1) := by decide +kernel
theorem dX8_daysToAnother_43 : decode cX8_daysToAnother 43 = .ok (.iload_n 1, 1) := by decide +kernel
theorem dX8_daysToAnother_44 : decode cX8_daysToAnother 44 = .ok (.if_icmp .eq 5, 3) := by decide +kernel
theorem dX8_daysToAnother_47 : decode cX8_daysToAnother 47 = .ok (.iload_n 2, 1) := by decide +kernel
theorem dX8_daysToAnother_48 : decode cX8_daysToAnother 48 = .ok (.ireturn, 1) := by decide +kernel
theorem dX8_daysToAnother_49 : decode cX8_daysToAnother 49 = .ok (.iinc 2 1, 3) := by decide +kernel
theorem dX8_daysToAnother_52 : decode cX8_daysToAnother 52 = .ok (.goto (-34), 3) := by decide +kernel
theorem dX8_daysToAnother_55 : decode cX8_daysToAnother 55 = .ok (.bipush (-4), 2) := by decide +kernel
theorem dX8_daysToAnother_57 : decode cX8_daysToAnother 57 = .ok (.ireturn, 1) := by decide +kernel
theorem dX8_twinPairs_0 : decode cX8_twinPairs 0 = .ok (.iconst 0, 1) := by decide +kernel
theorem dX8_twinPairs_1 : decode cX8_twinPairs 1 = .ok (.istore_n 1, 1) := by decide +kernel
theorem dX8_twinPairs_2 : decode cX8_twinPairs 2 = .ok (.iconst 0, 1) := by decide +kernel
theorem dX8_twinPairs_3 : decode cX8_twinPairs 3 = .ok (.istore_n 2, 1) := by decide +kernel
theorem dX8_twinPairs_4 : decode cX8_twinPairs 4 = .ok (.iload_n 2, 1) := by decide +kernel
theorem dX8_twinPairs_5 : decode cX8_twinPairs 5 = .ok (.aload_n 0, 1) := by decide +kernel
theorem dX8_twinPairs_6 : decode cX8_twinPairs 6 = .ok (.getfield 44, 3) := by decide +kernel
theorem dX8_twinPairs_9 : decode cX8_twinPairs 9 = .ok (.if_icmp .ge 39, 3) := by decide +kernel
theorem dX8_twinPairs_12 : decode cX8_twinPairs 12 = .ok (.iload_n 2, 1) := by decide +kernel
theorem dX8_twinPairs_13 : decode cX8_twinPairs 13 = .ok (.iconst 1, 1) := by decide +kernel
theorem dX8_twinPairs_14 : decode cX8_twinPairs 14 = .ok (.iadd, 1) := by decide +kernel
theorem dX8_twinPairs_15 : decode cX8_twinPairs 15 = .ok (.istore_n 3, 1) := by decide +kernel
theorem dX8_twinPairs_16 : decode cX8_twinPairs 16 = .ok (.iload_n 3, 1) := by decide +kernel
theorem dX8_twinPairs_17 : decode cX8_twinPairs 17 = .ok (.aload_n 0, 1) := by decide +kernel
theorem dX8_twinPairs_18 : decode cX8_twinPairs 18 = .ok (.getfield 44, 3) := by decide +kernel
theorem dX8_twinPairs_21 : decode cX8_twinPairs 21 = .ok (.if_icmp .ge 21, 3) := by decide +kernel
theorem dX8_twinPairs_24 : decode cX8_twinPairs 24 = .ok (.aload_n 0, 1) := by decide +kernel
theorem dX8_twinPairs_25 : decode cX8_twinPairs 25 = .ok (.iload_n 2, 1) := by decide +kernel
theorem dX8_twinPairs_26 : decode cX8_twinPairs 26 = .ok (.iload_n 3, 1) := by decide +kernel
theorem dX8_twinPairs_27 : decode cX8_twinPairs 27 = .ok (.invokestatic 80, 3) := by decide +kernel
theorem dX8_twinPairs_30 : decode cX8_twinPairs 30 = .ok (.ifCond .eq 6, 3) := by decide +kernel
theorem dX8_twinPairs_33 : decode cX8_twinPairs 33 = .ok (.iinc 1 1, 3) := by decide +kernel
theorem dX8_twinPairs_36 : decode cX8_twinPairs 36 = .ok (.iinc 3 1, 3) := by decide +kernel
theorem dX8_twinPairs_39 : decode cX8_twinPairs 39 = .ok (.goto (-23), 3) := by decide +kernel
theorem dX8_twinPairs_42 : decode cX8_twinPairs 42 = .ok (.iinc 2 1, 3) := by decide +kernel
theorem dX8_twinPairs_45 : decode cX8_twinPairs 45 = .ok (.goto (-41), 3) := by decide +kernel
theorem dX8_twinPairs_48 : decode cX8_twinPairs 48 = .ok (.iload_n 1, 1) := by decide +kernel
theorem dX8_twinPairs_49 : decode cX8_twinPairs 49 = .ok (.ireturn, 1) := by decide +kernel
theorem dX8_firstTwins_0 : decode cX8_firstTwins 0 = .ok (.iconst 0, 1) := by decide +kernel
theorem dX8_firstTwins_1 : decode cX8_firstTwins 1 = .ok (.istore_n 1, 1) := by decide +kernel
theorem dX8_firstTwins_2 : decode cX8_firstTwins 2 = .ok (.iload_n 1, 1) := by decide +kernel
theorem dX8_firstTwins_3 : decode cX8_firstTwins 3 = .ok (.aload_n 0, 1) := by decide +kernel
theorem dX8_firstTwins_4 : decode cX8_firstTwins 4 = .ok (.getfield 44, 3) := by decide +kernel
theorem dX8_firstTwins_7 : decode cX8_firstTwins 7 = .ok (.if_icmp .ge 43, 3) := by decide +kernel
theorem dX8_firstTwins_10 : decode cX8_firstTwins 10 = .ok (.iload_n 1, 1) := by decide +kernel
theorem dX8_firstTwins_11 : decode cX8_firstTwins 11 = .ok (.iconst 1, 1) := by decide +kernel
theorem dX8_firstTwins_12 : decode cX8_firstTwins 12 = .ok (.iadd, 1) := by decide +kernel
theorem dX8_firstTwins_13 : decode cX8_firstTwins 13 = .ok (.istore_n 2, 1) := by decide +kernel
theorem dX8_firstTwins_14 : decode cX8_firstTwins 14 = .ok (.iload_n 2, 1) := by decide +kernel
theorem dX8_firstTwins_15 : decode cX8_firstTwins 15 = .ok (.aload_n 0, 1) := by decide +kernel
theorem dX8_firstTwins_16 : decode cX8_firstTwins 16 = .ok (.getfield 44, 3) := by decide +kernel
theorem dX8_firstTwins_19 : decode cX8_firstTwins 19 = .ok (.if_icmp .ge 25, 3) := by decide +kernel
theorem dX8_firstTwins_22 : decode cX8_firstTwins 22 = .ok (.aload_n 0, 1) := by decide +kernel
theorem dX8_firstTwins_23 : decode cX8_firstTwins 23 = .ok (.iload_n 1, 1) := by decide +kernel
theorem dX8_firstTwins_24 : decode cX8_firstTwins 24 = .ok (.iload_n 2, 1) := by decide +kernel
theorem dX8_firstTwins_25 : decode cX8_firstTwins 25 = .ok (.invokestatic 80, 3) := by decide +kernel
theorem dX8_firstTwins_28 : decode cX8_firstTwins 28 = .ok (.ifCond .eq 10, 3) := by decide +kernel
theorem dX8_firstTwins_31 : decode cX8_firstTwins 31 = .ok (.bipush 10, 2) := by decide +kernel
theorem dX8_firstTwins_33 : decode cX8_firstTwins 33 = .ok (.iload_n 1, 1) := by decide +kernel
theorem dX8_firstTwins_34 : decode cX8_firstTwins 34 = .ok (.imul, 1) := by decide +kernel
theorem dX8_firstTwins_35 : decode cX8_firstTwins 35 = .ok (.iload_n 2, 1) := by decide +kernel
theorem dX8_firstTwins_36 : decode cX8_firstTwins 36 = .ok (.iadd, 1) := by decide +kernel
theorem dX8_firstTwins_37 : decode cX8_firstTwins 37 = .ok (.ireturn, 1) := by decide +kernel
theorem dX8_firstTwins_38 : decode cX8_firstTwins 38 = .ok (.iinc 2 1, 3) := by decide +kernel
theorem dX8_firstTwins_41 : decode cX8_firstTwins 41 = .ok (.goto (-27), 3) := by decide +kernel
theorem dX8_firstTwins_44 : decode cX8_firstTwins 44 = .ok (.iinc 1 1, 3) := by decide +kernel
theorem dX8_firstTwins_47 : decode cX8_firstTwins 47 = .ok (.goto (-45), 3) := by decide +kernel
theorem dX8_firstTwins_50 : decode cX8_firstTwins 50 = .ok (.bipush (-4), 2) := by decide +kernel
theorem dX8_firstTwins_52 : decode cX8_firstTwins 52 = .ok (.ireturn, 1) := by decide +kernel
theorem dX8_areTwins_0 : decode cX8_areTwins 0 = .ok (.iconst 0, 1) := by decide +kernel
theorem dX8_areTwins_1 : decode cX8_areTwins 1 = .ok (.istore_n 3, 1) := by decide +kernel
theorem dX8_areTwins_2 : decode cX8_areTwins 2 = .ok (.iload_n 3, 1) := by decide +kernel
theorem dX8_areTwins_3 : decode cX8_areTwins 3 = .ok (.bipush 24, 2) := by decide +kernel
theorem dX8_areTwins_5 : decode cX8_areTwins 5 = .ok (.if_icmp .ge 41, 3) := by decide +kernel
theorem dX8_areTwins_8 : decode cX8_areTwins 8 = .ok (.aload_n 0, 1) := by decide +kernel
theorem dX8_areTwins_9 : decode cX8_areTwins 9 = .ok (.iload_n 1, 1) := by decide +kernel
theorem dX8_areTwins_10 : decode cX8_areTwins 10 = .ok (.iload_n 3, 1) := by decide +kernel
theorem dX8_areTwins_11 : decode cX8_areTwins 11 = .ok (.invokevirtual 55, 3) := by decide +kernel
theorem dX8_areTwins_14 : decode cX8_areTwins 14 = .ok (.aload_n 0, 1) := by decide +kernel
theorem dX8_areTwins_15 : decode cX8_areTwins 15 = .ok (.iload_n 2, 1) := by decide +kernel
theorem dX8_areTwins_16 : decode cX8_areTwins 16 = .ok (.iload_n 3, 1) := by decide +kernel
theorem dX8_areTwins_17 : decode cX8_areTwins 17 = .ok (.invokevirtual 55, 3) := by decide +kernel
theorem dX8_areTwins_20 : decode cX8_areTwins 20 = .ok (.if_icmp .ne 18, 3) := by decide +kernel
theorem dX8_areTwins_23 : decode cX8_areTwins 23 = .ok (.aload_n 0, 1) := by decide +kernel
theorem dX8_areTwins_24 : decode cX8_areTwins 24 = .ok (.iload_n 1, 1) := by decide +kernel
theorem dX8_areTwins_25 : decode cX8_areTwins 25 = .ok (.iload_n 3, 1) := by decide +kernel
theorem dX8_areTwins_26 : decode cX8_areTwins 26 = .ok (.invokevirtual 36, 3) := by decide +kernel
theorem dX8_areTwins_29 : decode cX8_areTwins 29 = .ok (.aload_n 0, 1) := by decide +kernel
theorem dX8_areTwins_30 : decode cX8_areTwins 30 = .ok (.iload_n 2, 1) := by decide +kernel
theorem dX8_areTwins_31 : decode cX8_areTwins 31 = .ok (.iload_n 3, 1) := by decide +kernel
theorem dX8_areTwins_32 : decode cX8_areTwins 32 = .ok (.invokevirtual 36, 3) := by decide +kernel
theorem dX8_areTwins_35 : decode cX8_areTwins 35 = .ok (.if_icmp .eq 5, 3) := by decide +kernel
theorem dX8_areTwins_38 : decode cX8_areTwins 38 = .ok (.iconst 0, 1) := by decide +kernel
theorem dX8_areTwins_39 : decode cX8_areTwins 39 = .ok (.ireturn, 1) := by decide +kernel
theorem dX8_areTwins_40 : decode cX8_areTwins 40 = .ok (.iinc 3 1, 3) := by decide +kernel
theorem dX8_areTwins_43 : decode cX8_areTwins 43 = .ok (.goto (-41), 3) := by decide +kernel
theorem dX8_areTwins_46 : decode cX8_areTwins 46 = .ok (.iconst 1, 1) := by decide +kernel
theorem dX8_areTwins_47 : decode cX8_areTwins 47 = .ok (.ireturn, 1) := by decide +kernel
