theorem dX0_init_0 : decode cX0_init 0 = .ok (.aload_n 0, 1) := by decide +kernel
theorem dX0_init_1 : decode cX0_init 1 = .ok (.bipush 10, 2) := by decide +kernel
theorem dX0_init_3 : decode cX0_init 3 = .ok (.invokespecial 3, 3) := by decide +kernel
theorem dX0_init_6 : decode cX0_init 6 = .ok (.return_, 1) := by decide +kernel
theorem dX0_listOne_0 : decode cX0_listOne 0 = .ok (.iconst 1, 1) := by decide +kernel
theorem dX0_listOne_1 : decode cX0_listOne 1 = .ok (.istore_n 2, 1) := by decide +kernel
theorem dX0_listOne_2 : decode cX0_listOne 2 = .ok (.iload_n 2, 1) := by decide +kernel
theorem dX0_listOne_3 : decode cX0_listOne 3 = .ok (.bipush 32, 2) := by decide +kernel
theorem dX0_listOne_5 : decode cX0_listOne 5 = .ok (.if_icmp .ge 50, 3) := by decide +kernel
theorem dX0_listOne_8 : decode cX0_listOne 8 = .ok (.iload_n 2, 1) := by decide +kernel
theorem dX0_listOne_9 : decode cX0_listOne 9 = .ok (.invokestatic 11, 3) := by decide +kernel
theorem dX0_listOne_12 : decode cX0_listOne 12 = .ok (.aload_n 0, 1) := by decide +kernel
theorem dX0_listOne_13 : decode cX0_listOne 13 = .ok (.getfield 17, 3) := by decide +kernel
theorem dX0_listOne_16 : decode cX0_listOne 16 = .ok (.iload_n 1, 1) := by decide +kernel
theorem dX0_listOne_17 : decode cX0_listOne 17 = .ok (.invokevirtual 21, 3) := by decide +kernel
theorem dX0_listOne_20 : decode cX0_listOne 20 = .ok (.if_icmp .ne 29, 3) := by decide +kernel
theorem dX0_listOne_23 : decode cX0_listOne 23 = .ok (.aload_n 0, 1) := by decide +kernel
theorem dX0_listOne_24 : decode cX0_listOne 24 = .ok (.iload_n 1, 1) := by decide +kernel
theorem dX0_listOne_25 : decode cX0_listOne 25 = .ok (.iload_n 2, 1) := by decide +kernel
theorem dX0_listOne_26 : decode cX0_listOne 26 = .ok (.invokevirtual 26, 3) := by decide +kernel
theorem dX0_listOne_29 : decode cX0_listOne 29 = .ok (.istore_n 3, 1) := by decide +kernel
theorem dX0_listOne_30 : decode cX0_listOne 30 = .ok (.iload_n 3, 1) := by decide +kernel
theorem dX0_listOne_31 : decode cX0_listOne 31 = .ok (.bipush (-2), 2) := by decide +kernel
theorem dX0_listOne_33 : decode cX0_listOne 33 = .ok (.if_icmp .eq 16, 3) := by decide +kernel
theorem dX0_listOne_36 : decode cX0_listOne 36 = .ok (.aload_n 0, 1) := by decide +kernel
theorem dX0_listOne_37 : decode cX0_listOne 37 = .ok (.iload_n 1, 1) := by decide +kernel
theorem dX0_listOne_38 : decode cX0_listOne 38 = .ok (.iload_n 3, 1) := by decide +kernel
theorem dX0_listOne_39 : decode cX0_listOne 39 = .ok (.iload_n 2, 1) := by decide +kernel
theorem dX0_listOne_40 : decode cX0_listOne 40 = .ok (.aload_n 0, 1) := by decide +kernel
theorem dX0_listOne_41 : decode cX0_listOne 41 = .ok (.iload_n 1, 1) := by decide +kernel
theorem dX0_listOne_42 : decode cX0_listOne 42 = .ok (.iload_n 2, 1) := by decide +kernel
theorem dX0_listOne_43 : decode cX0_listOne 43 = .ok (.invokevirtual 30, 3) := by decide +kernel
theorem dX0_listOne_46 : decode cX0_listOne 46 = .ok (.invokevirtual 33, 3) := by decide +kernel
theorem dX0_listOne_49 : decode cX0_listOne 49 = .ok (.iinc 2 1, 3) := by decide +kernel
theorem dX0_listOne_52 : decode cX0_listOne 52 = .ok (.goto (-50), 3) := by decide +kernel
theorem dX0_listOne_55 : decode cX0_listOne 55 = .ok (.return_, 1) := by decide +kernel
theorem dX0_stretch_0 : decode cX0_stretch 0 = .ok (.iconst 0, 1) := by decide +kernel
theorem dX0_stretch_1 : decode cX0_stretch 1 = .ok (.istore_n 3, 1) := by decide +kernel
theorem dX0_stretch_2 : decode cX0_stretch 2 = .ok (.iload_n 2, 1) := by decide +kernel
theorem dX0_stretch_3 : decode cX0_stretch 3 = .ok (.iconst 0, 1) := by decide +kernel
theorem dX0_stretch_4 : decode cX0_stretch 4 = .ok (.invokestatic 37, 3) := by decide +kernel
theorem dX0_stretch_7 : decode cX0_stretch 7 = .ok (.istore 4, 2) := by decide +kernel
theorem dX0_stretch_9 : decode cX0_stretch 9 = .ok (.iconst 1, 1) := by decide +kernel
theorem dX0_stretch_10 : decode cX0_stretch 10 = .ok (.istore 5, 2) := by decide +kernel
theorem dX0_stretch_12 : decode cX0_stretch 12 = .ok (.iload 5, 2) := by decide +kernel
theorem dX0_stretch_14 : decode cX0_stretch 14 = .ok (.aload_n 0, 1) := by decide +kernel
theorem dX0_stretch_15 : decode cX0_stretch 15 = .ok (.getfield 17, 3) := by decide +kernel
theorem dX0_stretch_18 : decode cX0_stretch 18 = .ok (.iload_n 1, 1) := by decide +kernel
theorem dX0_stretch_19 : decode cX0_stretch 19 = .ok (.invokevirtual 21, 3) := by decide +kernel
theorem dX0_stretch_22 : decode cX0_stretch 22 = .ok (.if_icmp .ge 109, 3) := by decide +kernel
theorem dX0_stretch_25 : decode cX0_stretch 25 = .ok (.iload_n 2, 1) := by decide +kernel
theorem dX0_stretch_26 : decode cX0_stretch 26 = .ok (.iload 4, 2) := by decide +kernel
theorem dX0_stretch_28 : decode cX0_stretch 28 = .ok (.invokestatic 37, 3) := by decide +kernel
theorem dX0_stretch_31 : decode cX0_stretch 31 = .ok (.istore 6, 2) := by decide +kernel
theorem dX0_stretch_33 : decode cX0_stretch 33 = .ok (.iload 6, 2) := by decide +kernel
theorem dX0_stretch_35 : decode cX0_stretch 35 = .ok (.iload 4, 2) := by decide +kernel
theorem dX0_stretch_37 : decode cX0_stretch 37 = .ok (.isub, 1) := by decide +kernel
theorem dX0_stretch_38 : decode cX0_stretch 38 = .ok (.istore 7, 2) := by decide +kernel
theorem dX0_stretch_40 : decode cX0_stretch 40 = .ok (.iload 4, 2) := by decide +kernel
theorem dX0_stretch_42 : decode cX0_stretch 42 = .ok (.iconst 1, 1) := by decide +kernel
theorem dX0_stretch_43 : decode cX0_stretch 43 = .ok (.if_icmp .ne 7, 3) := by decide +kernel
theorem dX0_stretch_46 : decode cX0_stretch 46 = .ok (.iconst 1, 1) := by decide +kernel
theorem dX0_stretch_47 : decode cX0_stretch 47 = .ok (.goto 4, 3) := by decide +kernel
theorem dX0_stretch_50 : decode cX0_stretch 50 = .ok (.iconst 0, 1) := by decide +kernel
theorem dX0_stretch_51 : decode cX0_stretch 51 = .ok (.istore 8, 2) := by decide +kernel
theorem dX0_stretch_53 : decode cX0_stretch 53 = .ok (.aload_n 0, 1) := by decide +kernel
theorem dX0_stretch_54 : decode cX0_stretch 54 = .ok (.iload_n 1, 1) := by decide +kernel
theorem dX0_stretch_55 : decode cX0_stretch 55 = .ok (.iload 5, 2) := by decide +kernel
theorem dX0_stretch_57 : decode cX0_stretch 57 = .ok (.invokevirtual 40, 3) := by decide +kernel
theorem dX0_stretch_60 : decode cX0_stretch 60 = .ok (.aload_n 0, 1) := by decide +kernel
theorem dX0_stretch_61 : decode cX0_stretch 61 = .ok (.iload_n 1, 1) := by decide +kernel
theorem dX0_stretch_62 : decode cX0_stretch 62 = .ok (.iload 5, 2) := by decide +kernel
theorem dX0_stretch_64 : decode cX0_stretch 64 = .ok (.iconst 1, 1) := by decide +kernel
theorem dX0_stretch_65 : decode cX0_stretch 65 = .ok (.isub, 1) := by decide +kernel
theorem dX0_stretch_66 : decode cX0_stretch 66 = .ok (.invokevirtual 40, 3) := by decide +kernel
theorem dX0_stretch_69 : decode cX0_stretch 69 = .ok (.isub, 1) := by decide +kernel
theorem dX0_stretch_70 : decode cX0_stretch 70 = .ok (.invokestatic 43, 3) := by decide +kernel
theorem dX0_stretch_73 : decode cX0_stretch 73 = .ok (.istore 9, 2) := by decide +kernel
theorem dX0_stretch_75 : decode cX0_stretch 75 = .ok (.iload 9, 2) := by decide +kernel
theorem dX0_stretch_77 : decode cX0_stretch 77 = .ok (.iconst 3, 1) := by decide +kernel
theorem dX0_stretch_78 : decode cX0_stretch 78 = .ok (.iload 7, 2) := by decide +kernel
theorem dX0_stretch_80 : decode cX0_stretch 80 = .ok (.imul, 1) := by decide +kernel
theorem dX0_stretch_81 : decode cX0_stretch 81 = .ok (.iconst 4, 1) := by decide +kernel
theorem dX0_stretch_82 : decode cX0_stretch 82 = .ok (.iload 8, 2) := by decide +kernel
theorem dX0_stretch_84 : decode cX0_stretch 84 = .ok (.imul, 1) := by decide +kernel
theorem dX0_stretch_85 : decode cX0_stretch 85 = .ok (.iadd, 1) := by decide +kernel
theorem dX0_stretch_86 : decode cX0_stretch 86 = .ok (.if_icmp .le 6, 3) := by decide +kernel
theorem dX0_stretch_89 : decode cX0_stretch 89 = .ok (.bipush (-2), 2) := by decide +kernel
theorem dX0_stretch_91 : decode cX0_stretch 91 = .ok (.ireturn, 1) := by decide +kernel
theorem dX0_stretch_92 : decode cX0_stretch 92 = .ok (.iload_n 3, 1) := by decide +kernel
theorem dX0_stretch_93 : decode cX0_stretch 93 = .ok (.iconst 0, 1) := by decide +kernel
theorem dX0_stretch_94 : decode cX0_stretch 94 = .ok (.iload 9, 2) := by decide +kernel
theorem dX0_stretch_96 : decode cX0_stretch 96 = .ok (.iconst 2, 1) := by decide +kernel
theorem dX0_stretch_97 : decode cX0_stretch 97 = .ok (.iload 7, 2) := by decide +kernel
theorem dX0_stretch_99 : decode cX0_stretch 99 = .ok (.imul, 1) := by decide +kernel
theorem dX0_stretch_100 : decode cX0_stretch 100 = .ok (.isub, 1) := by decide +kernel
theorem dX0_stretch_101 : decode cX0_stretch 101 = .ok (.iconst 2, 1) := by decide +kernel
theorem dX0_stretch_102 : decode cX0_stretch 102 = .ok (.iload 8, 2) := by decide +kernel
theorem dX0_stretch_104 : decode cX0_stretch 104 = .ok (.imul, 1) := by decide +kernel
theorem dX0_stretch_105 : decode cX0_stretch 105 = .ok (.isub, 1) := by decide +kernel
theorem dX0_stretch_106 : decode cX0_stretch 106 = .ok (.invokestatic 48, 3) := by decide +kernel
theorem dX0_stretch_109 : decode cX0_stretch 109 = .ok (.iconst 0, 1) := by decide +kernel
theorem dX0_stretch_110 : decode cX0_stretch 110 = .ok (.iload 7, 2) := by decide +kernel
theorem dX0_stretch_112 : decode cX0_stretch 112 = .ok (.iload 9, 2) := by decide +kernel
theorem dX0_stretch_114 : decode cX0_stretch 114 = .ok (.isub, 1) := by decide +kernel
theorem dX0_stretch_115 : decode cX0_stretch 115 = .ok (.invokestatic 48, 3) := by decide +kernel
theorem dX0_stretch_118 : decode cX0_stretch 118 = .ok (.iadd, 1) := by decide +kernel
theorem dX0_stretch_119 : decode cX0_stretch 119 = .ok (.iadd, 1) := by decide +kernel
theorem dX0_stretch_120 : decode cX0_stretch 120 = .ok (.istore_n 3, 1) := by decide +kernel
theorem dX0_stretch_121 : decode cX0_stretch 121 = .ok (.iload 6, 2) := by decide +kernel
theorem dX0_stretch_123 : decode cX0_stretch 123 = .ok (.istore 4, 2) := by decide +kernel
theorem dX0_stretch_125 : decode cX0_stretch 125 = .ok (.iinc 5 1, 3) := by decide +kernel
theorem dX0_stretch_128 : decode cX0_stretch 128 = .ok (.goto (-116), 3) := by decide +kernel
theorem dX0_stretch_131 : decode cX0_stretch 131 = .ok (.iload_n 3, 1) := by decide +kernel
theorem dX0_stretch_132 : decode cX0_stretch 132 = .ok (.ireturn, 1) := by decide +kernel
theorem dX0_fingerAbove_0 : decode cX0_fingerAbove 0 = .ok (.iload_n 1, 1) := by decide +kernel
theorem dX0_fingerAbove_1 : decode cX0_fingerAbove 1 = .ok (.iconst 1, 1) := by decide +kernel
theorem dX0_fingerAbove_2 : decode cX0_fingerAbove 2 = .ok (.iadd, 1) := by decide +kernel
theorem dX0_fingerAbove_3 : decode cX0_fingerAbove 3 = .ok (.istore_n 2, 1) := by decide +kernel
theorem dX0_fingerAbove_4 : decode cX0_fingerAbove 4 = .ok (.iload_n 2, 1) := by decide +kernel
theorem dX0_fingerAbove_5 : decode cX0_fingerAbove 5 = .ok (.iconst 5, 1) := by decide +kernel
theorem dX0_fingerAbove_6 : decode cX0_fingerAbove 6 = .ok (.if_icmp .gt 22, 3) := by decide +kernel
theorem dX0_fingerAbove_9 : decode cX0_fingerAbove 9 = .ok (.iload_n 0, 1) := by decide +kernel
theorem dX0_fingerAbove_10 : decode cX0_fingerAbove 10 = .ok (.iload_n 2, 1) := by decide +kernel
theorem dX0_fingerAbove_11 : decode cX0_fingerAbove 11 = .ok (.iconst 1, 1) := by decide +kernel
theorem dX0_fingerAbove_12 : decode cX0_fingerAbove 12 = .ok (.isub, 1) := by decide +kernel
theorem dX0_fingerAbove_13 : decode cX0_fingerAbove 13 = .ok (.ishr, 1) := by decide +kernel
theorem dX0_fingerAbove_14 : decode cX0_fingerAbove 14 = .ok (.iconst 1, 1) := by decide +kernel
theorem dX0_fingerAbove_15 : decode cX0_fingerAbove 15 = .ok (.iand, 1) := by decide +kernel
theorem dX0_fingerAbove_16 : decode cX0_fingerAbove 16 = .ok (.iconst 1, 1) := by decide +kernel
theorem dX0_fingerAbove_17 : decode cX0_fingerAbove 17 = .ok (.if_icmp .ne 5, 3) := by decide +kernel
theorem dX0_fingerAbove_20 : decode cX0_fingerAbove 20 = .ok (.iload_n 2, 1) := by decide +kernel
theorem dX0_fingerAbove_21 : decode cX0_fingerAbove 21 = .ok (.ireturn, 1) := by decide +kernel
theorem dX0_fingerAbove_22 : decode cX0_fingerAbove 22 = .ok (.iinc 2 1, 3) := by decide +kernel
theorem dX0_fingerAbove_25 : decode cX0_fingerAbove 25 = .ok (.goto (-21), 3) := by decide +kernel
theorem dX0_fingerAbove_28 : decode cX0_fingerAbove 28 = .ok (.iconst 5, 1) := by decide +kernel
theorem dX0_fingerAbove_29 : decode cX0_fingerAbove 29 = .ok (.ireturn, 1) := by decide +kernel
theorem dX0_noteOfFinger_0 : decode cX0_noteOfFinger 0 = .ok (.aload_n 0, 1) := by decide +kernel
theorem dX0_noteOfFinger_1 : decode cX0_noteOfFinger 1 = .ok (.getfield 17, 3) := by decide +kernel
theorem dX0_noteOfFinger_4 : decode cX0_noteOfFinger 4 = .ok (.iload_n 1, 1) := by decide +kernel
theorem dX0_noteOfFinger_5 : decode cX0_noteOfFinger 5 = .ok (.aload_n 0, 1) := by decide +kernel
theorem dX0_noteOfFinger_6 : decode cX0_noteOfFinger 6 = .ok (.getfield 17, 3) := by decide +kernel
theorem dX0_noteOfFinger_9 : decode cX0_noteOfFinger 9 = .ok (.iload_n 1, 1) := by decide +kernel
theorem dX0_noteOfFinger_10 : decode cX0_noteOfFinger 10 = .ok (.invokevirtual 51, 3) := by decide +kernel
theorem dX0_noteOfFinger_13 : decode cX0_noteOfFinger 13 = .ok (.iconst 1, 1) := by decide +kernel
theorem dX0_noteOfFinger_14 : decode cX0_noteOfFinger 14 = .ok (.if_icmp .ne 7, 3) := by decide +kernel
theorem dX0_noteOfFinger_17 : decode cX0_noteOfFinger 17 = .ok (.iload_n 2, 1) := by decide +kernel
theorem dX0_noteOfFinger_18 : decode cX0_noteOfFinger 18 = .ok (.goto 15, 3) := by decide +kernel
theorem dX0_noteOfFinger_21 : decode cX0_noteOfFinger 21 = .ok (.aload_n 0, 1) := by decide +kernel
theorem dX0_noteOfFinger_22 : decode cX0_noteOfFinger 22 = .ok (.getfield 17, 3) := by decide +kernel
theorem dX0_noteOfFinger_25 : decode cX0_noteOfFinger 25 = .ok (.iload_n 1, 1) := by decide +kernel
theorem dX0_noteOfFinger_26 : decode cX0_noteOfFinger 26 = .ok (.invokevirtual 21, 3) := by decide +kernel
theorem dX0_noteOfFinger_29 : decode cX0_noteOfFinger 29 = .ok (.iconst 1, 1) := by decide +kernel
theorem dX0_noteOfFinger_30 : decode cX0_noteOfFinger 30 = .ok (.isub, 1) := by decide +kernel
theorem dX0_noteOfFinger_31 : decode cX0_noteOfFinger 31 = .ok (.iload_n 2, 1) := by decide +kernel
theorem dX0_noteOfFinger_32 : decode cX0_noteOfFinger 32 = .ok (.isub, 1) := by decide +kernel
theorem dX0_noteOfFinger_33 : decode cX0_noteOfFinger 33 = .ok (.invokevirtual 54, 3) := by decide +kernel
theorem dX0_noteOfFinger_36 : decode cX0_noteOfFinger 36 = .ok (.ireturn, 1) := by decide +kernel
theorem dX0_placeOf_0 : decode cX0_placeOf 0 = .ok (.iconst 2, 1) := by decide +kernel
theorem dX0_placeOf_1 : decode cX0_placeOf 1 = .ok (.iload_n 2, 1) := by decide +kernel
theorem dX0_placeOf_2 : decode cX0_placeOf 2 = .ok (.iconst 0, 1) := by decide +kernel
theorem dX0_placeOf_3 : decode cX0_placeOf 3 = .ok (.invokestatic 37, 3) := by decide +kernel
theorem dX0_placeOf_6 : decode cX0_placeOf 6 = .ok (.iconst 1, 1) := by decide +kernel
theorem dX0_placeOf_7 : decode cX0_placeOf 7 = .ok (.isub, 1) := by decide +kernel
theorem dX0_placeOf_8 : decode cX0_placeOf 8 = .ok (.imul, 1) := by decide +kernel
theorem dX0_placeOf_9 : decode cX0_placeOf 9 = .ok (.istore_n 3, 1) := by decide +kernel
theorem dX0_placeOf_10 : decode cX0_placeOf 10 = .ok (.aload_n 0, 1) := by decide +kernel
theorem dX0_placeOf_11 : decode cX0_placeOf 11 = .ok (.getfield 17, 3) := by decide +kernel
theorem dX0_placeOf_14 : decode cX0_placeOf 14 = .ok (.iload_n 1, 1) := by decide +kernel
theorem dX0_placeOf_15 : decode cX0_placeOf 15 = .ok (.invokevirtual 51, 3) := by decide +kernel
theorem dX0_placeOf_18 : decode cX0_placeOf 18 = .ok (.iconst 1, 1) := by decide +kernel
theorem dX0_placeOf_19 : decode cX0_placeOf 19 = .ok (.if_icmp .ne 16, 3) := by decide +kernel
theorem dX0_placeOf_22 : decode cX0_placeOf 22 = .ok (.aload_n 0, 1) := by decide +kernel
theorem dX0_placeOf_23 : decode cX0_placeOf 23 = .ok (.getfield 17, 3) := by decide +kernel
theorem dX0_placeOf_26 : decode cX0_placeOf 26 = .ok (.iload_n 1, 1) := by decide +kernel
theorem dX0_placeOf_27 : decode cX0_placeOf 27 = .ok (.invokevirtual 57, 3) := by decide +kernel
theorem dX0_placeOf_30 : decode cX0_placeOf 30 = .ok (.iload_n 3, 1) := by decide +kernel
theorem dX0_placeOf_31 : decode cX0_placeOf 31 = .ok (.isub, 1) := by decide +kernel
theorem dX0_placeOf_32 : decode cX0_placeOf 32 = .ok (.goto 13, 3) := by decide +kernel
theorem dX0_placeOf_35 : decode cX0_placeOf 35 = .ok (.aload_n 0, 1) := by decide +kernel
theorem dX0_placeOf_36 : decode cX0_placeOf 36 = .ok (.getfield 17, 3) := by decide +kernel
theorem dX0_placeOf_39 : decode cX0_placeOf 39 = .ok (.iload_n 1, 1) := by decide +kernel
theorem dX0_placeOf_40 : decode cX0_placeOf 40 = .ok (.invokevirtual 60, 3) := by decide +kernel
theorem dX0_placeOf_43 : decode cX0_placeOf 43 = .ok (.iload_n 3, 1) := by decide +kernel
theorem dX0_placeOf_44 : decode cX0_placeOf 44 = .ok (.iadd, 1) := by decide +kernel
theorem dX0_placeOf_45 : decode cX0_placeOf 45 = .ok (.ireturn, 1) := by decide +kernel
theorem dX0_stepPrice_0 : decode cX0_stepPrice 0 = .ok (.aload_n 0, 1) := by decide +kernel
theorem dX0_stepPrice_1 : decode cX0_stepPrice 1 = .ok (.iload_n 1, 1) := by decide +kernel
theorem dX0_stepPrice_2 : decode cX0_stepPrice 2 = .ok (.iload_n 2, 1) := by decide +kernel
theorem dX0_stepPrice_3 : decode cX0_stepPrice 3 = .ok (.invokevirtual 63, 3) := by decide +kernel
theorem dX0_stepPrice_6 : decode cX0_stepPrice 6 = .ok (.aload_n 0, 1) := by decide +kernel
theorem dX0_stepPrice_7 : decode cX0_stepPrice 7 = .ok (.iload_n 3, 1) := by decide +kernel
theorem dX0_stepPrice_8 : decode cX0_stepPrice 8 = .ok (.iload 4, 2) := by decide +kernel
theorem dX0_stepPrice_10 : decode cX0_stepPrice 10 = .ok (.invokevirtual 63, 3) := by decide +kernel
theorem dX0_stepPrice_13 : decode cX0_stepPrice 13 = .ok (.isub, 1) := by decide +kernel
theorem dX0_stepPrice_14 : decode cX0_stepPrice 14 = .ok (.invokestatic 43, 3) := by decide +kernel
theorem dX0_stepPrice_17 : decode cX0_stepPrice 17 = .ok (.istore 5, 2) := by decide +kernel
theorem dX0_stepPrice_19 : decode cX0_stepPrice 19 = .ok (.aload_n 0, 1) := by decide +kernel
theorem dX0_stepPrice_20 : decode cX0_stepPrice 20 = .ok (.iload 5, 2) := by decide +kernel
theorem dX0_stepPrice_22 : decode cX0_stepPrice 22 = .ok (.iload_n 1, 1) := by decide +kernel
theorem dX0_stepPrice_23 : decode cX0_stepPrice 23 = .ok (.iload_n 3, 1) := by decide +kernel
theorem dX0_stepPrice_24 : decode cX0_stepPrice 24 = .ok (.invokevirtual 66, 3) := by decide +kernel
theorem dX0_stepPrice_27 : decode cX0_stepPrice 27 = .ok (.ifCond .eq 6, 3) := by decide +kernel
theorem dX0_stepPrice_30 : decode cX0_stepPrice 30 = .ok (.bipush (-2), 2) := by decide +kernel
theorem dX0_stepPrice_32 : decode cX0_stepPrice 32 = .ok (.ireturn, 1) := by decide +kernel
theorem dX0_stepPrice_33 : decode cX0_stepPrice 33 = .ok (.aload_n 0, 1) := by decide +kernel
theorem dX0_stepPrice_34 : decode cX0_stepPrice 34 = .ok (.getfield 17, 3) := by decide +kernel
theorem dX0_stepPrice_37 : decode cX0_stepPrice 37 = .ok (.iload_n 1, 1) := by decide +kernel
theorem dX0_stepPrice_38 : decode cX0_stepPrice 38 = .ok (.invokevirtual 21, 3) := by decide +kernel
theorem dX0_stepPrice_41 : decode cX0_stepPrice 41 = .ok (.iconst 1, 1) := by decide +kernel
theorem dX0_stepPrice_42 : decode cX0_stepPrice 42 = .ok (.if_icmp .ne 19, 3) := by decide +kernel
theorem dX0_stepPrice_45 : decode cX0_stepPrice 45 = .ok (.aload_n 0, 1) := by decide +kernel
theorem dX0_stepPrice_46 : decode cX0_stepPrice 46 = .ok (.getfield 17, 3) := by decide +kernel
theorem dX0_stepPrice_49 : decode cX0_stepPrice 49 = .ok (.iload_n 3, 1) := by decide +kernel
theorem dX0_stepPrice_50 : decode cX0_stepPrice 50 = .ok (.invokevirtual 21, 3) := by decide +kernel
theorem dX0_stepPrice_53 : decode cX0_stepPrice 53 = .ok (.iconst 1, 1) := by decide +kernel
theorem dX0_stepPrice_54 : decode cX0_stepPrice 54 = .ok (.if_icmp .ne 7, 3) := by decide +kernel
theorem dX0_stepPrice_57 : decode cX0_stepPrice 57 = .ok (.iconst 1, 1) := by decide +kernel
theorem dX0_stepPrice_58 : decode cX0_stepPrice 58 = .ok (.goto 4, 3) := by decide +kernel
theorem dX0_stepPrice_61 : decode cX0_stepPrice 61 = .ok (.iconst 0, 1) := by decide +kernel
theorem dX0_stepPrice_62 : decode cX0_stepPrice 62 = .ok (.istore 6, 2) := by decide +kernel
theorem dX0_stepPrice_64 : decode cX0_stepPrice 64 = .ok (.iload 6, 2) := by decide +kernel
theorem dX0_stepPrice_66 : decode cX0_stepPrice 66 = .ok (.ifCond .eq 42, 3) := by decide +kernel
theorem dX0_stepPrice_69 : decode cX0_stepPrice 69 = .ok (.aload_n 0, 1) := by decide +kernel
theorem dX0_stepPrice_70 : decode cX0_stepPrice 70 = .ok (.getfield 17, 3) := by decide +kernel
theorem dX0_stepPrice_73 : decode cX0_stepPrice 73 = .ok (.iload_n 1, 1) := by decide +kernel
theorem dX0_stepPrice_74 : decode cX0_stepPrice 74 = .ok (.invokevirtual 57, 3) := by decide +kernel
theorem dX0_stepPrice_77 : decode cX0_stepPrice 77 = .ok (.aload_n 0, 1) := by decide +kernel
theorem dX0_stepPrice_78 : decode cX0_stepPrice 78 = .ok (.getfield 17, 3) := by decide +kernel
theorem dX0_stepPrice_81 : decode cX0_stepPrice 81 = .ok (.iload_n 3, 1) := by decide +kernel
theorem dX0_stepPrice_82 : decode cX0_stepPrice 82 = .ok (.invokevirtual 57, 3) := by decide +kernel
theorem dX0_stepPrice_85 : decode cX0_stepPrice 85 = .ok (.if_icmp .eq 23, 3) := by decide +kernel
theorem dX0_stepPrice_88 : decode cX0_stepPrice 88 = .ok (.aload_n 0, 1) := by decide +kernel
theorem dX0_stepPrice_89 : decode cX0_stepPrice 89 = .ok (.iload_n 1, 1) := by decide +kernel
theorem dX0_stepPrice_90 : decode cX0_stepPrice 90 = .ok (.iload_n 2, 1) := by decide +kernel
theorem dX0_stepPrice_91 : decode cX0_stepPrice 91 = .ok (.invokevirtual 70, 3) := by decide +kernel
theorem dX0_stepPrice_94 : decode cX0_stepPrice 94 = .ok (.aload_n 0, 1) := by decide +kernel
theorem dX0_stepPrice_95 : decode cX0_stepPrice 95 = .ok (.iload_n 3, 1) := by decide +kernel
theorem dX0_stepPrice_96 : decode cX0_stepPrice 96 = .ok (.iload 4, 2) := by decide +kernel
theorem dX0_stepPrice_98 : decode cX0_stepPrice 98 = .ok (.invokevirtual 70, 3) := by decide +kernel
theorem dX0_stepPrice_101 : decode cX0_stepPrice 101 = .ok (.if_icmp .ne 7, 3) := by decide +kernel
theorem dX0_stepPrice_104 : decode cX0_stepPrice 104 = .ok (.iconst 1, 1) := by decide +kernel
theorem dX0_stepPrice_105 : decode cX0_stepPrice 105 = .ok (.goto 4, 3) := by decide +kernel
theorem dX0_stepPrice_108 : decode cX0_stepPrice 108 = .ok (.iconst 0, 1) := by decide +kernel
theorem dX0_stepPrice_109 : decode cX0_stepPrice 109 = .ok (.istore 7, 2) := by decide +kernel
theorem dX0_stepPrice_111 : decode cX0_stepPrice 111 = .ok (.iload 5, 2) := by decide +kernel
theorem dX0_stepPrice_113 : decode cX0_stepPrice 113 = .ok (.iload 7, 2) := by decide +kernel
theorem dX0_stepPrice_115 : decode cX0_stepPrice 115 = .ok (.ifCond .eq 7, 3) := by decide +kernel
theorem dX0_stepPrice_118 : decode cX0_stepPrice 118 = .ok (.iconst 3, 1) := by decide +kernel
theorem dX0_stepPrice_119 : decode cX0_stepPrice 119 = .ok (.goto 4, 3) := by decide +kernel
theorem dX0_stepPrice_122 : decode cX0_stepPrice 122 = .ok (.iconst 0, 1) := by decide +kernel
theorem dX0_stepPrice_123 : decode cX0_stepPrice 123 = .ok (.iadd, 1) := by decide +kernel
theorem dX0_stepPrice_124 : decode cX0_stepPrice 124 = .ok (.ireturn, 1) := by decide +kernel
theorem dX1_init_0 : decode cX1_init 0 = .ok (.aload_n 0, 1) := by decide +kernel
theorem dX1_init_1 : decode cX1_init 1 = .ok (.invokespecial 3, 3) := by decide +kernel
theorem dX1_init_4 : decode cX1_init 4 = .ok (.aload_n 0, 1) := by decide +kernel
theorem dX1_init_5 : decode cX1_init 5 = .ok (.bipush 10, 2) := by decide +kernel
theorem dX1_init_7 : decode cX1_init 7 = .ok (.newarray .int, 2) := by decide +kernel
theorem dX1_init_9 : decode cX1_init 9 = .ok (.dup, 1) := by decide +kernel
theorem dX1_init_10 : decode cX1_init 10 = .ok (.iconst 0, 1) := by decide +kernel
theorem dX1_init_11 : decode cX1_init 11 = .ok (.bipush 10, 2) := by decide +kernel
theorem dX1_init_13 : decode cX1_init 13 = .ok (.iastore, 1) := by decide +kernel
theorem dX1_init_14 : decode cX1_init 14 = .ok (.dup, 1) := by decide +kernel
theorem dX1_init_15 : decode cX1_init 15 = .ok (.iconst 1, 1) := by decide +kernel
theorem dX1_init_16 : decode cX1_init 16 = .ok (.sipush 400, 3) := by decide +kernel
theorem dX1_init_19 : decode cX1_init 19 = .ok (.iastore, 1) := by decide +kernel
theorem dX1_init_20 : decode cX1_init 20 = .ok (.dup, 1) := by decide +kernel
theorem dX1_init_21 : decode cX1_init 21 = .ok (.iconst 2, 1) := by decide +kernel
theorem dX1_init_22 : decode cX1_init 22 = .ok (.bipush 30, 2) := by decide +kernel
theorem dX1_init_24 : decode cX1_init 24 = .ok (.iastore, 1) := by decide +kernel
theorem dX1_init_25 : decode cX1_init 25 = .ok (.dup, 1) := by decide +kernel
theorem dX1_init_26 : decode cX1_init 26 = .ok (.iconst 3, 1) := by decide +kernel
theorem dX1_init_27 : decode cX1_init 27 = .ok (.iconst 0, 1) := by decide +kernel
theorem dX1_init_28 : decode cX1_init 28 = .ok (.iastore, 1) := by decide +kernel
theorem dX1_init_29 : decode cX1_init 29 = .ok (.dup, 1) := by decide +kernel
theorem dX1_init_30 : decode cX1_init 30 = .ok (.iconst 4, 1) := by decide +kernel
theorem dX1_init_31 : decode cX1_init 31 = .ok (.bipush 127, 2) := by decide +kernel
theorem dX1_init_33 : decode cX1_init 33 = .ok (.iastore, 1) := by decide +kernel
theorem dX1_init_34 : decode cX1_init 34 = .ok (.dup, 1) := by decide +kernel
theorem dX1_init_35 : decode cX1_init 35 = .ok (.iconst 5, 1) := by decide +kernel
theorem dX1_init_36 : decode cX1_init 36 = .ok (.bipush 34, 2) := by decide +kernel
theorem dX1_init_38 : decode cX1_init 38 = .ok (.iastore, 1) := by decide +kernel
theorem dX1_init_39 : decode cX1_init 39 = .ok (.dup, 1) := by decide +kernel
theorem dX1_init_40 : decode cX1_init 40 = .ok (.bipush 6, 2) := by decide +kernel
theorem dX1_init_42 : decode cX1_init 42 = .ok (.bipush 55, 2) := by decide +kernel
theorem dX1_init_44 : decode cX1_init 44 = .ok (.iastore, 1) := by decide +kernel
theorem dX1_init_45 : decode cX1_init 45 = .ok (.dup, 1) := by decide +kernel
theorem dX1_init_46 : decode cX1_init 46 = .ok (.bipush 7, 2) := by decide +kernel
theorem dX1_init_48 : decode cX1_init 48 = .ok (.bipush 62, 2) := by decide +kernel
theorem dX1_init_50 : decode cX1_init 50 = .ok (.iastore, 1) := by decide +kernel
theorem dX1_init_51 : decode cX1_init 51 = .ok (.dup, 1) := by decide +kernel
theorem dX1_init_52 : decode cX1_init 52 = .ok (.bipush 8, 2) := by decide +kernel
theorem dX1_init_54 : decode cX1_init 54 = .ok (.bipush 69, 2) := by decide +kernel
theorem dX1_init_56 : decode cX1_init 56 = .ok (.iastore, 1) := by decide +kernel
theorem dX1_init_57 : decode cX1_init 57 = .ok (.dup, 1) := by decide +kernel
theorem dX1_init_58 : decode cX1_init 58 = .ok (.bipush 9, 2) := by decide +kernel
theorem dX1_init_60 : decode cX1_init 60 = .ok (.bipush 76, 2) := by decide +kernel
theorem dX1_init_62 : decode cX1_init 62 = .ok (.iastore, 1) := by decide +kernel
theorem dX1_init_63 : decode cX1_init 63 = .ok (.putfield 9, 3) := by decide +kernel
theorem dX1_init_66 : decode cX1_init 66 = .ok (.aload_n 0, 1) := by decide +kernel
theorem dX1_init_67 : decode cX1_init 67 = .ok (.bipush 40, 2) := by decide +kernel
theorem dX1_init_69 : decode cX1_init 69 = .ok (.newarray .int, 2) := by decide +kernel
theorem dX1_init_71 : decode cX1_init 71 = .ok (.putfield 15, 3) := by decide +kernel
theorem dX1_init_74 : decode cX1_init 74 = .ok (.aload_n 0, 1) := by decide +kernel
theorem dX1_init_75 : decode cX1_init 75 = .ok (.bipush 40, 2) := by decide +kernel
theorem dX1_init_77 : decode cX1_init 77 = .ok (.newarray .int, 2) := by decide +kernel
theorem dX1_init_79 : decode cX1_init 79 = .ok (.putfield 18, 3) := by decide +kernel
theorem dX1_init_82 : decode cX1_init 82 = .ok (.aload_n 0, 1) := by decide +kernel
theorem dX1_init_83 : decode cX1_init 83 = .ok (.bipush 40, 2) := by decide +kernel
theorem dX1_init_85 : decode cX1_init 85 = .ok (.newarray .int, 2) := by decide +kernel
theorem dX1_init_87 : decode cX1_init 87 = .ok (.putfield 21, 3) := by decide +kernel
theorem dX1_init_90 : decode cX1_init 90 = .ok (.aload_n 0, 1) := by decide +kernel
theorem dX1_init_91 : decode cX1_init 91 = .ok (.bipush 40, 2) := by decide +kernel
theorem dX1_init_93 : decode cX1_init 93 = .ok (.newarray .int, 2) := by decide +kernel
theorem dX1_init_95 : decode cX1_init 95 = .ok (.putfield 24, 3) := by decide +kernel
theorem dX1_init_98 : decode cX1_init 98 = .ok (.aload_n 0, 1) := by decide +kernel
theorem dX1_init_99 : decode cX1_init 99 = .ok (.bipush 40, 2) := by decide +kernel
theorem dX1_init_101 : decode cX1_init 101 = .ok (.newarray .int, 2) := by decide +kernel
theorem dX1_init_103 : decode cX1_init 103 = .ok (.putfield 27, 3) := by decide +kernel
theorem dX1_init_106 : decode cX1_init 106 = .ok (.aload_n 0, 1) := by decide +kernel
theorem dX1_init_107 : decode cX1_init 107 = .ok (.bipush 120, 2) := by decide +kernel
theorem dX1_init_109 : decode cX1_init 109 = .ok (.newarray .int, 2) := by decide +kernel
theorem dX1_init_111 : decode cX1_init 111 = .ok (.putfield 30, 3) := by decide +kernel
theorem dX1_init_114 : decode cX1_init 114 = .ok (.aload_n 0, 1) := by decide +kernel
theorem dX1_init_115 : decode cX1_init 115 = .ok (.iconst 0, 1) := by decide +kernel
theorem dX1_init_116 : decode cX1_init 116 = .ok (.putfield 33, 3) := by decide +kernel
theorem dX1_init_119 : decode cX1_init 119 = .ok (.return_, 1) := by decide +kernel
theorem dX1_howMany_0 : decode cX1_howMany 0 = .ok (.iload_n 0, 1) := by decide +kernel
theorem dX1_howMany_1 : decode cX1_howMany 1 = .ok (.ifCond .lt 9, 3) := by decide +kernel
theorem dX1_howMany_4 : decode cX1_howMany 4 = .ok (.iload_n 0, 1) := by decide +kernel
theorem dX1_howMany_5 : decode cX1_howMany 5 = .ok (.bipush 127, 2) := by decide +kernel
theorem dX1_howMany_7 : decode cX1_howMany 7 = .ok (.if_icmp .le 5, 3) := by decide +kernel
theorem dX1_howMany_10 : decode cX1_howMany 10 = .ok (.iconst 0, 1) := by decide +kernel
theorem dX1_howMany_11 : decode cX1_howMany 11 = .ok (.ireturn, 1) := by decide +kernel
theorem dX1_howMany_12 : decode cX1_howMany 12 = .ok (.iload_n 1, 1) := by decide +kernel
theorem dX1_howMany_13 : decode cX1_howMany 13 = .ok (.iconst (-1), 1) := by decide +kernel
theorem dX1_howMany_14 : decode cX1_howMany 14 = .ok (.if_icmp .ne 14, 3) := by decide +kernel
theorem dX1_howMany_17 : decode cX1_howMany 17 = .ok (.iload_n 2, 1) := by decide +kernel
theorem dX1_howMany_18 : decode cX1_howMany 18 = .ok (.iconst (-1), 1) := by decide +kernel
theorem dX1_howMany_19 : decode cX1_howMany 19 = .ok (.if_icmp .ne 7, 3) := by decide +kernel
theorem dX1_howMany_22 : decode cX1_howMany 22 = .ok (.iconst 1, 1) := by decide +kernel
theorem dX1_howMany_23 : decode cX1_howMany 23 = .ok (.goto 4, 3) := by decide +kernel
theorem dX1_howMany_26 : decode cX1_howMany 26 = .ok (.iconst 0, 1) := by decide +kernel
theorem dX1_howMany_27 : decode cX1_howMany 27 = .ok (.ireturn, 1) := by decide +kernel
theorem dX1_howMany_28 : decode cX1_howMany 28 = .ok (.iload_n 1, 1) := by decide +kernel
theorem dX1_howMany_29 : decode cX1_howMany 29 = .ok (.iload_n 0, 1) := by decide +kernel
theorem dX1_howMany_30 : decode cX1_howMany 30 = .ok (.if_icmp .le 9, 3) := by decide +kernel
theorem dX1_howMany_33 : decode cX1_howMany 33 = .ok (.iload_n 1, 1) := by decide +kernel
theorem dX1_howMany_34 : decode cX1_howMany 34 = .ok (.bipush 127, 2) := by decide +kernel
theorem dX1_howMany_36 : decode cX1_howMany 36 = .ok (.if_icmp .le 5, 3) := by decide +kernel
theorem dX1_howMany_39 : decode cX1_howMany 39 = .ok (.iconst 0, 1) := by decide +kernel
theorem dX1_howMany_40 : decode cX1_howMany 40 = .ok (.ireturn, 1) := by decide +kernel
theorem dX1_howMany_41 : decode cX1_howMany 41 = .ok (.iload_n 2, 1) := by decide +kernel
theorem dX1_howMany_42 : decode cX1_howMany 42 = .ok (.iconst (-1), 1) := by decide +kernel
theorem dX1_howMany_43 : decode cX1_howMany 43 = .ok (.if_icmp .ne 5, 3) := by decide +kernel
theorem dX1_howMany_46 : decode cX1_howMany 46 = .ok (.iconst 2, 1) := by decide +kernel
theorem dX1_howMany_47 : decode cX1_howMany 47 = .ok (.ireturn, 1) := by decide +kernel
theorem dX1_howMany_48 : decode cX1_howMany 48 = .ok (.iload_n 2, 1) := by decide +kernel
theorem dX1_howMany_49 : decode cX1_howMany 49 = .ok (.iload_n 1, 1) := by decide +kernel
theorem dX1_howMany_50 : decode cX1_howMany 50 = .ok (.if_icmp .le 13, 3) := by decide +kernel
theorem dX1_howMany_53 : decode cX1_howMany 53 = .ok (.iload_n 2, 1) := by decide +kernel
theorem dX1_howMany_54 : decode cX1_howMany 54 = .ok (.bipush 127, 2) := by decide +kernel
theorem dX1_howMany_56 : decode cX1_howMany 56 = .ok (.if_icmp .gt 7, 3) := by decide +kernel
theorem dX1_howMany_59 : decode cX1_howMany 59 = .ok (.iconst 3, 1) := by decide +kernel
theorem dX1_howMany_60 : decode cX1_howMany 60 = .ok (.goto 4, 3) := by decide +kernel
theorem dX1_howMany_63 : decode cX1_howMany 63 = .ok (.iconst 0, 1) := by decide +kernel
theorem dX1_howMany_64 : decode cX1_howMany 64 = .ok (.ireturn, 1) := by decide +kernel
theorem dX1_add_0 : decode cX1_add 0 = .ok (.aload_n 0, 1) := by decide +kernel
theorem dX1_add_1 : decode cX1_add 1 = .ok (.getfield 33, 3) := by decide +kernel
theorem dX1_add_4 : decode cX1_add 4 = .ok (.ifCond .lt 12, 3) := by decide +kernel
theorem dX1_add_7 : decode cX1_add 7 = .ok (.aload_n 0, 1) := by decide +kernel
theorem dX1_add_8 : decode cX1_add 8 = .ok (.getfield 33, 3) := by decide +kernel
theorem dX1_add_11 : decode cX1_add 11 = .ok (.bipush 40, 2) := by decide +kernel
theorem dX1_add_13 : decode cX1_add 13 = .ok (.if_icmp .lt 4, 3) := by decide +kernel
theorem dX1_add_16 : decode cX1_add 16 = .ok (.return_, 1) := by decide +kernel
theorem dX1_add_17 : decode cX1_add 17 = .ok (.aload_n 0, 1) := by decide +kernel
theorem dX1_add_18 : decode cX1_add 18 = .ok (.getfield 15, 3) := by decide +kernel
theorem dX1_add_21 : decode cX1_add 21 = .ok (.aload_n 0, 1) := by decide +kernel
theorem dX1_add_22 : decode cX1_add 22 = .ok (.getfield 33, 3) := by decide +kernel
theorem dX1_add_25 : decode cX1_add 25 = .ok (.iload_n 1, 1) := by decide +kernel
theorem dX1_add_26 : decode cX1_add 26 = .ok (.iastore, 1) := by decide +kernel
theorem dX1_add_27 : decode cX1_add 27 = .ok (.aload_n 0, 1) := by decide +kernel
theorem dX1_add_28 : decode cX1_add 28 = .ok (.getfield 18, 3) := by decide +kernel
theorem dX1_add_31 : decode cX1_add 31 = .ok (.aload_n 0, 1) := by decide +kernel
theorem dX1_add_32 : decode cX1_add 32 = .ok (.getfield 33, 3) := by decide +kernel
theorem dX1_add_35 : decode cX1_add 35 = .ok (.iload_n 2, 1) := by decide +kernel
theorem dX1_add_36 : decode cX1_add 36 = .ok (.iastore, 1) := by decide +kernel
theorem dX1_add_37 : decode cX1_add 37 = .ok (.aload_n 0, 1) := by decide +kernel
theorem dX1_add_38 : decode cX1_add 38 = .ok (.getfield 21, 3) := by decide +kernel
theorem dX1_add_41 : decode cX1_add 41 = .ok (.aload_n 0, 1) := by decide +kernel
theorem dX1_add_42 : decode cX1_add 42 = .ok (.getfield 33, 3) := by decide +kernel
theorem dX1_add_45 : decode cX1_add 45 = .ok (.iload_n 3, 1) := by decide +kernel
theorem dX1_add_46 : decode cX1_add 46 = .ok (.iastore, 1) := by decide +kernel
theorem dX1_add_47 : decode cX1_add 47 = .ok (.aload_n 0, 1) := by decide +kernel
theorem dX1_add_48 : decode cX1_add 48 = .ok (.getfield 24, 3) := by decide +kernel
theorem dX1_add_51 : decode cX1_add 51 = .ok (.aload_n 0, 1) := by decide +kernel
theorem dX1_add_52 : decode cX1_add 52 = .ok (.getfield 33, 3) := by decide +kernel
theorem dX1_add_55 : decode cX1_add 55 = .ok (.iload 4, 2) := by decide +kernel
theorem dX1_add_57 : decode cX1_add 57 = .ok (.iload 5, 2) := by decide +kernel
theorem dX1_add_59 : decode cX1_add 59 = .ok (.iload 6, 2) := by decide +kernel
theorem dX1_add_61 : decode cX1_add 61 = .ok (.invokestatic 37, 3) := by decide +kernel
theorem dX1_add_64 : decode cX1_add 64 = .ok (.iastore, 1) := by decide +kernel
theorem dX1_add_65 : decode cX1_add 65 = .ok (.aload_n 0, 1) := by decide +kernel
theorem dX1_add_66 : decode cX1_add 66 = .ok (.getfield 27, 3) := by decide +kernel
theorem dX1_add_69 : decode cX1_add 69 = .ok (.aload_n 0, 1) := by decide +kernel
theorem dX1_add_70 : decode cX1_add 70 = .ok (.getfield 33, 3) := by decide +kernel
theorem dX1_add_73 : decode cX1_add 73 = .ok (.bipush (-2), 2) := by decide +kernel
theorem dX1_add_75 : decode cX1_add 75 = .ok (.iastore, 1) := by decide +kernel
theorem dX1_add_76 : decode cX1_add 76 = .ok (.aload_n 0, 1) := by decide +kernel
theorem dX1_add_77 : decode cX1_add 77 = .ok (.getfield 30, 3) := by decide +kernel
theorem dX1_add_80 : decode cX1_add 80 = .ok (.aload_n 0, 1) := by decide +kernel
theorem dX1_add_81 : decode cX1_add 81 = .ok (.getfield 33, 3) := by decide +kernel
theorem dX1_add_84 : decode cX1_add 84 = .ok (.iconst 3, 1) := by decide +kernel
theorem dX1_add_85 : decode cX1_add 85 = .ok (.imul, 1) := by decide +kernel
theorem dX1_add_86 : decode cX1_add 86 = .ok (.iload 4, 2) := by decide +kernel
theorem dX1_add_88 : decode cX1_add 88 = .ok (.iastore, 1) := by decide +kernel
theorem dX1_add_89 : decode cX1_add 89 = .ok (.aload_n 0, 1) := by decide +kernel
theorem dX1_add_90 : decode cX1_add 90 = .ok (.getfield 30, 3) := by decide +kernel
theorem dX1_add_93 : decode cX1_add 93 = .ok (.aload_n 0, 1) := by decide +kernel
theorem dX1_add_94 : decode cX1_add 94 = .ok (.getfield 33, 3) := by decide +kernel
theorem dX1_add_97 : decode cX1_add 97 = .ok (.iconst 3, 1) := by decide +kernel
theorem dX1_add_98 : decode cX1_add 98 = .ok (.imul, 1) := by decide +kernel
theorem dX1_add_99 : decode cX1_add 99 = .ok (.iconst 1, 1) := by decide +kernel
theorem dX1_add_100 : decode cX1_add 100 = .ok (.iadd, 1) := by decide +kernel
theorem dX1_add_101 : decode cX1_add 101 = .ok (.iload 5, 2) := by decide +kernel
theorem dX1_add_103 : decode cX1_add 103 = .ok (.iastore, 1) := by decide +kernel
theorem dX1_add_104 : decode cX1_add 104 = .ok (.aload_n 0, 1) := by decide +kernel
theorem dX1_add_105 : decode cX1_add 105 = .ok (.getfield 30, 3) := by decide +kernel
theorem dX1_add_108 : decode cX1_add 108 = .ok (.aload_n 0, 1) := by decide +kernel
theorem dX1_add_109 : decode cX1_add 109 = .ok (.getfield 33, 3) := by decide +kernel
theorem dX1_add_112 : decode cX1_add 112 = .ok (.iconst 3, 1) := by decide +kernel
theorem dX1_add_113 : decode cX1_add 113 = .ok (.imul, 1) := by decide +kernel
theorem dX1_add_114 : decode cX1_add 114 = .ok (.iconst 2, 1) := by decide +kernel
theorem dX1_add_115 : decode cX1_add 115 = .ok (.iadd, 1) := by decide +kernel
theorem dX1_add_116 : decode cX1_add 116 = .ok (.iload 6, 2) := by decide +kernel
theorem dX1_add_118 : decode cX1_add 118 = .ok (.iastore, 1) := by decide +kernel
theorem dX1_add_119 : decode cX1_add 119 = .ok (.aload_n 0, 1) := by decide +kernel
theorem dX1_add_120 : decode cX1_add 120 = .ok (.dup, 1) := by decide +kernel
theorem dX1_add_121 : decode cX1_add 121 = .ok (.getfield 33, 3) := by decide +kernel
theorem dX1_add_124 : decode cX1_add 124 = .ok (.iconst 1, 1) := by decide +kernel
theorem dX1_add_125 : decode cX1_add 125 = .ok (.iadd, 1) := by decide +kernel
theorem dX1_add_126 : decode cX1_add 126 = .ok (.putfield 33, 3) := by decide +kernel
theorem dX1_add_129 : decode cX1_add 129 = .ok (.return_, 1) := by decide +kernel
theorem dX1_has_0 : decode cX1_has 0 = .ok (.iload_n 1, 1) := by decide +kernel
theorem dX1_has_1 : decode cX1_has 1 = .ok (.ifCond .lt 15, 3) := by decide +kernel
theorem dX1_has_4 : decode cX1_has 4 = .ok (.iload_n 1, 1) := by decide +kernel
theorem dX1_has_5 : decode cX1_has 5 = .ok (.aload_n 0, 1) := by decide +kernel
theorem dX1_has_6 : decode cX1_has 6 = .ok (.getfield 33, 3) := by decide +kernel
theorem dX1_has_9 : decode cX1_has 9 = .ok (.if_icmp .ge 7, 3) := by decide +kernel
theorem dX1_has_12 : decode cX1_has 12 = .ok (.iconst 1, 1) := by decide +kernel
theorem dX1_has_13 : decode cX1_has 13 = .ok (.goto 4, 3) := by decide +kernel
theorem dX1_has_16 : decode cX1_has 16 = .ok (.iconst 0, 1) := by decide +kernel
theorem dX1_has_17 : decode cX1_has 17 = .ok (.ireturn, 1) := by decide +kernel
theorem dX1_boundOf_0 : decode cX1_boundOf 0 = .ok (.iload_n 1, 1) := by decide +kernel
theorem dX1_boundOf_1 : decode cX1_boundOf 1 = .ok (.ifCond .lt 21, 3) := by decide +kernel
theorem dX1_boundOf_4 : decode cX1_boundOf 4 = .ok (.iload_n 1, 1) := by decide +kernel
theorem dX1_boundOf_5 : decode cX1_boundOf 5 = .ok (.aload_n 0, 1) := by decide +kernel
theorem dX1_boundOf_6 : decode cX1_boundOf 6 = .ok (.getfield 9, 3) := by decide +kernel
theorem dX1_boundOf_9 : decode cX1_boundOf 9 = .ok (.arraylength, 1) := by decide +kernel
theorem dX1_boundOf_10 : decode cX1_boundOf 10 = .ok (.if_icmp .ge 12, 3) := by decide +kernel
theorem dX1_boundOf_13 : decode cX1_boundOf 13 = .ok (.aload_n 0, 1) := by decide +kernel
theorem dX1_boundOf_14 : decode cX1_boundOf 14 = .ok (.getfield 9, 3) := by decide +kernel
theorem dX1_boundOf_17 : decode cX1_boundOf 17 = .ok (.iload_n 1, 1) := by decide +kernel
theorem dX1_boundOf_18 : decode cX1_boundOf 18 = .ok (.iaload, 1) := by decide +kernel
theorem dX1_boundOf_19 : decode cX1_boundOf 19 = .ok (.goto 4, 3) := by decide +kernel
theorem dX1_boundOf_22 : decode cX1_boundOf 22 = .ok (.iconst 0, 1) := by decide +kernel
theorem dX1_boundOf_23 : decode cX1_boundOf 23 = .ok (.ireturn, 1) := by decide +kernel
theorem dX1_setBound_0 : decode cX1_setBound 0 = .ok (.iload_n 1, 1) := by decide +kernel
theorem dX1_setBound_1 : decode cX1_setBound 1 = .ok (.ifCond .lt 19, 3) := by decide +kernel
theorem dX1_setBound_4 : decode cX1_setBound 4 = .ok (.iload_n 1, 1) := by decide +kernel
theorem dX1_setBound_5 : decode cX1_setBound 5 = .ok (.aload_n 0, 1) := by decide +kernel
theorem dX1_setBound_6 : decode cX1_setBound 6 = .ok (.getfield 9, 3) := by decide +kernel
theorem dX1_setBound_9 : decode cX1_setBound 9 = .ok (.arraylength, 1) := by decide +kernel
theorem dX1_setBound_10 : decode cX1_setBound 10 = .ok (.if_icmp .ge 10, 3) := by decide +kernel
theorem dX1_setBound_13 : decode cX1_setBound 13 = .ok (.aload_n 0, 1) := by decide +kernel
theorem dX1_setBound_14 : decode cX1_setBound 14 = .ok (.getfield 9, 3) := by decide +kernel
theorem dX1_setBound_17 : decode cX1_setBound 17 = .ok (.iload_n 1, 1) := by decide +kernel
theorem dX1_setBound_18 : decode cX1_setBound 18 = .ok (.iload_n 2, 1) := by decide +kernel
theorem dX1_setBound_19 : decode cX1_setBound 19 = .ok (.iastore, 1) := by decide +kernel
theorem dX1_setBound_20 : decode cX1_setBound 20 = .ok (.return_, 1) := by decide +kernel
theorem dX1_handOf_0 : decode cX1_handOf 0 = .ok (.iload_n 1, 1) := by decide +kernel
theorem dX1_handOf_1 : decode cX1_handOf 1 = .ok (.ifCond .lt 20, 3) := by decide +kernel
theorem dX1_handOf_4 : decode cX1_handOf 4 = .ok (.iload_n 1, 1) := by decide +kernel
theorem dX1_handOf_5 : decode cX1_handOf 5 = .ok (.aload_n 0, 1) := by decide +kernel
theorem dX1_handOf_6 : decode cX1_handOf 6 = .ok (.getfield 33, 3) := by decide +kernel
theorem dX1_handOf_9 : decode cX1_handOf 9 = .ok (.if_icmp .ge 12, 3) := by decide +kernel
theorem dX1_handOf_12 : decode cX1_handOf 12 = .ok (.aload_n 0, 1) := by decide +kernel
theorem dX1_handOf_13 : decode cX1_handOf 13 = .ok (.getfield 15, 3) := by decide +kernel
theorem dX1_handOf_16 : decode cX1_handOf 16 = .ok (.iload_n 1, 1) := by decide +kernel
theorem dX1_handOf_17 : decode cX1_handOf 17 = .ok (.iaload, 1) := by decide +kernel
theorem dX1_handOf_18 : decode cX1_handOf 18 = .ok (.goto 4, 3) := by decide +kernel
theorem dX1_handOf_21 : decode cX1_handOf 21 = .ok (.iconst 0, 1) := by decide +kernel
theorem dX1_handOf_22 : decode cX1_handOf 22 = .ok (.ireturn, 1) := by decide +kernel
theorem dX1_timeOf_0 : decode cX1_timeOf 0 = .ok (.iload_n 1, 1) := by decide +kernel
theorem dX1_timeOf_1 : decode cX1_timeOf 1 = .ok (.ifCond .lt 20, 3) := by decide +kernel
theorem dX1_timeOf_4 : decode cX1_timeOf 4 = .ok (.iload_n 1, 1) := by decide +kernel
theorem dX1_timeOf_5 : decode cX1_timeOf 5 = .ok (.aload_n 0, 1) := by decide +kernel
theorem dX1_timeOf_6 : decode cX1_timeOf 6 = .ok (.getfield 33, 3) := by decide +kernel
theorem dX1_timeOf_9 : decode cX1_timeOf 9 = .ok (.if_icmp .ge 12, 3) := by decide +kernel
theorem dX1_timeOf_12 : decode cX1_timeOf 12 = .ok (.aload_n 0, 1) := by decide +kernel
theorem dX1_timeOf_13 : decode cX1_timeOf 13 = .ok (.getfield 18, 3) := by decide +kernel
theorem dX1_timeOf_16 : decode cX1_timeOf 16 = .ok (.iload_n 1, 1) := by decide +kernel
theorem dX1_timeOf_17 : decode cX1_timeOf 17 = .ok (.iaload, 1) := by decide +kernel
theorem dX1_timeOf_18 : decode cX1_timeOf 18 = .ok (.goto 4, 3) := by decide +kernel
theorem dX1_timeOf_21 : decode cX1_timeOf 21 = .ok (.iconst 0, 1) := by decide +kernel
theorem dX1_timeOf_22 : decode cX1_timeOf 22 = .ok (.ireturn, 1) := by decide +kernel
theorem dX1_lengthOf_0 : decode cX1_lengthOf 0 = .ok (.iload_n 1, 1) := by decide +kernel
theorem dX1_lengthOf_1 : decode cX1_lengthOf 1 = .ok (.ifCond .lt 20, 3) := by decide +kernel
theorem dX1_lengthOf_4 : decode cX1_lengthOf 4 = .ok (.iload_n 1, 1) := by decide +kernel
theorem dX1_lengthOf_5 : decode cX1_lengthOf 5 = .ok (.aload_n 0, 1) := by decide +kernel
theorem dX1_lengthOf_6 : decode cX1_lengthOf 6 = .ok (.getfield 33, 3) := by decide +kernel
theorem dX1_lengthOf_9 : decode cX1_lengthOf 9 = .ok (.if_icmp .ge 12, 3) := by decide +kernel
theorem dX1_lengthOf_12 : decode cX1_lengthOf 12 = .ok (.aload_n 0, 1) := by decide +kernel
theorem dX1_lengthOf_13 : decode cX1_lengthOf 13 = .ok (.getfield 21, 3) := by decide +kernel
theorem dX1_lengthOf_16 : decode cX1_lengthOf 16 = .ok (.iload_n 1, 1) := by decide +kernel
theorem dX1_lengthOf_17 : decode cX1_lengthOf 17 = .ok (.iaload, 1) := by decide +kernel
theorem dX1_lengthOf_18 : decode cX1_lengthOf 18 = .ok (.goto 4, 3) := by decide +kernel
theorem dX1_lengthOf_21 : decode cX1_lengthOf 21 = .ok (.iconst 0, 1) := by decide +kernel
theorem dX1_lengthOf_22 : decode cX1_lengthOf 22 = .ok (.ireturn, 1) := by decide +kernel
theorem dX1_sizeOf_0 : decode cX1_sizeOf 0 = .ok (.iload_n 1, 1) := by decide +kernel
theorem dX1_sizeOf_1 : decode cX1_sizeOf 1 = .ok (.ifCond .lt 20, 3) := by decide +kernel
theorem dX1_sizeOf_4 : decode cX1_sizeOf 4 = .ok (.iload_n 1, 1) := by decide +kernel
theorem dX1_sizeOf_5 : decode cX1_sizeOf 5 = .ok (.aload_n 0, 1) := by decide +kernel
theorem dX1_sizeOf_6 : decode cX1_sizeOf 6 = .ok (.getfield 33, 3) := by decide +kernel
theorem dX1_sizeOf_9 : decode cX1_sizeOf 9 = .ok (.if_icmp .ge 12, 3) := by decide +kernel
theorem dX1_sizeOf_12 : decode cX1_sizeOf 12 = .ok (.aload_n 0, 1) := by decide +kernel
theorem dX1_sizeOf_13 : decode cX1_sizeOf 13 = .ok (.getfield 24, 3) := by decide +kernel
theorem dX1_sizeOf_16 : decode cX1_sizeOf 16 = .ok (.iload_n 1, 1) := by decide +kernel
theorem dX1_sizeOf_17 : decode cX1_sizeOf 17 = .ok (.iaload, 1) := by decide +kernel
theorem dX1_sizeOf_18 : decode cX1_sizeOf 18 = .ok (.goto 4, 3) := by decide +kernel
theorem dX1_sizeOf_21 : decode cX1_sizeOf 21 = .ok (.iconst 0, 1) := by decide +kernel
theorem dX1_sizeOf_22 : decode cX1_sizeOf 22 = .ok (.ireturn, 1) := by decide +kernel
theorem dX1_pitchOf_0 : decode cX1_pitchOf 0 = .ok (.iload_n 1, 1) := by decide +kernel
theorem dX1_pitchOf_1 : decode cX1_pitchOf 1 = .ok (.ifCond .lt 24, 3) := by decide +kernel
theorem dX1_pitchOf_4 : decode cX1_pitchOf 4 = .ok (.iload_n 1, 1) := by decide +kernel
theorem dX1_pitchOf_5 : decode cX1_pitchOf 5 = .ok (.aload_n 0, 1) := by decide +kernel
theorem dX1_pitchOf_6 : decode cX1_pitchOf 6 = .ok (.getfield 33, 3) := by decide +kernel
theorem dX1_pitchOf_9 : decode cX1_pitchOf 9 = .ok (.if_icmp .ge 16, 3) := by decide +kernel
theorem dX1_pitchOf_12 : decode cX1_pitchOf 12 = .ok (.iload_n 2, 1) := by decide +kernel
theorem dX1_pitchOf_13 : decode cX1_pitchOf 13 = .ok (.ifCond .lt 12, 3) := by decide +kernel
theorem dX1_pitchOf_16 : decode cX1_pitchOf 16 = .ok (.iload_n 2, 1) := by decide +kernel
theorem dX1_pitchOf_17 : decode cX1_pitchOf 17 = .ok (.iconst 3, 1) := by decide +kernel
theorem dX1_pitchOf_18 : decode cX1_pitchOf 18 = .ok (.if_icmp .ge 7, 3) := by decide +kernel
theorem dX1_pitchOf_21 : decode cX1_pitchOf 21 = .ok (.iconst 1, 1) := by decide +kernel
theorem dX1_pitchOf_22 : decode cX1_pitchOf 22 = .ok (.goto 4, 3) := by decide +kernel
theorem dX1_pitchOf_25 : decode cX1_pitchOf 25 = .ok (.iconst 0, 1) := by decide +kernel
theorem dX1_pitchOf_26 : decode cX1_pitchOf 26 = .ok (.istore_n 3, 1) := by decide +kernel
theorem dX1_pitchOf_27 : decode cX1_pitchOf 27 = .ok (.iload_n 3, 1) := by decide +kernel
theorem dX1_pitchOf_28 : decode cX1_pitchOf 28 = .ok (.ifCond .eq 16, 3) := by decide +kernel
theorem dX1_pitchOf_31 : decode cX1_pitchOf 31 = .ok (.aload_n 0, 1) := by decide +kernel
theorem dX1_pitchOf_32 : decode cX1_pitchOf 32 = .ok (.getfield 30, 3) := by decide +kernel
theorem dX1_pitchOf_35 : decode cX1_pitchOf 35 = .ok (.iload_n 1, 1) := by decide +kernel
theorem dX1_pitchOf_36 : decode cX1_pitchOf 36 = .ok (.iconst 3, 1) := by decide +kernel
theorem dX1_pitchOf_37 : decode cX1_pitchOf 37 = .ok (.imul, 1) := by decide +kernel
theorem dX1_pitchOf_38 : decode cX1_pitchOf 38 = .ok (.iload_n 2, 1) := by decide +kernel
theorem dX1_pitchOf_39 : decode cX1_pitchOf 39 = .ok (.iadd, 1) := by decide +kernel
theorem dX1_pitchOf_40 : decode cX1_pitchOf 40 = .ok (.iaload, 1) := by decide +kernel
theorem dX1_pitchOf_41 : decode cX1_pitchOf 41 = .ok (.goto 4, 3) := by decide +kernel
theorem dX1_pitchOf_44 : decode cX1_pitchOf 44 = .ok (.iconst (-1), 1) := by decide +kernel
theorem dX1_pitchOf_45 : decode cX1_pitchOf 45 = .ok (.ireturn, 1) := by decide +kernel
theorem dX1_lowestOf_0 : decode cX1_lowestOf 0 = .ok (.iload_n 1, 1) := by decide +kernel
theorem dX1_lowestOf_1 : decode cX1_lowestOf 1 = .ok (.ifCond .lt 22, 3) := by decide +kernel
theorem dX1_lowestOf_4 : decode cX1_lowestOf 4 = .ok (.iload_n 1, 1) := by decide +kernel
theorem dX1_lowestOf_5 : decode cX1_lowestOf 5 = .ok (.aload_n 0, 1) := by decide +kernel
theorem dX1_lowestOf_6 : decode cX1_lowestOf 6 = .ok (.getfield 33, 3) := by decide +kernel
theorem dX1_lowestOf_9 : decode cX1_lowestOf 9 = .ok (.if_icmp .ge 14, 3) := by decide +kernel
theorem dX1_lowestOf_12 : decode cX1_lowestOf 12 = .ok (.aload_n 0, 1) := by decide +kernel
theorem dX1_lowestOf_13 : decode cX1_lowestOf 13 = .ok (.getfield 30, 3) := by decide +kernel
theorem dX1_lowestOf_16 : decode cX1_lowestOf 16 = .ok (.iload_n 1, 1) := by decide +kernel
theorem dX1_lowestOf_17 : decode cX1_lowestOf 17 = .ok (.iconst 3, 1) := by decide +kernel
theorem dX1_lowestOf_18 : decode cX1_lowestOf 18 = .ok (.imul, 1) := by decide +kernel
theorem dX1_lowestOf_19 : decode cX1_lowestOf 19 = .ok (.iaload, 1) := by decide +kernel
theorem dX1_lowestOf_20 : decode cX1_lowestOf 20 = .ok (.goto 4, 3) := by decide +kernel
theorem dX1_lowestOf_23 : decode cX1_lowestOf 23 = .ok (.iconst (-1), 1) := by decide +kernel
theorem dX1_lowestOf_24 : decode cX1_lowestOf 24 = .ok (.ireturn, 1) := by decide +kernel
theorem dX1_highestOf_0 : decode cX1_highestOf 0 = .ok (.iload_n 1, 1) := by decide +kernel
theorem dX1_highestOf_1 : decode cX1_highestOf 1 = .ok (.ifCond .lt 26, 3) := by decide +kernel
theorem dX1_highestOf_4 : decode cX1_highestOf 4 = .ok (.iload_n 1, 1) := by decide +kernel
theorem dX1_highestOf_5 : decode cX1_highestOf 5 = .ok (.aload_n 0, 1) := by decide +kernel
theorem dX1_highestOf_6 : decode cX1_highestOf 6 = .ok (.getfield 33, 3) := by decide +kernel
theorem dX1_highestOf_9 : decode cX1_highestOf 9 = .ok (.if_icmp .ge 18, 3) := by decide +kernel
theorem dX1_highestOf_12 : decode cX1_highestOf 12 = .ok (.iload_n 1, 1) := by decide +kernel
theorem dX1_highestOf_13 : decode cX1_highestOf 13 = .ok (.iconst 3, 1) := by decide +kernel
theorem dX1_highestOf_14 : decode cX1_highestOf 14 = .ok (.imul, 1) := by decide +kernel
theorem dX1_highestOf_15 : decode cX1_highestOf 15 = .ok (.aload_n 0, 1) := by decide +kernel
theorem dX1_highestOf_16 : decode cX1_highestOf 16 = .ok (.getfield 24, 3) := by decide +kernel
theorem dX1_highestOf_19 : decode cX1_highestOf 19 = .ok (.iload_n 1, 1) := by decide +kernel
theorem dX1_highestOf_20 : decode cX1_highestOf 20 = .ok (.iaload, 1) := by decide +kernel
theorem dX1_highestOf_21 : decode cX1_highestOf 21 = .ok (.iadd, 1) := by decide +kernel
theorem dX1_highestOf_22 : decode cX1_highestOf 22 = .ok (.iconst 1, 1) := by decide +kernel
theorem dX1_highestOf_23 : decode cX1_highestOf 23 = .ok (.isub, 1) := by decide +kernel
theorem dX1_highestOf_24 : decode cX1_highestOf 24 = .ok (.goto 4, 3) := by decide +kernel
theorem dX1_highestOf_27 : decode cX1_highestOf 27 = .ok (.iconst (-1), 1) := by decide +kernel
theorem dX1_highestOf_28 : decode cX1_highestOf 28 = .ok (.istore_n 2, 1) := by decide +kernel
theorem dX1_highestOf_29 : decode cX1_highestOf 29 = .ok (.iload_n 2, 1) := by decide +kernel
theorem dX1_highestOf_30 : decode cX1_highestOf 30 = .ok (.ifCond .lt 21, 3) := by decide +kernel
theorem dX1_highestOf_33 : decode cX1_highestOf 33 = .ok (.iload_n 2, 1) := by decide +kernel
theorem dX1_highestOf_34 : decode cX1_highestOf 34 = .ok (.aload_n 0, 1) := by decide +kernel
theorem dX1_highestOf_35 : decode cX1_highestOf 35 = .ok (.getfield 30, 3) := by decide +kernel
theorem dX1_highestOf_38 : decode cX1_highestOf 38 = .ok (.arraylength, 1) := by decide +kernel
theorem dX1_highestOf_39 : decode cX1_highestOf 39 = .ok (.if_icmp .ge 12, 3) := by decide +kernel
theorem dX1_highestOf_42 : decode cX1_highestOf 42 = .ok (.aload_n 0, 1) := by decide +kernel
theorem dX1_highestOf_43 : decode cX1_highestOf 43 = .ok (.getfield 30, 3) := by decide +kernel
theorem dX1_highestOf_46 : decode cX1_highestOf 46 = .ok (.iload_n 2, 1) := by decide +kernel
theorem dX1_highestOf_47 : decode cX1_highestOf 47 = .ok (.iaload, 1) := by decide +kernel
theorem dX1_highestOf_48 : decode cX1_highestOf 48 = .ok (.goto 4, 3) := by decide +kernel
theorem dX1_highestOf_51 : decode cX1_highestOf 51 = .ok (.iconst (-1), 1) := by decide +kernel
theorem dX1_highestOf_52 : decode cX1_highestOf 52 = .ok (.ireturn, 1) := by decide +kernel
theorem dX1_pinOf_0 : decode cX1_pinOf 0 = .ok (.iload_n 1, 1) := by decide +kernel
theorem dX1_pinOf_1 : decode cX1_pinOf 1 = .ok (.ifCond .lt 20, 3) := by decide +kernel
theorem dX1_pinOf_4 : decode cX1_pinOf 4 = .ok (.iload_n 1, 1) := by decide +kernel
theorem dX1_pinOf_5 : decode cX1_pinOf 5 = .ok (.aload_n 0, 1) := by decide +kernel
theorem dX1_pinOf_6 : decode cX1_pinOf 6 = .ok (.getfield 33, 3) := by decide +kernel
theorem dX1_pinOf_9 : decode cX1_pinOf 9 = .ok (.if_icmp .ge 12, 3) := by decide +kernel
theorem dX1_pinOf_12 : decode cX1_pinOf 12 = .ok (.aload_n 0, 1) := by decide +kernel
theorem dX1_pinOf_13 : decode cX1_pinOf 13 = .ok (.getfield 27, 3) := by decide +kernel
theorem dX1_pinOf_16 : decode cX1_pinOf 16 = .ok (.iload_n 1, 1) := by decide +kernel
theorem dX1_pinOf_17 : decode cX1_pinOf 17 = .ok (.iaload, 1) := by decide +kernel
theorem dX1_pinOf_18 : decode cX1_pinOf 18 = .ok (.goto 5, 3) := by decide +kernel
theorem dX1_pinOf_21 : decode cX1_pinOf 21 = .ok (.bipush (-2), 2) := by decide +kernel
theorem dX1_pinOf_23 : decode cX1_pinOf 23 = .ok (.ireturn, 1) := by decide +kernel
theorem dX1_setPin_0 : decode cX1_setPin 0 = .ok (.iload_n 1, 1) := by decide +kernel
theorem dX1_setPin_1 : decode cX1_setPin 1 = .ok (.ifCond .lt 18, 3) := by decide +kernel
theorem dX1_setPin_4 : decode cX1_setPin 4 = .ok (.iload_n 1, 1) := by decide +kernel
theorem dX1_setPin_5 : decode cX1_setPin 5 = .ok (.aload_n 0, 1) := by decide +kernel
theorem dX1_setPin_6 : decode cX1_setPin 6 = .ok (.getfield 33, 3) := by decide +kernel
theorem dX1_setPin_9 : decode cX1_setPin 9 = .ok (.if_icmp .ge 10, 3) := by decide +kernel
theorem dX1_setPin_12 : decode cX1_setPin 12 = .ok (.aload_n 0, 1) := by decide +kernel
theorem dX1_setPin_13 : decode cX1_setPin 13 = .ok (.getfield 27, 3) := by decide +kernel
theorem dX1_setPin_16 : decode cX1_setPin 16 = .ok (.iload_n 1, 1) := by decide +kernel
theorem dX1_setPin_17 : decode cX1_setPin 17 = .ok (.iload_n 2, 1) := by decide +kernel
theorem dX1_setPin_18 : decode cX1_setPin 18 = .ok (.iastore, 1) := by decide +kernel
theorem dX1_setPin_19 : decode cX1_setPin 19 = .ok (.return_, 1) := by decide +kernel
theorem dX1_allows_0 : decode cX1_allows 0 = .ok (.aload_n 0, 1) := by decide +kernel
theorem dX1_allows_1 : decode cX1_allows 1 = .ok (.iload_n 1, 1) := by decide +kernel
theorem dX1_allows_2 : decode cX1_allows 2 = .ok (.invokevirtual 41, 3) := by decide +kernel
theorem dX1_allows_5 : decode cX1_allows 5 = .ok (.istore_n 3, 1) := by decide +kernel
theorem dX1_allows_6 : decode cX1_allows 6 = .ok (.iload_n 3, 1) := by decide +kernel
theorem dX1_allows_7 : decode cX1_allows 7 = .ok (.bipush (-2), 2) := by decide +kernel
theorem dX1_allows_9 : decode cX1_allows 9 = .ok (.if_icmp .eq 8, 3) := by decide +kernel
theorem dX1_allows_12 : decode cX1_allows 12 = .ok (.iload_n 3, 1) := by decide +kernel
theorem dX1_allows_13 : decode cX1_allows 13 = .ok (.iload_n 2, 1) := by decide +kernel
theorem dX1_allows_14 : decode cX1_allows 14 = .ok (.if_icmp .ne 7, 3) := by decide +kernel
theorem dX1_allows_17 : decode cX1_allows 17 = .ok (.iconst 1, 1) := by decide +kernel
theorem dX1_allows_18 : decode cX1_allows 18 = .ok (.goto 4, 3) := by decide +kernel
theorem dX1_allows_21 : decode cX1_allows 21 = .ok (.iconst 0, 1) := by decide +kernel
theorem dX1_allows_22 : decode cX1_allows 22 = .ok (.ireturn, 1) := by decide +kernel
theorem dX1_inCompass_0 : decode cX1_inCompass 0 = .ok (.aload_n 0, 1) := by decide +kernel
theorem dX1_inCompass_1 : decode cX1_inCompass 1 = .ok (.iload_n 1, 1) := by decide +kernel
theorem dX1_inCompass_2 : decode cX1_inCompass 2 = .ok (.invokevirtual 45, 3) := by decide +kernel
theorem dX1_inCompass_5 : decode cX1_inCompass 5 = .ok (.aload_n 0, 1) := by decide +kernel
theorem dX1_inCompass_6 : decode cX1_inCompass 6 = .ok (.getfield 9, 3) := by decide +kernel
theorem dX1_inCompass_9 : decode cX1_inCompass 9 = .ok (.iconst 3, 1) := by decide +kernel
theorem dX1_inCompass_10 : decode cX1_inCompass 10 = .ok (.iaload, 1) := by decide +kernel
theorem dX1_inCompass_11 : decode cX1_inCompass 11 = .ok (.if_icmp .lt 21, 3) := by decide +kernel
theorem dX1_inCompass_14 : decode cX1_inCompass 14 = .ok (.aload_n 0, 1) := by decide +kernel
theorem dX1_inCompass_15 : decode cX1_inCompass 15 = .ok (.iload_n 1, 1) := by decide +kernel
theorem dX1_inCompass_16 : decode cX1_inCompass 16 = .ok (.invokevirtual 48, 3) := by decide +kernel
theorem dX1_inCompass_19 : decode cX1_inCompass 19 = .ok (.aload_n 0, 1) := by decide +kernel
theorem dX1_inCompass_20 : decode cX1_inCompass 20 = .ok (.getfield 9, 3) := by decide +kernel
theorem dX1_inCompass_23 : decode cX1_inCompass 23 = .ok (.iconst 4, 1) := by decide +kernel
theorem dX1_inCompass_24 : decode cX1_inCompass 24 = .ok (.iaload, 1) := by decide +kernel
theorem dX1_inCompass_25 : decode cX1_inCompass 25 = .ok (.if_icmp .gt 7, 3) := by decide +kernel
theorem dX1_inCompass_28 : decode cX1_inCompass 28 = .ok (.iconst 1, 1) := by decide +kernel
theorem dX1_inCompass_29 : decode cX1_inCompass 29 = .ok (.goto 4, 3) := by decide +kernel
theorem dX1_inCompass_32 : decode cX1_inCompass 32 = .ok (.iconst 0, 1) := by decide +kernel
theorem dX1_inCompass_33 : decode cX1_inCompass 33 = .ok (.ireturn, 1) := by decide +kernel
theorem dX1_firstOfHand_0 : decode cX1_firstOfHand 0 = .ok (.iconst 0, 1) := by decide +kernel
theorem dX1_firstOfHand_1 : decode cX1_firstOfHand 1 = .ok (.iload_n 2, 1) := by decide +kernel
theorem dX1_firstOfHand_2 : decode cX1_firstOfHand 2 = .ok (.invokestatic 51, 3) := by decide +kernel
theorem dX1_firstOfHand_5 : decode cX1_firstOfHand 5 = .ok (.istore_n 3, 1) := by decide +kernel
theorem dX1_firstOfHand_6 : decode cX1_firstOfHand 6 = .ok (.iload_n 3, 1) := by decide +kernel
theorem dX1_firstOfHand_7 : decode cX1_firstOfHand 7 = .ok (.aload_n 0, 1) := by decide +kernel
theorem dX1_firstOfHand_8 : decode cX1_firstOfHand 8 = .ok (.getfield 33, 3) := by decide +kernel
theorem dX1_firstOfHand_11 : decode cX1_firstOfHand 11 = .ok (.if_icmp .ge 21, 3) := by decide +kernel
theorem dX1_firstOfHand_14 : decode cX1_firstOfHand 14 = .ok (.aload_n 0, 1) := by decide +kernel
theorem dX1_firstOfHand_15 : decode cX1_firstOfHand 15 = .ok (.getfield 15, 3) := by decide +kernel
theorem dX1_firstOfHand_18 : decode cX1_firstOfHand 18 = .ok (.iload_n 3, 1) := by decide +kernel
theorem dX1_firstOfHand_19 : decode cX1_firstOfHand 19 = .ok (.iaload, 1) := by decide +kernel
theorem dX1_firstOfHand_20 : decode cX1_firstOfHand 20 = .ok (.iload_n 1, 1) := by decide +kernel
theorem dX1_firstOfHand_21 : decode cX1_firstOfHand 21 = .ok (.if_icmp .ne 5, 3) := by decide +kernel
theorem dX1_firstOfHand_24 : decode cX1_firstOfHand 24 = .ok (.iload_n 3, 1) := by decide +kernel
theorem dX1_firstOfHand_25 : decode cX1_firstOfHand 25 = .ok (.ireturn, 1) := by decide +kernel
theorem dX1_firstOfHand_26 : decode cX1_firstOfHand 26 = .ok (.iinc 3 1, 3) := by decide +kernel
theorem dX1_firstOfHand_29 : decode cX1_firstOfHand 29 = .ok (.goto (-23), 3) := by decide +kernel
theorem dX1_firstOfHand_32 : decode cX1_firstOfHand 32 = .ok (.iconst (-1), 1) := by decide +kernel
theorem dX1_firstOfHand_33 : decode cX1_firstOfHand 33 = .ok (.ireturn, 1) := by decide +kernel
theorem dX1_lastOfHand_0 : decode cX1_lastOfHand 0 = .ok (.iload_n 2, 1) := by decide +kernel
theorem dX1_lastOfHand_1 : decode cX1_lastOfHand 1 = .ok (.aload_n 0, 1) := by decide +kernel
theorem dX1_lastOfHand_2 : decode cX1_lastOfHand 2 = .ok (.getfield 33, 3) := by decide +kernel
theorem dX1_lastOfHand_5 : decode cX1_lastOfHand 5 = .ok (.invokestatic 57, 3) := by decide +kernel
theorem dX1_lastOfHand_8 : decode cX1_lastOfHand 8 = .ok (.iconst 1, 1) := by decide +kernel
theorem dX1_lastOfHand_9 : decode cX1_lastOfHand 9 = .ok (.isub, 1) := by decide +kernel
theorem dX1_lastOfHand_10 : decode cX1_lastOfHand 10 = .ok (.istore_n 3, 1) := by decide +kernel
theorem dX1_lastOfHand_11 : decode cX1_lastOfHand 11 = .ok (.iload_n 3, 1) := by decide +kernel
theorem dX1_lastOfHand_12 : decode cX1_lastOfHand 12 = .ok (.ifCond .lt 21, 3) := by decide +kernel
theorem dX1_lastOfHand_15 : decode cX1_lastOfHand 15 = .ok (.aload_n 0, 1) := by decide +kernel
theorem dX1_lastOfHand_16 : decode cX1_lastOfHand 16 = .ok (.getfield 15, 3) := by decide +kernel
theorem dX1_lastOfHand_19 : decode cX1_lastOfHand 19 = .ok (.iload_n 3, 1) := by decide +kernel
theorem dX1_lastOfHand_20 : decode cX1_lastOfHand 20 = .ok (.iaload, 1) := by decide +kernel
theorem dX1_lastOfHand_21 : decode cX1_lastOfHand 21 = .ok (.iload_n 1, 1) := by decide +kernel
theorem dX1_lastOfHand_22 : decode cX1_lastOfHand 22 = .ok (.if_icmp .ne 5, 3) := by decide +kernel
theorem dX1_lastOfHand_25 : decode cX1_lastOfHand 25 = .ok (.iload_n 3, 1) := by decide +kernel
theorem dX1_lastOfHand_26 : decode cX1_lastOfHand 26 = .ok (.ireturn, 1) := by decide +kernel
theorem dX1_lastOfHand_27 : decode cX1_lastOfHand 27 = .ok (.iinc 3 (-1), 3) := by decide +kernel
theorem dX1_lastOfHand_30 : decode cX1_lastOfHand 30 = .ok (.goto (-19), 3) := by decide +kernel
theorem dX1_lastOfHand_33 : decode cX1_lastOfHand 33 = .ok (.iconst (-1), 1) := by decide +kernel
theorem dX1_lastOfHand_34 : decode cX1_lastOfHand 34 = .ok (.ireturn, 1) := by decide +kernel
theorem dX1_after_0 : decode cX1_after 0 = .ok (.aload_n 0, 1) := by decide +kernel
theorem dX1_after_1 : decode cX1_after 1 = .ok (.aload_n 0, 1) := by decide +kernel
theorem dX1_after_2 : decode cX1_after 2 = .ok (.iload_n 1, 1) := by decide +kernel
theorem dX1_after_3 : decode cX1_after 3 = .ok (.invokevirtual 60, 3) := by decide +kernel
theorem dX1_after_6 : decode cX1_after 6 = .ok (.iload_n 1, 1) := by decide +kernel
theorem dX1_after_7 : decode cX1_after 7 = .ok (.iconst 1, 1) := by decide +kernel
theorem dX1_after_8 : decode cX1_after 8 = .ok (.iadd, 1) := by decide +kernel
theorem dX1_after_9 : decode cX1_after 9 = .ok (.invokevirtual 63, 3) := by decide +kernel
theorem dX1_after_12 : decode cX1_after 12 = .ok (.ireturn, 1) := by decide +kernel
theorem dX1_before_0 : decode cX1_before 0 = .ok (.aload_n 0, 1) := by decide +kernel
theorem dX1_before_1 : decode cX1_before 1 = .ok (.aload_n 0, 1) := by decide +kernel
theorem dX1_before_2 : decode cX1_before 2 = .ok (.iload_n 1, 1) := by decide +kernel
theorem dX1_before_3 : decode cX1_before 3 = .ok (.invokevirtual 60, 3) := by decide +kernel
theorem dX1_before_6 : decode cX1_before 6 = .ok (.iload_n 1, 1) := by decide +kernel
theorem dX1_before_7 : decode cX1_before 7 = .ok (.invokevirtual 66, 3) := by decide +kernel
theorem dX1_before_10 : decode cX1_before 10 = .ok (.ireturn, 1) := by decide +kernel
theorem dX1_countOfHand_0 : decode cX1_countOfHand 0 = .ok (.iconst 0, 1) := by decide +kernel
theorem dX1_countOfHand_1 : decode cX1_countOfHand 1 = .ok (.istore_n 2, 1) := by decide +kernel
theorem dX1_countOfHand_2 : decode cX1_countOfHand 2 = .ok (.iconst 0, 1) := by decide +kernel
theorem dX1_countOfHand_3 : decode cX1_countOfHand 3 = .ok (.istore_n 3, 1) := by decide +kernel
theorem dX1_countOfHand_4 : decode cX1_countOfHand 4 = .ok (.iload_n 3, 1) := by decide +kernel
theorem dX1_countOfHand_5 : decode cX1_countOfHand 5 = .ok (.aload_n 0, 1) := by decide +kernel
theorem dX1_countOfHand_6 : decode cX1_countOfHand 6 = .ok (.getfield 33, 3) := by decide +kernel
theorem dX1_countOfHand_9 : decode cX1_countOfHand 9 = .ok (.if_icmp .ge 27, 3) := by decide +kernel
theorem dX1_countOfHand_12 : decode cX1_countOfHand 12 = .ok (.iload_n 2, 1) := by decide +kernel
theorem dX1_countOfHand_13 : decode cX1_countOfHand 13 = .ok (.aload_n 0, 1) := by decide +kernel
theorem dX1_countOfHand_14 : decode cX1_countOfHand 14 = .ok (.getfield 15, 3) := by decide +kernel
theorem dX1_countOfHand_17 : decode cX1_countOfHand 17 = .ok (.iload_n 3, 1) := by decide +kernel
theorem dX1_countOfHand_18 : decode cX1_countOfHand 18 = .ok (.iaload, 1) := by decide +kernel
theorem dX1_countOfHand_19 : decode cX1_countOfHand 19 = .ok (.iload_n 1, 1) := by decide +kernel
theorem dX1_countOfHand_20 : decode cX1_countOfHand 20 = .ok (.if_icmp .ne 7, 3) := by decide +kernel
theorem dX1_countOfHand_23 : decode cX1_countOfHand 23 = .ok (.iconst 1, 1) := by decide +kernel
theorem dX1_countOfHand_24 : decode cX1_countOfHand 24 = .ok (.goto 4, 3) := by decide +kernel
theorem dX1_countOfHand_27 : decode cX1_countOfHand 27 = .ok (.iconst 0, 1) := by decide +kernel
theorem dX1_countOfHand_28 : decode cX1_countOfHand 28 = .ok (.iadd, 1) := by decide +kernel
theorem dX1_countOfHand_29 : decode cX1_countOfHand 29 = .ok (.istore_n 2, 1) := by decide +kernel
theorem dX1_countOfHand_30 : decode cX1_countOfHand 30 = .ok (.iinc 3 1, 3) := by decide +kernel
theorem dX1_countOfHand_33 : decode cX1_countOfHand 33 = .ok (.goto (-29), 3) := by decide +kernel
theorem dX1_countOfHand_36 : decode cX1_countOfHand 36 = .ok (.iload_n 2, 1) := by decide +kernel
theorem dX1_countOfHand_37 : decode cX1_countOfHand 37 = .ok (.ireturn, 1) := by decide +kernel
theorem dX1_countPinned_0 : decode cX1_countPinned 0 = .ok (.iconst 0, 1) := by decide +kernel
theorem dX1_countPinned_1 : decode cX1_countPinned 1 = .ok (.istore_n 1, 1) := by decide +kernel
theorem dX1_countPinned_2 : decode cX1_countPinned 2 = .ok (.iconst 0, 1) := by decide +kernel
theorem dX1_countPinned_3 : decode cX1_countPinned 3 = .ok (.istore_n 2, 1) := by decide +kernel
theorem dX1_countPinned_4 : decode cX1_countPinned 4 = .ok (.iload_n 2, 1) := by decide +kernel
theorem dX1_countPinned_5 : decode cX1_countPinned 5 = .ok (.aload_n 0, 1) := by decide +kernel
theorem dX1_countPinned_6 : decode cX1_countPinned 6 = .ok (.getfield 33, 3) := by decide +kernel
theorem dX1_countPinned_9 : decode cX1_countPinned 9 = .ok (.if_icmp .ge 28, 3) := by decide +kernel
theorem dX1_countPinned_12 : decode cX1_countPinned 12 = .ok (.iload_n 1, 1) := by decide +kernel
theorem dX1_countPinned_13 : decode cX1_countPinned 13 = .ok (.aload_n 0, 1) := by decide +kernel
theorem dX1_countPinned_14 : decode cX1_countPinned 14 = .ok (.getfield 27, 3) := by decide +kernel
theorem dX1_countPinned_17 : decode cX1_countPinned 17 = .ok (.iload_n 2, 1) := by decide +kernel
theorem dX1_countPinned_18 : decode cX1_countPinned 18 = .ok (.iaload, 1) := by decide +kernel
theorem dX1_countPinned_19 : decode cX1_countPinned 19 = .ok (.bipush (-2), 2) := by decide +kernel
theorem dX1_countPinned_21 : decode cX1_countPinned 21 = .ok (.if_icmp .eq 7, 3) := by decide +kernel
theorem dX1_countPinned_24 : decode cX1_countPinned 24 = .ok (.iconst 1, 1) := by decide +kernel
theorem dX1_countPinned_25 : decode cX1_countPinned 25 = .ok (.goto 4, 3) := by decide +kernel
theorem dX1_countPinned_28 : decode cX1_countPinned 28 = .ok (.iconst 0, 1) := by decide +kernel
theorem dX1_countPinned_29 : decode cX1_countPinned 29 = .ok (.iadd, 1) := by decide +kernel
theorem dX1_countPinned_30 : decode cX1_countPinned 30 = .ok (.istore_n 1, 1) := by decide +kernel
theorem dX1_countPinned_31 : decode cX1_countPinned 31 = .ok (.iinc 2 1, 3) := by decide +kernel
theorem dX1_countPinned_34 : decode cX1_countPinned 34 = .ok (.goto (-30), 3) := by decide +kernel
theorem dX1_countPinned_37 : decode cX1_countPinned 37 = .ok (.iload_n 1, 1) := by decide +kernel
theorem dX1_countPinned_38 : decode cX1_countPinned 38 = .ok (.ireturn, 1) := by decide +kernel
theorem dX2_init_0 : decode cX2_init 0 = .ok (.aload_n 0, 1) := by decide +kernel
theorem dX2_init_1 : decode cX2_init 1 = .ok (.invokespecial 3, 3) := by decide +kernel
theorem dX2_init_4 : decode cX2_init 4 = .ok (.aload_n 0, 1) := by decide +kernel
theorem dX2_init_5 : decode cX2_init 5 = .ok (.new 9, 3) := by decide +kernel
theorem dX2_init_8 : decode cX2_init 8 = .ok (.dup, 1) := by decide +kernel
theorem dX2_init_9 : decode cX2_init 9 = .ok (.invokespecial 11, 3) := by decide +kernel
theorem dX2_init_12 : decode cX2_init 12 = .ok (.putfield 12, 3) := by decide +kernel
theorem dX2_init_15 : decode cX2_init 15 = .ok (.aload_n 0, 1) := by decide +kernel
theorem dX2_init_16 : decode cX2_init 16 = .ok (.bipush 40, 2) := by decide +kernel
theorem dX2_init_18 : decode cX2_init 18 = .ok (.newarray .int, 2) := by decide +kernel
theorem dX2_init_20 : decode cX2_init 20 = .ok (.putfield 18, 3) := by decide +kernel
theorem dX2_init_23 : decode cX2_init 23 = .ok (.aload_n 0, 1) := by decide +kernel
theorem dX2_init_24 : decode cX2_init 24 = .ok (.iconst 0, 1) := by decide +kernel
theorem dX2_init_25 : decode cX2_init 25 = .ok (.putfield 22, 3) := by decide +kernel
theorem dX2_init_28 : decode cX2_init 28 = .ok (.aload_n 0, 1) := by decide +kernel
theorem dX2_init_29 : decode cX2_init 29 = .ok (.iconst 1, 1) := by decide +kernel
theorem dX2_init_30 : decode cX2_init 30 = .ok (.iload_n 1, 1) := by decide +kernel
theorem dX2_init_31 : decode cX2_init 31 = .ok (.invokestatic 26, 3) := by decide +kernel
theorem dX2_init_34 : decode cX2_init 34 = .ok (.putfield 32, 3) := by decide +kernel
theorem dX2_init_37 : decode cX2_init 37 = .ok (.aload_n 0, 1) := by decide +kernel
theorem dX2_init_38 : decode cX2_init 38 = .ok (.bipush 40, 2) := by decide +kernel
theorem dX2_init_40 : decode cX2_init 40 = .ok (.aload_n 0, 1) := by decide +kernel
theorem dX2_init_41 : decode cX2_init 41 = .ok (.getfield 32, 3) := by decide +kernel
theorem dX2_init_44 : decode cX2_init 44 = .ok (.imul, 1) := by decide +kernel
theorem dX2_init_45 : decode cX2_init 45 = .ok (.newarray .int, 2) := by decide +kernel
theorem dX2_init_47 : decode cX2_init 47 = .ok (.putfield 35, 3) := by decide +kernel
theorem dX2_init_50 : decode cX2_init 50 = .ok (.aload_n 0, 1) := by decide +kernel
theorem dX2_init_51 : decode cX2_init 51 = .ok (.bipush 40, 2) := by decide +kernel
theorem dX2_init_53 : decode cX2_init 53 = .ok (.aload_n 0, 1) := by decide +kernel
theorem dX2_init_54 : decode cX2_init 54 = .ok (.getfield 32, 3) := by decide +kernel
theorem dX2_init_57 : decode cX2_init 57 = .ok (.imul, 1) := by decide +kernel
theorem dX2_init_58 : decode cX2_init 58 = .ok (.newarray .int, 2) := by decide +kernel
theorem dX2_init_60 : decode cX2_init 60 = .ok (.putfield 38, 3) := by decide +kernel
theorem dX2_init_63 : decode cX2_init 63 = .ok (.aload_n 0, 1) := by decide +kernel
theorem dX2_init_64 : decode cX2_init 64 = .ok (.bipush 40, 2) := by decide +kernel
theorem dX2_init_66 : decode cX2_init 66 = .ok (.aload_n 0, 1) := by decide +kernel
theorem dX2_init_67 : decode cX2_init 67 = .ok (.getfield 32, 3) := by decide +kernel
theorem dX2_init_70 : decode cX2_init 70 = .ok (.imul, 1) := by decide +kernel
theorem dX2_init_71 : decode cX2_init 71 = .ok (.newarray .int, 2) := by decide +kernel
theorem dX2_init_73 : decode cX2_init 73 = .ok (.putfield 41, 3) := by decide +kernel
theorem dX2_init_76 : decode cX2_init 76 = .ok (.return_, 1) := by decide +kernel
theorem dX2_listAll_0 : decode cX2_listAll 0 = .ok (.iconst 0, 1) := by decide +kernel
theorem dX2_listAll_1 : decode cX2_listAll 1 = .ok (.aload_n 0, 1) := by decide +kernel
theorem dX2_listAll_2 : decode cX2_listAll 2 = .ok (.getfield 22, 3) := by decide +kernel
theorem dX2_listAll_5 : decode cX2_listAll 5 = .ok (.invokestatic 26, 3) := by decide +kernel
theorem dX2_listAll_8 : decode cX2_listAll 8 = .ok (.istore_n 1, 1) := by decide +kernel
theorem dX2_listAll_9 : decode cX2_listAll 9 = .ok (.iload_n 1, 1) := by decide +kernel
theorem dX2_listAll_10 : decode cX2_listAll 10 = .ok (.aload_n 0, 1) := by decide +kernel
theorem dX2_listAll_11 : decode cX2_listAll 11 = .ok (.getfield 12, 3) := by decide +kernel
theorem dX2_listAll_14 : decode cX2_listAll 14 = .ok (.getfield 44, 3) := by decide +kernel
theorem dX2_listAll_17 : decode cX2_listAll 17 = .ok (.if_icmp .ge 38, 3) := by decide +kernel
theorem dX2_listAll_20 : decode cX2_listAll 20 = .ok (.iload_n 1, 1) := by decide +kernel
theorem dX2_listAll_21 : decode cX2_listAll 21 = .ok (.bipush 40, 2) := by decide +kernel
theorem dX2_listAll_23 : decode cX2_listAll 23 = .ok (.if_icmp .ge 32, 3) := by decide +kernel
theorem dX2_listAll_26 : decode cX2_listAll 26 = .ok (.aload_n 0, 1) := by decide +kernel
theorem dX2_listAll_27 : decode cX2_listAll 27 = .ok (.getfield 18, 3) := by decide +kernel
theorem dX2_listAll_30 : decode cX2_listAll 30 = .ok (.iload_n 1, 1) := by decide +kernel
theorem dX2_listAll_31 : decode cX2_listAll 31 = .ok (.iconst 0, 1) := by decide +kernel
theorem dX2_listAll_32 : decode cX2_listAll 32 = .ok (.iastore, 1) := by decide +kernel
theorem dX2_listAll_33 : decode cX2_listAll 33 = .ok (.aload_n 0, 1) := by decide +kernel
theorem dX2_listAll_34 : decode cX2_listAll 34 = .ok (.getfield 12, 3) := by decide +kernel
theorem dX2_listAll_37 : decode cX2_listAll 37 = .ok (.iload_n 1, 1) := by decide +kernel
theorem dX2_listAll_38 : decode cX2_listAll 38 = .ok (.invokevirtual 47, 3) := by decide +kernel
theorem dX2_listAll_41 : decode cX2_listAll 41 = .ok (.ifCond .eq 8, 3) := by decide +kernel
theorem dX2_listAll_44 : decode cX2_listAll 44 = .ok (.aload_n 0, 1) := by decide +kernel
theorem dX2_listAll_45 : decode cX2_listAll 45 = .ok (.iload_n 1, 1) := by decide +kernel
theorem dX2_listAll_46 : decode cX2_listAll 46 = .ok (.invokevirtual 51, 3) := by decide +kernel
theorem dX2_listAll_49 : decode cX2_listAll 49 = .ok (.iinc 1 1, 3) := by decide +kernel
theorem dX2_listAll_52 : decode cX2_listAll 52 = .ok (.goto (-43), 3) := by decide +kernel
theorem dX2_listAll_55 : decode cX2_listAll 55 = .ok (.aload_n 0, 1) := by decide +kernel
theorem dX2_listAll_56 : decode cX2_listAll 56 = .ok (.aload_n 0, 1) := by decide +kernel
theorem dX2_listAll_57 : decode cX2_listAll 57 = .ok (.getfield 12, 3) := by decide +kernel
theorem dX2_listAll_60 : decode cX2_listAll 60 = .ok (.getfield 44, 3) := by decide +kernel
theorem dX2_listAll_63 : decode cX2_listAll 63 = .ok (.putfield 22, 3) := by decide +kernel
theorem dX2_listAll_66 : decode cX2_listAll 66 = .ok (.return_, 1) := by decide +kernel
theorem dX2_addState_0 : decode cX2_addState 0 = .ok (.iload_n 1, 1) := by decide +kernel
theorem dX2_addState_1 : decode cX2_addState 1 = .ok (.ifCond .lt 31, 3) := by decide +kernel
theorem dX2_addState_4 : decode cX2_addState 4 = .ok (.iload_n 1, 1) := by decide +kernel
theorem dX2_addState_5 : decode cX2_addState 5 = .ok (.bipush 40, 2) := by decide +kernel
theorem dX2_addState_7 : decode cX2_addState 7 = .ok (.if_icmp .ge 25, 3) := by decide +kernel
theorem dX2_addState_10 : decode cX2_addState 10 = .ok (.aload_n 0, 1) := by decide +kernel
theorem dX2_addState_11 : decode cX2_addState 11 = .ok (.getfield 18, 3) := by decide +kernel
theorem dX2_addState_14 : decode cX2_addState 14 = .ok (.iload_n 1, 1) := by decide +kernel
theorem dX2_addState_15 : decode cX2_addState 15 = .ok (.iaload, 1) := by decide +kernel
theorem dX2_addState_16 : decode cX2_addState 16 = .ok (.ifCond .lt 16, 3) := by decide +kernel
theorem dX2_addState_19 : decode cX2_addState 19 = .ok (.aload_n 0, 1) := by decide +kernel
theorem dX2_addState_20 : decode cX2_addState 20 = .ok (.getfield 18, 3) := by decide +kernel
theorem dX2_addState_23 : decode cX2_addState 23 = .ok (.iload_n 1, 1) := by decide +kernel
theorem dX2_addState_24 : decode cX2_addState 24 = .ok (.iaload, 1) := by decide +kernel
theorem dX2_addState_25 : decode cX2_addState 25 = .ok (.aload_n 0, 1) := by decide +kernel
theorem dX2_addState_26 : decode cX2_addState 26 = .ok (.getfield 32, 3) := by decide +kernel
theorem dX2_addState_29 : decode cX2_addState 29 = .ok (.if_icmp .lt 4, 3) := by decide +kernel
theorem dX2_addState_32 : decode cX2_addState 32 = .ok (.return_, 1) := by decide +kernel
theorem dX2_addState_33 : decode cX2_addState 33 = .ok (.iload_n 1, 1) := by decide +kernel
theorem dX2_addState_34 : decode cX2_addState 34 = .ok (.aload_n 0, 1) := by decide +kernel
theorem dX2_addState_35 : decode cX2_addState 35 = .ok (.getfield 32, 3) := by decide +kernel
theorem dX2_addState_38 : decode cX2_addState 38 = .ok (.imul, 1) := by decide +kernel
theorem dX2_addState_39 : decode cX2_addState 39 = .ok (.aload_n 0, 1) := by decide +kernel
theorem dX2_addState_40 : decode cX2_addState 40 = .ok (.getfield 18, 3) := by decide +kernel
theorem dX2_addState_43 : decode cX2_addState 43 = .ok (.iload_n 1, 1) := by decide +kernel
theorem dX2_addState_44 : decode cX2_addState 44 = .ok (.iaload, 1) := by decide +kernel
theorem dX2_addState_45 : decode cX2_addState 45 = .ok (.iadd, 1) := by decide +kernel
theorem dX2_addState_46 : decode cX2_addState 46 = .ok (.istore 5, 2) := by decide +kernel
theorem dX2_addState_48 : decode cX2_addState 48 = .ok (.aload_n 0, 1) := by decide +kernel
theorem dX2_addState_49 : decode cX2_addState 49 = .ok (.getfield 35, 3) := by decide +kernel
theorem dX2_addState_52 : decode cX2_addState 52 = .ok (.iload 5, 2) := by decide +kernel
theorem dX2_addState_54 : decode cX2_addState 54 = .ok (.iload_n 2, 1) := by decide +kernel
theorem dX2_addState_55 : decode cX2_addState 55 = .ok (.iastore, 1) := by decide +kernel
theorem dX2_addState_56 : decode cX2_addState 56 = .ok (.aload_n 0, 1) := by decide +kernel
theorem dX2_addState_57 : decode cX2_addState 57 = .ok (.getfield 38, 3) := by decide +kernel
theorem dX2_addState_60 : decode cX2_addState 60 = .ok (.iload 5, 2) := by decide +kernel
theorem dX2_addState_62 : decode cX2_addState 62 = .ok (.iload_n 3, 1) := by decide +kernel
theorem dX2_addState_63 : decode cX2_addState 63 = .ok (.iastore, 1) := by decide +kernel
theorem dX2_addState_64 : decode cX2_addState 64 = .ok (.aload_n 0, 1) := by decide +kernel
theorem dX2_addState_65 : decode cX2_addState 65 = .ok (.getfield 41, 3) := by decide +kernel
theorem dX2_addState_68 : decode cX2_addState 68 = .ok (.iload 5, 2) := by decide +kernel
theorem dX2_addState_70 : decode cX2_addState 70 = .ok (.iload 4, 2) := by decide +kernel
theorem dX2_addState_72 : decode cX2_addState 72 = .ok (.iastore, 1) := by decide +kernel
theorem dX2_addState_73 : decode cX2_addState 73 = .ok (.aload_n 0, 1) := by decide +kernel
theorem dX2_addState_74 : decode cX2_addState 74 = .ok (.getfield 18, 3) := by decide +kernel
theorem dX2_addState_77 : decode cX2_addState 77 = .ok (.iload_n 1, 1) := by decide +kernel
theorem dX2_addState_78 : decode cX2_addState 78 = .ok (.dup2, 1) := by decide +kernel
theorem dX2_addState_79 : decode cX2_addState 79 = .ok (.iaload, 1) := by decide +kernel
theorem dX2_addState_80 : decode cX2_addState 80 = .ok (.iconst 1, 1) := by decide +kernel
theorem dX2_addState_81 : decode cX2_addState 81 = .ok (.iadd, 1) := by decide +kernel
theorem dX2_addState_82 : decode cX2_addState 82 = .ok (.iastore, 1) := by decide +kernel
theorem dX2_addState_83 : decode cX2_addState 83 = .ok (.return_, 1) := by decide +kernel
theorem dX2_countOf_0 : decode cX2_countOf 0 = .ok (.iload_n 1, 1) := by decide +kernel
theorem dX2_countOf_1 : decode cX2_countOf 1 = .ok (.ifCond .lt 18, 3) := by decide +kernel
theorem dX2_countOf_4 : decode cX2_countOf 4 = .ok (.iload_n 1, 1) := by decide +kernel
theorem dX2_countOf_5 : decode cX2_countOf 5 = .ok (.bipush 40, 2) := by decide +kernel
theorem dX2_countOf_7 : decode cX2_countOf 7 = .ok (.if_icmp .ge 12, 3) := by decide +kernel
theorem dX2_countOf_10 : decode cX2_countOf 10 = .ok (.aload_n 0, 1) := by decide +kernel
theorem dX2_countOf_11 : decode cX2_countOf 11 = .ok (.getfield 18, 3) := by decide +kernel
theorem dX2_countOf_14 : decode cX2_countOf 14 = .ok (.iload_n 1, 1) := by decide +kernel
theorem dX2_countOf_15 : decode cX2_countOf 15 = .ok (.iaload, 1) := by decide +kernel
theorem dX2_countOf_16 : decode cX2_countOf 16 = .ok (.goto 4, 3) := by decide +kernel
theorem dX2_countOf_19 : decode cX2_countOf 19 = .ok (.iconst 0, 1) := by decide +kernel
theorem dX2_countOf_20 : decode cX2_countOf 20 = .ok (.ireturn, 1) := by decide +kernel
theorem dX2_priceOf_0 : decode cX2_priceOf 0 = .ok (.iload_n 1, 1) := by decide +kernel
theorem dX2_priceOf_1 : decode cX2_priceOf 1 = .ok (.aload_n 0, 1) := by decide +kernel
theorem dX2_priceOf_2 : decode cX2_priceOf 2 = .ok (.getfield 32, 3) := by decide +kernel
theorem dX2_priceOf_5 : decode cX2_priceOf 5 = .ok (.imul, 1) := by decide +kernel
theorem dX2_priceOf_6 : decode cX2_priceOf 6 = .ok (.iload_n 2, 1) := by decide +kernel
theorem dX2_priceOf_7 : decode cX2_priceOf 7 = .ok (.iadd, 1) := by decide +kernel
theorem dX2_priceOf_8 : decode cX2_priceOf 8 = .ok (.istore_n 3, 1) := by decide +kernel
theorem dX2_priceOf_9 : decode cX2_priceOf 9 = .ok (.iload_n 3, 1) := by decide +kernel
theorem dX2_priceOf_10 : decode cX2_priceOf 10 = .ok (.ifCond .lt 21, 3) := by decide +kernel
theorem dX2_priceOf_13 : decode cX2_priceOf 13 = .ok (.iload_n 3, 1) := by decide +kernel
theorem dX2_priceOf_14 : decode cX2_priceOf 14 = .ok (.aload_n 0, 1) := by decide +kernel
theorem dX2_priceOf_15 : decode cX2_priceOf 15 = .ok (.getfield 35, 3) := by decide +kernel
theorem dX2_priceOf_18 : decode cX2_priceOf 18 = .ok (.arraylength, 1) := by decide +kernel
theorem dX2_priceOf_19 : decode cX2_priceOf 19 = .ok (.if_icmp .ge 12, 3) := by decide +kernel
theorem dX2_priceOf_22 : decode cX2_priceOf 22 = .ok (.aload_n 0, 1) := by decide +kernel
theorem dX2_priceOf_23 : decode cX2_priceOf 23 = .ok (.getfield 35, 3) := by decide +kernel
theorem dX2_priceOf_26 : decode cX2_priceOf 26 = .ok (.iload_n 3, 1) := by decide +kernel
theorem dX2_priceOf_27 : decode cX2_priceOf 27 = .ok (.iaload, 1) := by decide +kernel
theorem dX2_priceOf_28 : decode cX2_priceOf 28 = .ok (.goto 4, 3) := by decide +kernel
theorem dX2_priceOf_31 : decode cX2_priceOf 31 = .ok (.iconst 0, 1) := by decide +kernel
theorem dX2_priceOf_32 : decode cX2_priceOf 32 = .ok (.ireturn, 1) := by decide +kernel
theorem dX2_firstOf_0 : decode cX2_firstOf 0 = .ok (.iload_n 1, 1) := by decide +kernel
theorem dX2_firstOf_1 : decode cX2_firstOf 1 = .ok (.aload_n 0, 1) := by decide +kernel
theorem dX2_firstOf_2 : decode cX2_firstOf 2 = .ok (.getfield 32, 3) := by decide +kernel
theorem dX2_firstOf_5 : decode cX2_firstOf 5 = .ok (.imul, 1) := by decide +kernel
theorem dX2_firstOf_6 : decode cX2_firstOf 6 = .ok (.iload_n 2, 1) := by decide +kernel
theorem dX2_firstOf_7 : decode cX2_firstOf 7 = .ok (.iadd, 1) := by decide +kernel
theorem dX2_firstOf_8 : decode cX2_firstOf 8 = .ok (.istore_n 3, 1) := by decide +kernel
theorem dX2_firstOf_9 : decode cX2_firstOf 9 = .ok (.iload_n 3, 1) := by decide +kernel
theorem dX2_firstOf_10 : decode cX2_firstOf 10 = .ok (.ifCond .lt 21, 3) := by decide +kernel
theorem dX2_firstOf_13 : decode cX2_firstOf 13 = .ok (.iload_n 3, 1) := by decide +kernel
theorem dX2_firstOf_14 : decode cX2_firstOf 14 = .ok (.aload_n 0, 1) := by decide +kernel
theorem dX2_firstOf_15 : decode cX2_firstOf 15 = .ok (.getfield 38, 3) := by decide +kernel
theorem dX2_firstOf_18 : decode cX2_firstOf 18 = .ok (.arraylength, 1) := by decide +kernel
theorem dX2_firstOf_19 : decode cX2_firstOf 19 = .ok (.if_icmp .ge 12, 3) := by decide +kernel
theorem dX2_firstOf_22 : decode cX2_firstOf 22 = .ok (.aload_n 0, 1) := by decide +kernel
theorem dX2_firstOf_23 : decode cX2_firstOf 23 = .ok (.getfield 38, 3) := by decide +kernel
theorem dX2_firstOf_26 : decode cX2_firstOf 26 = .ok (.iload_n 3, 1) := by decide +kernel
theorem dX2_firstOf_27 : decode cX2_firstOf 27 = .ok (.iaload, 1) := by decide +kernel
theorem dX2_firstOf_28 : decode cX2_firstOf 28 = .ok (.goto 4, 3) := by decide +kernel
theorem dX2_firstOf_31 : decode cX2_firstOf 31 = .ok (.iconst 0, 1) := by decide +kernel
theorem dX2_firstOf_32 : decode cX2_firstOf 32 = .ok (.ireturn, 1) := by decide +kernel
theorem dX2_secondOf_0 : decode cX2_secondOf 0 = .ok (.iload_n 1, 1) := by decide +kernel
theorem dX2_secondOf_1 : decode cX2_secondOf 1 = .ok (.aload_n 0, 1) := by decide +kernel
theorem dX2_secondOf_2 : decode cX2_secondOf 2 = .ok (.getfield 32, 3) := by decide +kernel
theorem dX2_secondOf_5 : decode cX2_secondOf 5 = .ok (.imul, 1) := by decide +kernel
theorem dX2_secondOf_6 : decode cX2_secondOf 6 = .ok (.iload_n 2, 1) := by decide +kernel
theorem dX2_secondOf_7 : decode cX2_secondOf 7 = .ok (.iadd, 1) := by decide +kernel
theorem dX2_secondOf_8 : decode cX2_secondOf 8 = .ok (.istore_n 3, 1) := by decide +kernel
theorem dX2_secondOf_9 : decode cX2_secondOf 9 = .ok (.iload_n 3, 1) := by decide +kernel
theorem dX2_secondOf_10 : decode cX2_secondOf 10 = .ok (.ifCond .lt 21, 3) := by decide +kernel
theorem dX2_secondOf_13 : decode cX2_secondOf 13 = .ok (.iload_n 3, 1) := by decide +kernel
theorem dX2_secondOf_14 : decode cX2_secondOf 14 = .ok (.aload_n 0, 1) := by decide +kernel
theorem dX2_secondOf_15 : decode cX2_secondOf 15 = .ok (.getfield 41, 3) := by decide +kernel
theorem dX2_secondOf_18 : decode cX2_secondOf 18 = .ok (.arraylength, 1) := by decide +kernel
theorem dX2_secondOf_19 : decode cX2_secondOf 19 = .ok (.if_icmp .ge 12, 3) := by decide +kernel
theorem dX2_secondOf_22 : decode cX2_secondOf 22 = .ok (.aload_n 0, 1) := by decide +kernel
theorem dX2_secondOf_23 : decode cX2_secondOf 23 = .ok (.getfield 41, 3) := by decide +kernel
theorem dX2_secondOf_26 : decode cX2_secondOf 26 = .ok (.iload_n 3, 1) := by decide +kernel
theorem dX2_secondOf_27 : decode cX2_secondOf 27 = .ok (.iaload, 1) := by decide +kernel
theorem dX2_secondOf_28 : decode cX2_secondOf 28 = .ok (.goto 4, 3) := by decide +kernel
theorem dX2_secondOf_31 : decode cX2_secondOf 31 = .ok (.iconst 0, 1) := by decide +kernel
theorem dX2_secondOf_32 : decode cX2_secondOf 32 = .ok (.ireturn, 1) := by decide +kernel
theorem dX2_tooFar_0 : decode cX2_tooFar 0 = .ok (.iload_n 1, 1) := by decide +kernel
theorem dX2_tooFar_1 : decode cX2_tooFar 1 = .ok (.aload_n 0, 1) := by decide +kernel
theorem dX2_tooFar_2 : decode cX2_tooFar 2 = .ok (.getfield 12, 3) := by decide +kernel
theorem dX2_tooFar_5 : decode cX2_tooFar 5 = .ok (.iconst 0, 1) := by decide +kernel
theorem dX2_tooFar_6 : decode cX2_tooFar 6 = .ok (.invokevirtual 55, 3) := by decide +kernel
theorem dX2_tooFar_9 : decode cX2_tooFar 9 = .ok (.imul, 1) := by decide +kernel
theorem dX2_tooFar_10 : decode cX2_tooFar 10 = .ok (.aload_n 0, 1) := by decide +kernel
theorem dX2_tooFar_11 : decode cX2_tooFar 11 = .ok (.getfield 12, 3) := by decide +kernel
theorem dX2_tooFar_14 : decode cX2_tooFar 14 = .ok (.iload_n 3, 1) := by decide +kernel
theorem dX2_tooFar_15 : decode cX2_tooFar 15 = .ok (.invokevirtual 59, 3) := by decide +kernel
theorem dX2_tooFar_18 : decode cX2_tooFar 18 = .ok (.aload_n 0, 1) := by decide +kernel
theorem dX2_tooFar_19 : decode cX2_tooFar 19 = .ok (.getfield 12, 3) := by decide +kernel
theorem dX2_tooFar_22 : decode cX2_tooFar 22 = .ok (.iload_n 2, 1) := by decide +kernel
theorem dX2_tooFar_23 : decode cX2_tooFar 23 = .ok (.invokevirtual 59, 3) := by decide +kernel
theorem dX2_tooFar_26 : decode cX2_tooFar 26 = .ok (.isub, 1) := by decide +kernel
theorem dX2_tooFar_27 : decode cX2_tooFar 27 = .ok (.if_icmp .le 7, 3) := by decide +kernel
theorem dX2_tooFar_30 : decode cX2_tooFar 30 = .ok (.iconst 1, 1) := by decide +kernel
theorem dX2_tooFar_31 : decode cX2_tooFar 31 = .ok (.goto 4, 3) := by decide +kernel
theorem dX2_tooFar_34 : decode cX2_tooFar 34 = .ok (.iconst 0, 1) := by decide +kernel
theorem dX2_tooFar_35 : decode cX2_tooFar 35 = .ok (.ireturn, 1) := by decide +kernel
theorem dX3_init_0 : decode cX3_init 0 = .ok (.aload_n 0, 1) := by decide +kernel
theorem dX3_init_1 : decode cX3_init 1 = .ok (.invokespecial 3, 3) := by decide +kernel
theorem dX3_init_4 : decode cX3_init 4 = .ok (.aload_n 0, 1) := by decide +kernel
theorem dX3_init_5 : decode cX3_init 5 = .ok (.bipush 40, 2) := by decide +kernel
theorem dX3_init_7 : decode cX3_init 7 = .ok (.newarray .int, 2) := by decide +kernel
theorem dX3_init_9 : decode cX3_init 9 = .ok (.putfield 9, 3) := by decide +kernel
theorem dX3_init_12 : decode cX3_init 12 = .ok (.aload_n 0, 1) := by decide +kernel
theorem dX3_init_13 : decode cX3_init 13 = .ok (.iconst 0, 1) := by decide +kernel
theorem dX3_init_14 : decode cX3_init 14 = .ok (.putfield 15, 3) := by decide +kernel
theorem dX3_init_17 : decode cX3_init 17 = .ok (.aload_n 0, 1) := by decide +kernel
theorem dX3_init_18 : decode cX3_init 18 = .ok (.bipush (-2), 2) := by decide +kernel
theorem dX3_init_20 : decode cX3_init 20 = .ok (.putfield 19, 3) := by decide +kernel
theorem dX3_init_23 : decode cX3_init 23 = .ok (.aload_n 0, 1) := by decide +kernel
theorem dX3_init_24 : decode cX3_init 24 = .ok (.iconst 0, 1) := by decide +kernel
theorem dX3_init_25 : decode cX3_init 25 = .ok (.putfield 22, 3) := by decide +kernel
theorem dX3_init_28 : decode cX3_init 28 = .ok (.aload_n 0, 1) := by decide +kernel
theorem dX3_init_29 : decode cX3_init 29 = .ok (.iconst 1, 1) := by decide +kernel
theorem dX3_init_30 : decode cX3_init 30 = .ok (.iload_n 1, 1) := by decide +kernel
theorem dX3_init_31 : decode cX3_init 31 = .ok (.invokestatic 26, 3) := by decide +kernel
theorem dX3_init_34 : decode cX3_init 34 = .ok (.putfield 32, 3) := by decide +kernel
theorem dX3_init_37 : decode cX3_init 37 = .ok (.aload_n 0, 1) := by decide +kernel
theorem dX3_init_38 : decode cX3_init 38 = .ok (.bipush 40, 2) := by decide +kernel
theorem dX3_init_40 : decode cX3_init 40 = .ok (.aload_n 0, 1) := by decide +kernel
theorem dX3_init_41 : decode cX3_init 41 = .ok (.getfield 32, 3) := by decide +kernel
theorem dX3_init_44 : decode cX3_init 44 = .ok (.imul, 1) := by decide +kernel
theorem dX3_init_45 : decode cX3_init 45 = .ok (.newarray .int, 2) := by decide +kernel
theorem dX3_init_47 : decode cX3_init 47 = .ok (.putfield 35, 3) := by decide +kernel
theorem dX3_init_50 : decode cX3_init 50 = .ok (.return_, 1) := by decide +kernel
theorem dX3_refresh_0 : decode cX3_refresh 0 = .ok (.aload_n 0, 1) := by decide +kernel
theorem dX3_refresh_1 : decode cX3_refresh 1 = .ok (.getfield 22, 3) := by decide +kernel
theorem dX3_refresh_4 : decode cX3_refresh 4 = .ok (.ifCond .eq 4, 3) := by decide +kernel
theorem dX3_refresh_7 : decode cX3_refresh 7 = .ok (.return_, 1) := by decide +kernel
theorem dX3_refresh_8 : decode cX3_refresh 8 = .ok (.aload_n 1, 1) := by decide +kernel
theorem dX3_refresh_9 : decode cX3_refresh 9 = .ok (.invokevirtual 38, 3) := by decide +kernel
theorem dX3_refresh_12 : decode cX3_refresh 12 = .ok (.aload_n 0, 1) := by decide +kernel
theorem dX3_refresh_13 : decode cX3_refresh 13 = .ok (.aload_n 0, 1) := by decide +kernel
theorem dX3_refresh_14 : decode cX3_refresh 14 = .ok (.aload_n 1, 1) := by decide +kernel
theorem dX3_refresh_15 : decode cX3_refresh 15 = .ok (.invokevirtual 43, 3) := by decide +kernel
theorem dX3_refresh_18 : decode cX3_refresh 18 = .ok (.putfield 19, 3) := by decide +kernel
theorem dX3_refresh_21 : decode cX3_refresh 21 = .ok (.aload_n 0, 1) := by decide +kernel
theorem dX3_refresh_22 : decode cX3_refresh 22 = .ok (.bipush (-2), 2) := by decide +kernel
theorem dX3_refresh_24 : decode cX3_refresh 24 = .ok (.putfield 15, 3) := by decide +kernel
theorem dX3_refresh_27 : decode cX3_refresh 27 = .ok (.aload_n 0, 1) := by decide +kernel
theorem dX3_refresh_28 : decode cX3_refresh 28 = .ok (.getfield 19, 3) := by decide +kernel
theorem dX3_refresh_31 : decode cX3_refresh 31 = .ok (.bipush (-2), 2) := by decide +kernel
theorem dX3_refresh_33 : decode cX3_refresh 33 = .ok (.if_icmp .ne 25, 3) := by decide +kernel
theorem dX3_refresh_36 : decode cX3_refresh 36 = .ok (.aload_n 0, 1) := by decide +kernel
theorem dX3_refresh_37 : decode cX3_refresh 37 = .ok (.aload_n 1, 1) := by decide +kernel
theorem dX3_refresh_38 : decode cX3_refresh 38 = .ok (.invokevirtual 47, 3) := by decide +kernel
theorem dX3_refresh_41 : decode cX3_refresh 41 = .ok (.aload_n 0, 1) := by decide +kernel
theorem dX3_refresh_42 : decode cX3_refresh 42 = .ok (.aload_n 1, 1) := by decide +kernel
theorem dX3_refresh_43 : decode cX3_refresh 43 = .ok (.invokevirtual 51, 3) := by decide +kernel
theorem dX3_refresh_46 : decode cX3_refresh 46 = .ok (.aload_n 0, 1) := by decide +kernel
theorem dX3_refresh_47 : decode cX3_refresh 47 = .ok (.aload_n 0, 1) := by decide +kernel
theorem dX3_refresh_48 : decode cX3_refresh 48 = .ok (.aload_n 1, 1) := by decide +kernel
theorem dX3_refresh_49 : decode cX3_refresh 49 = .ok (.getfield 54, 3) := by decide +kernel
theorem dX3_refresh_52 : decode cX3_refresh 52 = .ok (.invokevirtual 58, 3) := by decide +kernel
theorem dX3_refresh_55 : decode cX3_refresh 55 = .ok (.putfield 15, 3) := by decide +kernel
theorem dX3_refresh_58 : decode cX3_refresh 58 = .ok (.aload_n 0, 1) := by decide +kernel
theorem dX3_refresh_59 : decode cX3_refresh 59 = .ok (.iconst 1, 1) := by decide +kernel
theorem dX3_refresh_60 : decode cX3_refresh 60 = .ok (.putfield 22, 3) := by decide +kernel
theorem dX3_refresh_63 : decode cX3_refresh 63 = .ok (.return_, 1) := by decide +kernel
theorem dX3_chosenOf_0 : decode cX3_chosenOf 0 = .ok (.iload_n 1, 1) := by decide +kernel
theorem dX3_chosenOf_1 : decode cX3_chosenOf 1 = .ok (.ifCond .lt 18, 3) := by decide +kernel
theorem dX3_chosenOf_4 : decode cX3_chosenOf 4 = .ok (.iload_n 1, 1) := by decide +kernel
theorem dX3_chosenOf_5 : decode cX3_chosenOf 5 = .ok (.bipush 40, 2) := by decide +kernel
theorem dX3_chosenOf_7 : decode cX3_chosenOf 7 = .ok (.if_icmp .ge 12, 3) := by decide +kernel
theorem dX3_chosenOf_10 : decode cX3_chosenOf 10 = .ok (.aload_n 0, 1) := by decide +kernel
theorem dX3_chosenOf_11 : decode cX3_chosenOf 11 = .ok (.getfield 9, 3) := by decide +kernel
theorem dX3_chosenOf_14 : decode cX3_chosenOf 14 = .ok (.iload_n 1, 1) := by decide +kernel
theorem dX3_chosenOf_15 : decode cX3_chosenOf 15 = .ok (.iaload, 1) := by decide +kernel
theorem dX3_chosenOf_16 : decode cX3_chosenOf 16 = .ok (.goto 5, 3) := by decide +kernel
theorem dX3_chosenOf_19 : decode cX3_chosenOf 19 = .ok (.bipush (-2), 2) := by decide +kernel
theorem dX3_chosenOf_21 : decode cX3_chosenOf 21 = .ok (.ireturn, 1) := by decide +kernel
theorem dX3_painsOf_0 : decode cX3_painsOf 0 = .ok (.iload_n 1, 1) := by decide +kernel
theorem dX3_painsOf_1 : decode cX3_painsOf 1 = .ok (.aload_n 0, 1) := by decide +kernel
theorem dX3_painsOf_2 : decode cX3_painsOf 2 = .ok (.getfield 32, 3) := by decide +kernel
theorem dX3_painsOf_5 : decode cX3_painsOf 5 = .ok (.imul, 1) := by decide +kernel
theorem dX3_painsOf_6 : decode cX3_painsOf 6 = .ok (.iload_n 2, 1) := by decide +kernel
theorem dX3_painsOf_7 : decode cX3_painsOf 7 = .ok (.iadd, 1) := by decide +kernel
theorem dX3_painsOf_8 : decode cX3_painsOf 8 = .ok (.istore_n 3, 1) := by decide +kernel
theorem dX3_painsOf_9 : decode cX3_painsOf 9 = .ok (.iload_n 3, 1) := by decide +kernel
theorem dX3_painsOf_10 : decode cX3_painsOf 10 = .ok (.ifCond .lt 21, 3) := by decide +kernel
theorem dX3_painsOf_13 : decode cX3_painsOf 13 = .ok (.iload_n 3, 1) := by decide +kernel
theorem dX3_painsOf_14 : decode cX3_painsOf 14 = .ok (.aload_n 0, 1) := by decide +kernel
theorem dX3_painsOf_15 : decode cX3_painsOf 15 = .ok (.getfield 35, 3) := by decide +kernel
theorem dX3_painsOf_18 : decode cX3_painsOf 18 = .ok (.arraylength, 1) := by decide +kernel
theorem dX3_painsOf_19 : decode cX3_painsOf 19 = .ok (.if_icmp .ge 12, 3) := by decide +kernel
theorem dX3_painsOf_22 : decode cX3_painsOf 22 = .ok (.aload_n 0, 1) := by decide +kernel
theorem dX3_painsOf_23 : decode cX3_painsOf 23 = .ok (.getfield 35, 3) := by decide +kernel
theorem dX3_painsOf_26 : decode cX3_painsOf 26 = .ok (.iload_n 3, 1) := by decide +kernel
theorem dX3_painsOf_27 : decode cX3_painsOf 27 = .ok (.iaload, 1) := by decide +kernel
theorem dX3_painsOf_28 : decode cX3_painsOf 28 = .ok (.goto 5, 3) := by decide +kernel
theorem dX3_painsOf_31 : decode cX3_painsOf 31 = .ok (.ldc 62, 2) := by decide +kernel
theorem dX3_painsOf_33 : decode cX3_painsOf 33 = .ok (.ireturn, 1) := by decide +kernel
theorem dX3_setPains_0 : decode cX3_setPains 0 = .ok (.iload_n 1, 1) := by decide +kernel
theorem dX3_setPains_1 : decode cX3_setPains 1 = .ok (.aload_n 0, 1) := by decide +kernel
theorem dX3_setPains_2 : decode cX3_setPains 2 = .ok (.getfield 32, 3) := by decide +kernel
theorem dX3_setPains_5 : decode cX3_setPains 5 = .ok (.imul, 1) := by decide +kernel
theorem dX3_setPains_6 : decode cX3_setPains 6 = .ok (.iload_n 2, 1) := by decide +kernel
theorem dX3_setPains_7 : decode cX3_setPains 7 = .ok (.iadd, 1) := by decide +kernel
theorem dX3_setPains_8 : decode cX3_setPains 8 = .ok (.istore 4, 2) := by decide +kernel
theorem dX3_setPains_10 : decode cX3_setPains 10 = .ok (.iload 4, 2) := by decide +kernel
theorem dX3_setPains_12 : decode cX3_setPains 12 = .ok (.ifCond .lt 21, 3) := by decide +kernel
theorem dX3_setPains_15 : decode cX3_setPains 15 = .ok (.iload 4, 2) := by decide +kernel
theorem dX3_setPains_17 : decode cX3_setPains 17 = .ok (.aload_n 0, 1) := by decide +kernel
theorem dX3_setPains_18 : decode cX3_setPains 18 = .ok (.getfield 35, 3) := by decide +kernel
theorem dX3_setPains_21 : decode cX3_setPains 21 = .ok (.arraylength, 1) := by decide +kernel
theorem dX3_setPains_22 : decode cX3_setPains 22 = .ok (.if_icmp .ge 11, 3) := by decide +kernel
theorem dX3_setPains_25 : decode cX3_setPains 25 = .ok (.aload_n 0, 1) := by decide +kernel
theorem dX3_setPains_26 : decode cX3_setPains 26 = .ok (.getfield 35, 3) := by decide +kernel
theorem dX3_setPains_29 : decode cX3_setPains 29 = .ok (.iload 4, 2) := by decide +kernel
theorem dX3_setPains_31 : decode cX3_setPains 31 = .ok (.iload_n 3, 1) := by decide +kernel
theorem dX3_setPains_32 : decode cX3_setPains 32 = .ok (.iastore, 1) := by decide +kernel
theorem dX3_setPains_33 : decode cX3_setPains 33 = .ok (.return_, 1) := by decide +kernel
theorem dX3_firstStuck_0 : decode cX3_firstStuck 0 = .ok (.iconst 0, 1) := by decide +kernel
theorem dX3_firstStuck_1 : decode cX3_firstStuck 1 = .ok (.istore_n 2, 1) := by decide +kernel
theorem dX3_firstStuck_2 : decode cX3_firstStuck 2 = .ok (.iload_n 2, 1) := by decide +kernel
theorem dX3_firstStuck_3 : decode cX3_firstStuck 3 = .ok (.aload_n 1, 1) := by decide +kernel
theorem dX3_firstStuck_4 : decode cX3_firstStuck 4 = .ok (.getfield 54, 3) := by decide +kernel
theorem dX3_firstStuck_7 : decode cX3_firstStuck 7 = .ok (.getfield 63, 3) := by decide +kernel
theorem dX3_firstStuck_10 : decode cX3_firstStuck 10 = .ok (.if_icmp .ge 20, 3) := by decide +kernel
theorem dX3_firstStuck_13 : decode cX3_firstStuck 13 = .ok (.aload_n 0, 1) := by decide +kernel
theorem dX3_firstStuck_14 : decode cX3_firstStuck 14 = .ok (.aload_n 1, 1) := by decide +kernel
theorem dX3_firstStuck_15 : decode cX3_firstStuck 15 = .ok (.iload_n 2, 1) := by decide +kernel
theorem dX3_firstStuck_16 : decode cX3_firstStuck 16 = .ok (.invokevirtual 68, 3) := by decide +kernel
theorem dX3_firstStuck_19 : decode cX3_firstStuck 19 = .ok (.ifCond .ne 5, 3) := by decide +kernel
theorem dX3_firstStuck_22 : decode cX3_firstStuck 22 = .ok (.iload_n 2, 1) := by decide +kernel
theorem dX3_firstStuck_23 : decode cX3_firstStuck 23 = .ok (.ireturn, 1) := by decide +kernel
theorem dX3_firstStuck_24 : decode cX3_firstStuck 24 = .ok (.iinc 2 1, 3) := by decide +kernel
theorem dX3_firstStuck_27 : decode cX3_firstStuck 27 = .ok (.goto (-25), 3) := by decide +kernel
theorem dX3_firstStuck_30 : decode cX3_firstStuck 30 = .ok (.bipush (-2), 2) := by decide +kernel
theorem dX3_firstStuck_32 : decode cX3_firstStuck 32 = .ok (.ireturn, 1) := by decide +kernel
theorem dX3_isReached_0 : decode cX3_isReached 0 = .ok (.aload_n 1, 1) := by decide +kernel
theorem dX3_isReached_1 : decode cX3_isReached 1 = .ok (.getfield 54, 3) := by decide +kernel
theorem dX3_isReached_4 : decode cX3_isReached 4 = .ok (.iload_n 2, 1) := by decide +kernel
theorem dX3_isReached_5 : decode cX3_isReached 5 = .ok (.invokevirtual 72, 3) := by decide +kernel
theorem dX3_isReached_8 : decode cX3_isReached 8 = .ok (.istore_n 3, 1) := by decide +kernel
theorem dX3_isReached_9 : decode cX3_isReached 9 = .ok (.iconst 0, 1) := by decide +kernel
theorem dX3_isReached_10 : decode cX3_isReached 10 = .ok (.istore 4, 2) := by decide +kernel
theorem dX3_isReached_12 : decode cX3_isReached 12 = .ok (.iconst 0, 1) := by decide +kernel
theorem dX3_isReached_13 : decode cX3_isReached 13 = .ok (.istore 5, 2) := by decide +kernel
theorem dX3_isReached_15 : decode cX3_isReached 15 = .ok (.iload 5, 2) := by decide +kernel
theorem dX3_isReached_17 : decode cX3_isReached 17 = .ok (.aload_n 1, 1) := by decide +kernel
theorem dX3_isReached_18 : decode cX3_isReached 18 = .ok (.iload_n 2, 1) := by decide +kernel
theorem dX3_isReached_19 : decode cX3_isReached 19 = .ok (.invokevirtual 76, 3) := by decide +kernel
theorem dX3_isReached_22 : decode cX3_isReached 22 = .ok (.if_icmp .ge 80, 3) := by decide +kernel
theorem dX3_isReached_25 : decode cX3_isReached 25 = .ok (.aload_n 1, 1) := by decide +kernel
theorem dX3_isReached_26 : decode cX3_isReached 26 = .ok (.getfield 54, 3) := by decide +kernel
theorem dX3_isReached_29 : decode cX3_isReached 29 = .ok (.iload_n 2, 1) := by decide +kernel
theorem dX3_isReached_30 : decode cX3_isReached 30 = .ok (.iload 5, 2) := by decide +kernel
theorem dX3_isReached_32 : decode cX3_isReached 32 = .ok (.invokevirtual 79, 3) := by decide +kernel
theorem dX3_isReached_35 : decode cX3_isReached 35 = .ok (.ifCond .eq 23, 3) := by decide +kernel
theorem dX3_isReached_38 : decode cX3_isReached 38 = .ok (.iload_n 3, 1) := by decide +kernel
theorem dX3_isReached_39 : decode cX3_isReached 39 = .ok (.ifCond .lt 15, 3) := by decide +kernel
theorem dX3_isReached_42 : decode cX3_isReached 42 = .ok (.aload_n 0, 1) := by decide +kernel
theorem dX3_isReached_43 : decode cX3_isReached 43 = .ok (.aload_n 1, 1) := by decide +kernel
theorem dX3_isReached_44 : decode cX3_isReached 44 = .ok (.iload_n 3, 1) := by decide +kernel
theorem dX3_isReached_45 : decode cX3_isReached 45 = .ok (.iload_n 2, 1) := by decide +kernel
theorem dX3_isReached_46 : decode cX3_isReached 46 = .ok (.iload 5, 2) := by decide +kernel
theorem dX3_isReached_48 : decode cX3_isReached 48 = .ok (.invokevirtual 83, 3) := by decide +kernel
theorem dX3_isReached_51 : decode cX3_isReached 51 = .ok (.ifCond .eq 7, 3) := by decide +kernel
theorem dX3_isReached_54 : decode cX3_isReached 54 = .ok (.iconst 1, 1) := by decide +kernel
theorem dX3_isReached_55 : decode cX3_isReached 55 = .ok (.goto 4, 3) := by decide +kernel
theorem dX3_isReached_58 : decode cX3_isReached 58 = .ok (.iconst 0, 1) := by decide +kernel
theorem dX3_isReached_59 : decode cX3_isReached 59 = .ok (.istore 6, 2) := by decide +kernel
theorem dX3_isReached_61 : decode cX3_isReached 61 = .ok (.aload_n 0, 1) := by decide +kernel
theorem dX3_isReached_62 : decode cX3_isReached 62 = .ok (.iload_n 2, 1) := by decide +kernel
theorem dX3_isReached_63 : decode cX3_isReached 63 = .ok (.iload 5, 2) := by decide +kernel
theorem dX3_isReached_65 : decode cX3_isReached 65 = .ok (.iload 6, 2) := by decide +kernel
theorem dX3_isReached_67 : decode cX3_isReached 67 = .ok (.ifCond .eq 7, 3) := by decide +kernel
theorem dX3_isReached_70 : decode cX3_isReached 70 = .ok (.iconst 0, 1) := by decide +kernel
theorem dX3_isReached_71 : decode cX3_isReached 71 = .ok (.goto 5, 3) := by decide +kernel
theorem dX3_isReached_74 : decode cX3_isReached 74 = .ok (.ldc 62, 2) := by decide +kernel
theorem dX3_isReached_76 : decode cX3_isReached 76 = .ok (.invokevirtual 87, 3) := by decide +kernel
theorem dX3_isReached_79 : decode cX3_isReached 79 = .ok (.iload 4, 2) := by decide +kernel
theorem dX3_isReached_81 : decode cX3_isReached 81 = .ok (.ifCond .ne 8, 3) := by decide +kernel
theorem dX3_isReached_84 : decode cX3_isReached 84 = .ok (.iload 6, 2) := by decide +kernel
theorem dX3_isReached_86 : decode cX3_isReached 86 = .ok (.ifCond .eq 7, 3) := by decide +kernel
theorem dX3_isReached_89 : decode cX3_isReached 89 = .ok (.iconst 1, 1) := by decide +kernel
theorem dX3_isReached_90 : decode cX3_isReached 90 = .ok (.goto 4, 3) := by decide +kernel
theorem dX3_isReached_93 : decode cX3_isReached 93 = .ok (.iconst 0, 1) := by decide +kernel
theorem dX3_isReached_94 : decode cX3_isReached 94 = .ok (.istore 4, 2) := by decide +kernel
theorem dX3_isReached_96 : decode cX3_isReached 96 = .ok (.iinc 5 1, 3) := by decide +kernel
theorem dX3_isReached_99 : decode cX3_isReached 99 = .ok (.goto (-84), 3) := by decide +kernel
theorem dX3_isReached_102 : decode cX3_isReached 102 = .ok (.iload 4, 2) := by decide +kernel
theorem dX3_isReached_104 : decode cX3_isReached 104 = .ok (.ireturn, 1) := by decide +kernel
theorem dX3_canCome_0 : decode cX3_canCome 0 = .ok (.iconst 0, 1) := by decide +kernel
theorem dX3_canCome_1 : decode cX3_canCome 1 = .ok (.istore 5, 2) := by decide +kernel
theorem dX3_canCome_3 : decode cX3_canCome 3 = .ok (.iload 5, 2) := by decide +kernel
theorem dX3_canCome_5 : decode cX3_canCome 5 = .ok (.aload_n 1, 1) := by decide +kernel
theorem dX3_canCome_6 : decode cX3_canCome 6 = .ok (.iload_n 2, 1) := by decide +kernel
theorem dX3_canCome_7 : decode cX3_canCome 7 = .ok (.invokevirtual 76, 3) := by decide +kernel
theorem dX3_canCome_10 : decode cX3_canCome 10 = .ok (.if_icmp .ge 36, 3) := by decide +kernel
theorem dX3_canCome_13 : decode cX3_canCome 13 = .ok (.aload_n 0, 1) := by decide +kernel
theorem dX3_canCome_14 : decode cX3_canCome 14 = .ok (.iload_n 2, 1) := by decide +kernel
theorem dX3_canCome_15 : decode cX3_canCome 15 = .ok (.iload 5, 2) := by decide +kernel
theorem dX3_canCome_17 : decode cX3_canCome 17 = .ok (.invokevirtual 91, 3) := by decide +kernel
theorem dX3_canCome_20 : decode cX3_canCome 20 = .ok (.ifCond .ne 20, 3) := by decide +kernel
theorem dX3_canCome_23 : decode cX3_canCome 23 = .ok (.aload_n 1, 1) := by decide +kernel
theorem dX3_canCome_24 : decode cX3_canCome 24 = .ok (.iload_n 2, 1) := by decide +kernel
theorem dX3_canCome_25 : decode cX3_canCome 25 = .ok (.iload 5, 2) := by decide +kernel
theorem dX3_canCome_27 : decode cX3_canCome 27 = .ok (.iload_n 3, 1) := by decide +kernel
theorem dX3_canCome_28 : decode cX3_canCome 28 = .ok (.iload 4, 2) := by decide +kernel
theorem dX3_canCome_30 : decode cX3_canCome 30 = .ok (.invokevirtual 94, 3) := by decide +kernel
theorem dX3_canCome_33 : decode cX3_canCome 33 = .ok (.bipush (-2), 2) := by decide +kernel
theorem dX3_canCome_35 : decode cX3_canCome 35 = .ok (.if_icmp .eq 5, 3) := by decide +kernel
theorem dX3_canCome_38 : decode cX3_canCome 38 = .ok (.iconst 1, 1) := by decide +kernel
theorem dX3_canCome_39 : decode cX3_canCome 39 = .ok (.ireturn, 1) := by decide +kernel
theorem dX3_canCome_40 : decode cX3_canCome 40 = .ok (.iinc 5 1, 3) := by decide +kernel
theorem dX3_canCome_43 : decode cX3_canCome 43 = .ok (.goto (-40), 3) := by decide +kernel
theorem dX3_canCome_46 : decode cX3_canCome 46 = .ok (.iconst 0, 1) := by decide +kernel
theorem dX3_canCome_47 : decode cX3_canCome 47 = .ok (.ireturn, 1) := by decide +kernel
theorem dX3_weighRests_0 : decode cX3_weighRests 0 = .ok (.aload_n 1, 1) := by decide +kernel
theorem dX3_weighRests_1 : decode cX3_weighRests 1 = .ok (.getfield 54, 3) := by decide +kernel
theorem dX3_weighRests_4 : decode cX3_weighRests 4 = .ok (.getfield 63, 3) := by decide +kernel
theorem dX3_weighRests_7 : decode cX3_weighRests 7 = .ok (.iconst 1, 1) := by decide +kernel
theorem dX3_weighRests_8 : decode cX3_weighRests 8 = .ok (.isub, 1) := by decide +kernel
theorem dX3_weighRests_9 : decode cX3_weighRests 9 = .ok (.istore_n 2, 1) := by decide +kernel
theorem dX3_weighRests_10 : decode cX3_weighRests 10 = .ok (.iload_n 2, 1) := by decide +kernel
theorem dX3_weighRests_11 : decode cX3_weighRests 11 = .ok (.ifCond .lt 95, 3) := by decide +kernel
theorem dX3_weighRests_14 : decode cX3_weighRests 14 = .ok (.aload_n 1, 1) := by decide +kernel
theorem dX3_weighRests_15 : decode cX3_weighRests 15 = .ok (.getfield 54, 3) := by decide +kernel
theorem dX3_weighRests_18 : decode cX3_weighRests 18 = .ok (.iload_n 2, 1) := by decide +kernel
theorem dX3_weighRests_19 : decode cX3_weighRests 19 = .ok (.invokevirtual 98, 3) := by decide +kernel
theorem dX3_weighRests_22 : decode cX3_weighRests 22 = .ok (.istore_n 3, 1) := by decide +kernel
theorem dX3_weighRests_23 : decode cX3_weighRests 23 = .ok (.iconst 0, 1) := by decide +kernel
theorem dX3_weighRests_24 : decode cX3_weighRests 24 = .ok (.istore 4, 2) := by decide +kernel
theorem dX3_weighRests_26 : decode cX3_weighRests 26 = .ok (.iload 4, 2) := by decide +kernel
theorem dX3_weighRests_28 : decode cX3_weighRests 28 = .ok (.aload_n 1, 1) := by decide +kernel
theorem dX3_weighRests_29 : decode cX3_weighRests 29 = .ok (.iload_n 2, 1) := by decide +kernel
theorem dX3_weighRests_30 : decode cX3_weighRests 30 = .ok (.invokevirtual 76, 3) := by decide +kernel
theorem dX3_weighRests_33 : decode cX3_weighRests 33 = .ok (.if_icmp .ge 67, 3) := by decide +kernel
theorem dX3_weighRests_36 : decode cX3_weighRests 36 = .ok (.ldc 62, 2) := by decide +kernel
theorem dX3_weighRests_38 : decode cX3_weighRests 38 = .ok (.istore 5, 2) := by decide +kernel
theorem dX3_weighRests_40 : decode cX3_weighRests 40 = .ok (.aload_n 1, 1) := by decide +kernel
theorem dX3_weighRests_41 : decode cX3_weighRests 41 = .ok (.getfield 54, 3) := by decide +kernel
theorem dX3_weighRests_44 : decode cX3_weighRests 44 = .ok (.iload_n 2, 1) := by decide +kernel
theorem dX3_weighRests_45 : decode cX3_weighRests 45 = .ok (.iload 4, 2) := by decide +kernel
theorem dX3_weighRests_47 : decode cX3_weighRests 47 = .ok (.invokevirtual 79, 3) := by decide +kernel
theorem dX3_weighRests_50 : decode cX3_weighRests 50 = .ok (.ifCond .eq 22, 3) := by decide +kernel
theorem dX3_weighRests_53 : decode cX3_weighRests 53 = .ok (.iload_n 3, 1) := by decide +kernel
theorem dX3_weighRests_54 : decode cX3_weighRests 54 = .ok (.ifCond .ge 7, 3) := by decide +kernel
theorem dX3_weighRests_57 : decode cX3_weighRests 57 = .ok (.iconst 0, 1) := by decide +kernel
theorem dX3_weighRests_58 : decode cX3_weighRests 58 = .ok (.goto 12, 3) := by decide +kernel
theorem dX3_weighRests_61 : decode cX3_weighRests 61 = .ok (.aload_n 0, 1) := by decide +kernel
theorem dX3_weighRests_62 : decode cX3_weighRests 62 = .ok (.aload_n 1, 1) := by decide +kernel
theorem dX3_weighRests_63 : decode cX3_weighRests 63 = .ok (.iload_n 2, 1) := by decide +kernel
theorem dX3_weighRests_64 : decode cX3_weighRests 64 = .ok (.iload 4, 2) := by decide +kernel
theorem dX3_weighRests_66 : decode cX3_weighRests 66 = .ok (.iload_n 3, 1) := by decide +kernel
theorem dX3_weighRests_67 : decode cX3_weighRests 67 = .ok (.invokevirtual 101, 3) := by decide +kernel
theorem dX3_weighRests_70 : decode cX3_weighRests 70 = .ok (.istore 5, 2) := by decide +kernel
theorem dX3_weighRests_72 : decode cX3_weighRests 72 = .ok (.aload_n 0, 1) := by decide +kernel
theorem dX3_weighRests_73 : decode cX3_weighRests 73 = .ok (.iload_n 2, 1) := by decide +kernel
theorem dX3_weighRests_74 : decode cX3_weighRests 74 = .ok (.iload 4, 2) := by decide +kernel
theorem dX3_weighRests_76 : decode cX3_weighRests 76 = .ok (.ldc 62, 2) := by decide +kernel
theorem dX3_weighRests_78 : decode cX3_weighRests 78 = .ok (.iload 5, 2) := by decide +kernel
theorem dX3_weighRests_80 : decode cX3_weighRests 80 = .ok (.aload_n 1, 1) := by decide +kernel
theorem dX3_weighRests_81 : decode cX3_weighRests 81 = .ok (.iload_n 2, 1) := by decide +kernel
theorem dX3_weighRests_82 : decode cX3_weighRests 82 = .ok (.iload 4, 2) := by decide +kernel
theorem dX3_weighRests_84 : decode cX3_weighRests 84 = .ok (.invokevirtual 105, 3) := by decide +kernel
theorem dX3_weighRests_87 : decode cX3_weighRests 87 = .ok (.iadd, 1) := by decide +kernel
theorem dX3_weighRests_88 : decode cX3_weighRests 88 = .ok (.invokestatic 108, 3) := by decide +kernel
theorem dX3_weighRests_91 : decode cX3_weighRests 91 = .ok (.invokevirtual 87, 3) := by decide +kernel
theorem dX3_weighRests_94 : decode cX3_weighRests 94 = .ok (.iinc 4 1, 3) := by decide +kernel
theorem dX3_weighRests_97 : decode cX3_weighRests 97 = .ok (.goto (-71), 3) := by decide +kernel
theorem dX3_weighRests_100 : decode cX3_weighRests 100 = .ok (.iinc 2 (-1), 3) := by decide +kernel
theorem dX3_weighRests_103 : decode cX3_weighRests 103 = .ok (.goto (-93), 3) := by decide +kernel
theorem dX3_weighRests_106 : decode cX3_weighRests 106 = .ok (.return_, 1) := by decide +kernel
theorem dX3_cheapestOnward_0 : decode cX3_cheapestOnward 0 = .ok (.ldc 62, 2) := by decide +kernel
theorem dX3_cheapestOnward_2 : decode cX3_cheapestOnward 2 = .ok (.istore 5, 2) := by decide +kernel
theorem dX3_cheapestOnward_4 : decode cX3_cheapestOnward 4 = .ok (.iconst 0, 1) := by decide +kernel
theorem dX3_cheapestOnward_5 : decode cX3_cheapestOnward 5 = .ok (.istore 6, 2) := by decide +kernel
theorem dX3_cheapestOnward_7 : decode cX3_cheapestOnward 7 = .ok (.iload 6, 2) := by decide +kernel
theorem dX3_cheapestOnward_9 : decode cX3_cheapestOnward 9 = .ok (.aload_n 1, 1) := by decide +kernel
theorem dX3_cheapestOnward_10 : decode cX3_cheapestOnward 10 = .ok (.iload 4, 2) := by decide +kernel
theorem dX3_cheapestOnward_12 : decode cX3_cheapestOnward 12 = .ok (.invokevirtual 76, 3) := by decide +kernel
theorem dX3_cheapestOnward_15 : decode cX3_cheapestOnward 15 = .ok (.if_icmp .ge 46, 3) := by decide +kernel
theorem dX3_cheapestOnward_18 : decode cX3_cheapestOnward 18 = .ok (.aload_n 1, 1) := by decide +kernel
theorem dX3_cheapestOnward_19 : decode cX3_cheapestOnward 19 = .ok (.iload_n 2, 1) := by decide +kernel
theorem dX3_cheapestOnward_20 : decode cX3_cheapestOnward 20 = .ok (.iload_n 3, 1) := by decide +kernel
theorem dX3_cheapestOnward_21 : decode cX3_cheapestOnward 21 = .ok (.iload 4, 2) := by decide +kernel
theorem dX3_cheapestOnward_23 : decode cX3_cheapestOnward 23 = .ok (.iload 6, 2) := by decide +kernel
theorem dX3_cheapestOnward_25 : decode cX3_cheapestOnward 25 = .ok (.invokevirtual 94, 3) := by decide +kernel
theorem dX3_cheapestOnward_28 : decode cX3_cheapestOnward 28 = .ok (.istore 7, 2) := by decide +kernel
theorem dX3_cheapestOnward_30 : decode cX3_cheapestOnward 30 = .ok (.iload 7, 2) := by decide +kernel
theorem dX3_cheapestOnward_32 : decode cX3_cheapestOnward 32 = .ok (.bipush (-2), 2) := by decide +kernel
theorem dX3_cheapestOnward_34 : decode cX3_cheapestOnward 34 = .ok (.if_icmp .eq 21, 3) := by decide +kernel
theorem dX3_cheapestOnward_37 : decode cX3_cheapestOnward 37 = .ok (.iload 5, 2) := by decide +kernel
theorem dX3_cheapestOnward_39 : decode cX3_cheapestOnward 39 = .ok (.iload 7, 2) := by decide +kernel
theorem dX3_cheapestOnward_41 : decode cX3_cheapestOnward 41 = .ok (.aload_n 0, 1) := by decide +kernel
theorem dX3_cheapestOnward_42 : decode cX3_cheapestOnward 42 = .ok (.iload 4, 2) := by decide +kernel
theorem dX3_cheapestOnward_44 : decode cX3_cheapestOnward 44 = .ok (.iload 6, 2) := by decide +kernel
theorem dX3_cheapestOnward_46 : decode cX3_cheapestOnward 46 = .ok (.invokevirtual 91, 3) := by decide +kernel
theorem dX3_cheapestOnward_49 : decode cX3_cheapestOnward 49 = .ok (.iadd, 1) := by decide +kernel
theorem dX3_cheapestOnward_50 : decode cX3_cheapestOnward 50 = .ok (.invokestatic 108, 3) := by decide +kernel
theorem dX3_cheapestOnward_53 : decode cX3_cheapestOnward 53 = .ok (.istore 5, 2) := by decide +kernel
theorem dX3_cheapestOnward_55 : decode cX3_cheapestOnward 55 = .ok (.iinc 6 1, 3) := by decide +kernel
theorem dX3_cheapestOnward_58 : decode cX3_cheapestOnward 58 = .ok (.goto (-51), 3) := by decide +kernel
theorem dX3_cheapestOnward_61 : decode cX3_cheapestOnward 61 = .ok (.iload 5, 2) := by decide +kernel
theorem dX3_cheapestOnward_63 : decode cX3_cheapestOnward 63 = .ok (.ireturn, 1) := by decide +kernel
theorem dX3_chooseWay_0 : decode cX3_chooseWay 0 = .ok (.iconst 0, 1) := by decide +kernel
theorem dX3_chooseWay_1 : decode cX3_chooseWay 1 = .ok (.istore_n 2, 1) := by decide +kernel
theorem dX3_chooseWay_2 : decode cX3_chooseWay 2 = .ok (.iload_n 2, 1) := by decide +kernel
theorem dX3_chooseWay_3 : decode cX3_chooseWay 3 = .ok (.aload_n 1, 1) := by decide +kernel
theorem dX3_chooseWay_4 : decode cX3_chooseWay 4 = .ok (.getfield 54, 3) := by decide +kernel
theorem dX3_chooseWay_7 : decode cX3_chooseWay 7 = .ok (.getfield 63, 3) := by decide +kernel
theorem dX3_chooseWay_10 : decode cX3_chooseWay 10 = .ok (.if_icmp .ge 35, 3) := by decide +kernel
theorem dX3_chooseWay_13 : decode cX3_chooseWay 13 = .ok (.iload_n 2, 1) := by decide +kernel
theorem dX3_chooseWay_14 : decode cX3_chooseWay 14 = .ok (.bipush 40, 2) := by decide +kernel
theorem dX3_chooseWay_16 : decode cX3_chooseWay 16 = .ok (.if_icmp .ge 29, 3) := by decide +kernel
theorem dX3_chooseWay_19 : decode cX3_chooseWay 19 = .ok (.aload_n 0, 1) := by decide +kernel
theorem dX3_chooseWay_20 : decode cX3_chooseWay 20 = .ok (.getfield 9, 3) := by decide +kernel
theorem dX3_chooseWay_23 : decode cX3_chooseWay 23 = .ok (.iload_n 2, 1) := by decide +kernel
theorem dX3_chooseWay_24 : decode cX3_chooseWay 24 = .ok (.aload_n 0, 1) := by decide +kernel
theorem dX3_chooseWay_25 : decode cX3_chooseWay 25 = .ok (.aload_n 1, 1) := by decide +kernel
theorem dX3_chooseWay_26 : decode cX3_chooseWay 26 = .ok (.aload_n 1, 1) := by decide +kernel
theorem dX3_chooseWay_27 : decode cX3_chooseWay 27 = .ok (.getfield 54, 3) := by decide +kernel
theorem dX3_chooseWay_30 : decode cX3_chooseWay 30 = .ok (.iload_n 2, 1) := by decide +kernel
theorem dX3_chooseWay_31 : decode cX3_chooseWay 31 = .ok (.invokevirtual 72, 3) := by decide +kernel
theorem dX3_chooseWay_34 : decode cX3_chooseWay 34 = .ok (.iload_n 2, 1) := by decide +kernel
theorem dX3_chooseWay_35 : decode cX3_chooseWay 35 = .ok (.invokevirtual 111, 3) := by decide +kernel
theorem dX3_chooseWay_38 : decode cX3_chooseWay 38 = .ok (.iastore, 1) := by decide +kernel
theorem dX3_chooseWay_39 : decode cX3_chooseWay 39 = .ok (.iinc 2 1, 3) := by decide +kernel
theorem dX3_chooseWay_42 : decode cX3_chooseWay 42 = .ok (.goto (-40), 3) := by decide +kernel
theorem dX3_chooseWay_45 : decode cX3_chooseWay 45 = .ok (.return_, 1) := by decide +kernel
theorem dX3_bestState_0 : decode cX3_bestState 0 = .ok (.iconst 0, 1) := by decide +kernel
theorem dX3_bestState_1 : decode cX3_bestState 1 = .ok (.istore 4, 2) := by decide +kernel
theorem dX3_bestState_3 : decode cX3_bestState 3 = .ok (.ldc 62, 2) := by decide +kernel
theorem dX3_bestState_5 : decode cX3_bestState 5 = .ok (.istore 5, 2) := by decide +kernel
theorem dX3_bestState_7 : decode cX3_bestState 7 = .ok (.iconst 0, 1) := by decide +kernel
theorem dX3_bestState_8 : decode cX3_bestState 8 = .ok (.istore 6, 2) := by decide +kernel
theorem dX3_bestState_10 : decode cX3_bestState 10 = .ok (.iload 6, 2) := by decide +kernel
theorem dX3_bestState_12 : decode cX3_bestState 12 = .ok (.aload_n 1, 1) := by decide +kernel
theorem dX3_bestState_13 : decode cX3_bestState 13 = .ok (.iload_n 3, 1) := by decide +kernel
theorem dX3_bestState_14 : decode cX3_bestState 14 = .ok (.invokevirtual 76, 3) := by decide +kernel
theorem dX3_bestState_17 : decode cX3_bestState 17 = .ok (.if_icmp .ge 70, 3) := by decide +kernel
theorem dX3_bestState_20 : decode cX3_bestState 20 = .ok (.iload_n 2, 1) := by decide +kernel
theorem dX3_bestState_21 : decode cX3_bestState 21 = .ok (.ifCond .ge 7, 3) := by decide +kernel
theorem dX3_bestState_24 : decode cX3_bestState 24 = .ok (.iconst 0, 1) := by decide +kernel
theorem dX3_bestState_25 : decode cX3_bestState 25 = .ok (.goto 16, 3) := by decide +kernel
theorem dX3_bestState_28 : decode cX3_bestState 28 = .ok (.aload_n 1, 1) := by decide +kernel
theorem dX3_bestState_29 : decode cX3_bestState 29 = .ok (.iload_n 2, 1) := by decide +kernel
theorem dX3_bestState_30 : decode cX3_bestState 30 = .ok (.aload_n 0, 1) := by decide +kernel
theorem dX3_bestState_31 : decode cX3_bestState 31 = .ok (.iload_n 2, 1) := by decide +kernel
theorem dX3_bestState_32 : decode cX3_bestState 32 = .ok (.invokevirtual 115, 3) := by decide +kernel
theorem dX3_bestState_35 : decode cX3_bestState 35 = .ok (.iload_n 3, 1) := by decide +kernel
theorem dX3_bestState_36 : decode cX3_bestState 36 = .ok (.iload 6, 2) := by decide +kernel
theorem dX3_bestState_38 : decode cX3_bestState 38 = .ok (.invokevirtual 94, 3) := by decide +kernel
theorem dX3_bestState_41 : decode cX3_bestState 41 = .ok (.istore 7, 2) := by decide +kernel
theorem dX3_bestState_43 : decode cX3_bestState 43 = .ok (.iload 7, 2) := by decide +kernel
theorem dX3_bestState_45 : decode cX3_bestState 45 = .ok (.bipush (-2), 2) := by decide +kernel
theorem dX3_bestState_47 : decode cX3_bestState 47 = .ok (.if_icmp .eq 34, 3) := by decide +kernel
theorem dX3_bestState_50 : decode cX3_bestState 50 = .ok (.iload 7, 2) := by decide +kernel
theorem dX3_bestState_52 : decode cX3_bestState 52 = .ok (.aload_n 0, 1) := by decide +kernel
theorem dX3_bestState_53 : decode cX3_bestState 53 = .ok (.iload_n 3, 1) := by decide +kernel
theorem dX3_bestState_54 : decode cX3_bestState 54 = .ok (.iload 6, 2) := by decide +kernel
theorem dX3_bestState_56 : decode cX3_bestState 56 = .ok (.invokevirtual 91, 3) := by decide +kernel
theorem dX3_bestState_59 : decode cX3_bestState 59 = .ok (.iadd, 1) := by decide +kernel
theorem dX3_bestState_60 : decode cX3_bestState 60 = .ok (.iload 5, 2) := by decide +kernel
theorem dX3_bestState_62 : decode cX3_bestState 62 = .ok (.if_icmp .ge 19, 3) := by decide +kernel
theorem dX3_bestState_65 : decode cX3_bestState 65 = .ok (.iload 6, 2) := by decide +kernel
theorem dX3_bestState_67 : decode cX3_bestState 67 = .ok (.istore 4, 2) := by decide +kernel
theorem dX3_bestState_69 : decode cX3_bestState 69 = .ok (.iload 7, 2) := by decide +kernel
theorem dX3_bestState_71 : decode cX3_bestState 71 = .ok (.aload_n 0, 1) := by decide +kernel
theorem dX3_bestState_72 : decode cX3_bestState 72 = .ok (.iload_n 3, 1) := by decide +kernel
theorem dX3_bestState_73 : decode cX3_bestState 73 = .ok (.iload 6, 2) := by decide +kernel
theorem dX3_bestState_75 : decode cX3_bestState 75 = .ok (.invokevirtual 91, 3) := by decide +kernel
theorem dX3_bestState_78 : decode cX3_bestState 78 = .ok (.iadd, 1) := by decide +kernel
theorem dX3_bestState_79 : decode cX3_bestState 79 = .ok (.istore 5, 2) := by decide +kernel
theorem dX3_bestState_81 : decode cX3_bestState 81 = .ok (.iinc 6 1, 3) := by decide +kernel
theorem dX3_bestState_84 : decode cX3_bestState 84 = .ok (.goto (-74), 3) := by decide +kernel
theorem dX3_bestState_87 : decode cX3_bestState 87 = .ok (.iload 4, 2) := by decide +kernel
theorem dX3_bestState_89 : decode cX3_bestState 89 = .ok (.ireturn, 1) := by decide +kernel
theorem dX3_sumOfChains_0 : decode cX3_sumOfChains 0 = .ok (.iconst 0, 1) := by decide +kernel
theorem dX3_sumOfChains_1 : decode cX3_sumOfChains 1 = .ok (.istore_n 2, 1) := by decide +kernel
theorem dX3_sumOfChains_2 : decode cX3_sumOfChains 2 = .ok (.iconst 0, 1) := by decide +kernel
theorem dX3_sumOfChains_3 : decode cX3_sumOfChains 3 = .ok (.istore_n 3, 1) := by decide +kernel
theorem dX3_sumOfChains_4 : decode cX3_sumOfChains 4 = .ok (.iload_n 3, 1) := by decide +kernel
theorem dX3_sumOfChains_5 : decode cX3_sumOfChains 5 = .ok (.iconst 2, 1) := by decide +kernel
theorem dX3_sumOfChains_6 : decode cX3_sumOfChains 6 = .ok (.if_icmp .ge 41, 3) := by decide +kernel
theorem dX3_sumOfChains_9 : decode cX3_sumOfChains 9 = .ok (.aload_n 1, 1) := by decide +kernel
theorem dX3_sumOfChains_10 : decode cX3_sumOfChains 10 = .ok (.iload_n 3, 1) := by decide +kernel
theorem dX3_sumOfChains_11 : decode cX3_sumOfChains 11 = .ok (.iconst 0, 1) := by decide +kernel
theorem dX3_sumOfChains_12 : decode cX3_sumOfChains 12 = .ok (.invokevirtual 118, 3) := by decide +kernel
theorem dX3_sumOfChains_15 : decode cX3_sumOfChains 15 = .ok (.istore 4, 2) := by decide +kernel
theorem dX3_sumOfChains_17 : decode cX3_sumOfChains 17 = .ok (.iload_n 2, 1) := by decide +kernel
theorem dX3_sumOfChains_18 : decode cX3_sumOfChains 18 = .ok (.iload 4, 2) := by decide +kernel
theorem dX3_sumOfChains_20 : decode cX3_sumOfChains 20 = .ok (.ifCond .ge 7, 3) := by decide +kernel
theorem dX3_sumOfChains_23 : decode cX3_sumOfChains 23 = .ok (.iconst 0, 1) := by decide +kernel
theorem dX3_sumOfChains_24 : decode cX3_sumOfChains 24 = .ok (.goto 15, 3) := by decide +kernel
theorem dX3_sumOfChains_27 : decode cX3_sumOfChains 27 = .ok (.aload_n 0, 1) := by decide +kernel
theorem dX3_sumOfChains_28 : decode cX3_sumOfChains 28 = .ok (.iload 4, 2) := by decide +kernel
theorem dX3_sumOfChains_30 : decode cX3_sumOfChains 30 = .ok (.aload_n 0, 1) := by decide +kernel
theorem dX3_sumOfChains_31 : decode cX3_sumOfChains 31 = .ok (.iload 4, 2) := by decide +kernel
theorem dX3_sumOfChains_33 : decode cX3_sumOfChains 33 = .ok (.invokevirtual 115, 3) := by decide +kernel
theorem dX3_sumOfChains_36 : decode cX3_sumOfChains 36 = .ok (.invokevirtual 91, 3) := by decide +kernel
theorem dX3_sumOfChains_39 : decode cX3_sumOfChains 39 = .ok (.iadd, 1) := by decide +kernel
theorem dX3_sumOfChains_40 : decode cX3_sumOfChains 40 = .ok (.istore_n 2, 1) := by decide +kernel
theorem dX3_sumOfChains_41 : decode cX3_sumOfChains 41 = .ok (.iinc 3 1, 3) := by decide +kernel
theorem dX3_sumOfChains_44 : decode cX3_sumOfChains 44 = .ok (.goto (-40), 3) := by decide +kernel
theorem dX3_sumOfChains_47 : decode cX3_sumOfChains 47 = .ok (.iload_n 2, 1) := by decide +kernel
theorem dX3_sumOfChains_48 : decode cX3_sumOfChains 48 = .ok (.ireturn, 1) := by decide +kernel
theorem dX4_init_0 : decode cX4_init 0 = .ok (.aload_n 0, 1) := by decide +kernel
theorem dX4_init_1 : decode cX4_init 1 = .ok (.bipush 7, 2) := by decide +kernel
theorem dX4_init_3 : decode cX4_init 3 = .ok (.invokespecial 5, 3) := by decide +kernel
theorem dX4_init_6 : decode cX4_init 6 = .ok (.return_, 1) := by decide +kernel
theorem dX4_listOne_0 : decode cX4_listOne 0 = .ok (.iconst 0, 1) := by decide +kernel
theorem dX4_listOne_1 : decode cX4_listOne 1 = .ok (.istore_n 2, 1) := by decide +kernel
theorem dX4_listOne_2 : decode cX4_listOne 2 = .ok (.iload_n 2, 1) := by decide +kernel
theorem dX4_listOne_3 : decode cX4_listOne 3 = .ok (.bipush 7, 2) := by decide +kernel
theorem dX4_listOne_5 : decode cX4_listOne 5 = .ok (.if_icmp .ge 48, 3) := by decide +kernel
theorem dX4_listOne_8 : decode cX4_listOne 8 = .ok (.aload_n 0, 1) := by decide +kernel
theorem dX4_listOne_9 : decode cX4_listOne 9 = .ok (.getfield 11, 3) := by decide +kernel
theorem dX4_listOne_12 : decode cX4_listOne 12 = .ok (.iload_n 1, 1) := by decide +kernel
theorem dX4_listOne_13 : decode cX4_listOne 13 = .ok (.invokevirtual 15, 3) := by decide +kernel
theorem dX4_listOne_16 : decode cX4_listOne 16 = .ok (.iload_n 2, 1) := by decide +kernel
theorem dX4_listOne_17 : decode cX4_listOne 17 = .ok (.iadd, 1) := by decide +kernel
theorem dX4_listOne_18 : decode cX4_listOne 18 = .ok (.aload_n 0, 1) := by decide +kernel
theorem dX4_listOne_19 : decode cX4_listOne 19 = .ok (.getfield 11, 3) := by decide +kernel
theorem dX4_listOne_22 : decode cX4_listOne 22 = .ok (.iconst 5, 1) := by decide +kernel
theorem dX4_listOne_23 : decode cX4_listOne 23 = .ok (.invokevirtual 21, 3) := by decide +kernel
theorem dX4_listOne_26 : decode cX4_listOne 26 = .ok (.isub, 1) := by decide +kernel
theorem dX4_listOne_27 : decode cX4_listOne 27 = .ok (.invokestatic 24, 3) := by decide +kernel
theorem dX4_listOne_30 : decode cX4_listOne 30 = .ok (.ifCond .eq 17, 3) := by decide +kernel
theorem dX4_listOne_33 : decode cX4_listOne 33 = .ok (.aload_n 0, 1) := by decide +kernel
theorem dX4_listOne_34 : decode cX4_listOne 34 = .ok (.iload_n 1, 1) := by decide +kernel
theorem dX4_listOne_35 : decode cX4_listOne 35 = .ok (.iconst 0, 1) := by decide +kernel
theorem dX4_listOne_36 : decode cX4_listOne 36 = .ok (.iload_n 2, 1) := by decide +kernel
theorem dX4_listOne_37 : decode cX4_listOne 37 = .ok (.iconst 4, 1) := by decide +kernel
theorem dX4_listOne_38 : decode cX4_listOne 38 = .ok (.isub, 1) := by decide +kernel
theorem dX4_listOne_39 : decode cX4_listOne 39 = .ok (.invokestatic 28, 3) := by decide +kernel
theorem dX4_listOne_42 : decode cX4_listOne 42 = .ok (.iload_n 2, 1) := by decide +kernel
theorem dX4_listOne_43 : decode cX4_listOne 43 = .ok (.iconst 0, 1) := by decide +kernel
theorem dX4_listOne_44 : decode cX4_listOne 44 = .ok (.invokevirtual 34, 3) := by decide +kernel
theorem dX4_listOne_47 : decode cX4_listOne 47 = .ok (.iinc 2 1, 3) := by decide +kernel
theorem dX4_listOne_50 : decode cX4_listOne 50 = .ok (.goto (-48), 3) := by decide +kernel
theorem dX4_listOne_53 : decode cX4_listOne 53 = .ok (.return_, 1) := by decide +kernel
theorem dX4_isPartial_0 : decode cX4_isPartial 0 = .ok (.getstatic 38, 3) := by decide +kernel
theorem dX4_isPartial_3 : decode cX4_isPartial 3 = .ok (.astore_n 1, 1) := by decide +kernel
theorem dX4_isPartial_4 : decode cX4_isPartial 4 = .ok (.aload_n 1, 1) := by decide +kernel
theorem dX4_isPartial_5 : decode cX4_isPartial 5 = .ok (.arraylength, 1) := by decide +kernel
theorem dX4_isPartial_6 : decode cX4_isPartial 6 = .ok (.istore_n 2, 1) := by decide +kernel
theorem dX4_isPartial_7 : decode cX4_isPartial 7 = .ok (.iconst 0, 1) := by decide +kernel
theorem dX4_isPartial_8 : decode cX4_isPartial 8 = .ok (.istore_n 3, 1) := by decide +kernel
theorem dX4_isPartial_9 : decode cX4_isPartial 9 = .ok (.iload_n 3, 1) := by decide +kernel
theorem dX4_isPartial_10 : decode cX4_isPartial 10 = .ok (.iload_n 2, 1) := by decide +kernel
theorem dX4_isPartial_11 : decode cX4_isPartial 11 = .ok (.if_icmp .ge 22, 3) := by decide +kernel
theorem dX4_isPartial_14 : decode cX4_isPartial 14 = .ok (.aload_n 1, 1) := by decide +kernel
theorem dX4_isPartial_15 : decode cX4_isPartial 15 = .ok (.iload_n 3, 1) := by decide +kernel
theorem dX4_isPartial_16 : decode cX4_isPartial 16 = .ok (.iaload, 1) := by decide +kernel
theorem dX4_isPartial_17 : decode cX4_isPartial 17 = .ok (.istore 4, 2) := by decide +kernel
theorem dX4_isPartial_19 : decode cX4_isPartial 19 = .ok (.iload 4, 2) := by decide +kernel
theorem dX4_isPartial_21 : decode cX4_isPartial 21 = .ok (.iload_n 0, 1) := by decide +kernel
theorem dX4_isPartial_22 : decode cX4_isPartial 22 = .ok (.if_icmp .ne 5, 3) := by decide +kernel
theorem dX4_isPartial_25 : decode cX4_isPartial 25 = .ok (.iconst 1, 1) := by decide +kernel
theorem dX4_isPartial_26 : decode cX4_isPartial 26 = .ok (.ireturn, 1) := by decide +kernel
theorem dX4_isPartial_27 : decode cX4_isPartial 27 = .ok (.iinc 3 1, 3) := by decide +kernel
theorem dX4_isPartial_30 : decode cX4_isPartial 30 = .ok (.goto (-21), 3) := by decide +kernel
theorem dX4_isPartial_33 : decode cX4_isPartial 33 = .ok (.iconst 0, 1) := by decide +kernel
theorem dX4_isPartial_34 : decode cX4_isPartial 34 = .ok (.ireturn, 1) := by decide +kernel
theorem dX4_stepPrice_0 : decode cX4_stepPrice 0 = .ok (.aload_n 0, 1) := by decide +kernel
theorem dX4_stepPrice_1 : decode cX4_stepPrice 1 = .ok (.iload_n 1, 1) := by decide +kernel
theorem dX4_stepPrice_2 : decode cX4_stepPrice 2 = .ok (.iload_n 2, 1) := by decide +kernel
theorem dX4_stepPrice_3 : decode cX4_stepPrice 3 = .ok (.invokevirtual 42, 3) := by decide +kernel
theorem dX4_stepPrice_6 : decode cX4_stepPrice 6 = .ok (.aload_n 0, 1) := by decide +kernel
theorem dX4_stepPrice_7 : decode cX4_stepPrice 7 = .ok (.iload_n 3, 1) := by decide +kernel
theorem dX4_stepPrice_8 : decode cX4_stepPrice 8 = .ok (.iload 4, 2) := by decide +kernel
theorem dX4_stepPrice_10 : decode cX4_stepPrice 10 = .ok (.invokevirtual 42, 3) := by decide +kernel
theorem dX4_stepPrice_13 : decode cX4_stepPrice 13 = .ok (.isub, 1) := by decide +kernel
theorem dX4_stepPrice_14 : decode cX4_stepPrice 14 = .ok (.invokestatic 45, 3) := by decide +kernel
theorem dX4_stepPrice_17 : decode cX4_stepPrice 17 = .ok (.istore 5, 2) := by decide +kernel
theorem dX4_stepPrice_19 : decode cX4_stepPrice 19 = .ok (.aload_n 0, 1) := by decide +kernel
theorem dX4_stepPrice_20 : decode cX4_stepPrice 20 = .ok (.iload 5, 2) := by decide +kernel
theorem dX4_stepPrice_22 : decode cX4_stepPrice 22 = .ok (.iload_n 1, 1) := by decide +kernel
theorem dX4_stepPrice_23 : decode cX4_stepPrice 23 = .ok (.iload_n 3, 1) := by decide +kernel
theorem dX4_stepPrice_24 : decode cX4_stepPrice 24 = .ok (.invokevirtual 48, 3) := by decide +kernel
theorem dX4_stepPrice_27 : decode cX4_stepPrice 27 = .ok (.ifCond .eq 8, 3) := by decide +kernel
theorem dX4_stepPrice_30 : decode cX4_stepPrice 30 = .ok (.bipush (-2), 2) := by decide +kernel
theorem dX4_stepPrice_32 : decode cX4_stepPrice 32 = .ok (.goto 5, 3) := by decide +kernel
theorem dX4_stepPrice_35 : decode cX4_stepPrice 35 = .ok (.iload 5, 2) := by decide +kernel
theorem dX4_stepPrice_37 : decode cX4_stepPrice 37 = .ok (.ireturn, 1) := by decide +kernel
theorem dX5_init_0 : decode cX5_init 0 = .ok (.aload_n 0, 1) := by decide +kernel
theorem dX5_init_1 : decode cX5_init 1 = .ok (.bipush 80, 2) := by decide +kernel
theorem dX5_init_3 : decode cX5_init 3 = .ok (.invokespecial 3, 3) := by decide +kernel
theorem dX5_init_6 : decode cX5_init 6 = .ok (.return_, 1) := by decide +kernel
theorem dX5_listOne_0 : decode cX5_listOne 0 = .ok (.aload_n 0, 1) := by decide +kernel
theorem dX5_listOne_1 : decode cX5_listOne 1 = .ok (.getfield 9, 3) := by decide +kernel
theorem dX5_listOne_4 : decode cX5_listOne 4 = .ok (.iload_n 1, 1) := by decide +kernel
theorem dX5_listOne_5 : decode cX5_listOne 5 = .ok (.invokevirtual 15, 3) := by decide +kernel
theorem dX5_listOne_8 : decode cX5_listOne 8 = .ok (.iconst 2, 1) := by decide +kernel
theorem dX5_listOne_9 : decode cX5_listOne 9 = .ok (.if_icmp .ne 12, 3) := by decide +kernel
theorem dX5_listOne_12 : decode cX5_listOne 12 = .ok (.aload_n 0, 1) := by decide +kernel
theorem dX5_listOne_13 : decode cX5_listOne 13 = .ok (.iload_n 1, 1) := by decide +kernel
theorem dX5_listOne_14 : decode cX5_listOne 14 = .ok (.iconst 0, 1) := by decide +kernel
theorem dX5_listOne_15 : decode cX5_listOne 15 = .ok (.iconst 2, 1) := by decide +kernel
theorem dX5_listOne_16 : decode cX5_listOne 16 = .ok (.iconst (-1), 1) := by decide +kernel
theorem dX5_listOne_17 : decode cX5_listOne 17 = .ok (.invokevirtual 21, 3) := by decide +kernel
theorem dX5_listOne_20 : decode cX5_listOne 20 = .ok (.return_, 1) := by decide +kernel
theorem dX5_listOne_21 : decode cX5_listOne 21 = .ok (.aload_n 0, 1) := by decide +kernel
theorem dX5_listOne_22 : decode cX5_listOne 22 = .ok (.iload_n 1, 1) := by decide +kernel
theorem dX5_listOne_23 : decode cX5_listOne 23 = .ok (.invokevirtual 25, 3) := by decide +kernel
theorem dX5_listOne_26 : decode cX5_listOne 26 = .ok (.istore_n 2, 1) := by decide +kernel
theorem dX5_listOne_27 : decode cX5_listOne 27 = .ok (.iconst 0, 1) := by decide +kernel
theorem dX5_listOne_28 : decode cX5_listOne 28 = .ok (.istore_n 3, 1) := by decide +kernel
theorem dX5_listOne_29 : decode cX5_listOne 29 = .ok (.iload_n 3, 1) := by decide +kernel
