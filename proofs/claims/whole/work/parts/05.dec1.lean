theorem dX5_listOne_30 : decode cX5_listOne 30 = .ok (.iconst 2, 1) := by decide +kernel
theorem dX5_listOne_31 : decode cX5_listOne 31 = .ok (.if_icmp .ge 40, 3) := by decide +kernel
theorem dX5_listOne_34 : decode cX5_listOne 34 = .ok (.iload_n 2, 1) := by decide +kernel
theorem dX5_listOne_35 : decode cX5_listOne 35 = .ok (.istore 4, 2) := by decide +kernel
theorem dX5_listOne_37 : decode cX5_listOne 37 = .ok (.iload 4, 2) := by decide +kernel
theorem dX5_listOne_39 : decode cX5_listOne 39 = .ok (.iload_n 1, 1) := by decide +kernel
theorem dX5_listOne_40 : decode cX5_listOne 40 = .ok (.if_icmp .ge 25, 3) := by decide +kernel
theorem dX5_listOne_43 : decode cX5_listOne 43 = .ok (.aload_n 0, 1) := by decide +kernel
theorem dX5_listOne_44 : decode cX5_listOne 44 = .ok (.iload_n 1, 1) := by decide +kernel
theorem dX5_listOne_45 : decode cX5_listOne 45 = .ok (.aload_n 0, 1) := by decide +kernel
theorem dX5_listOne_46 : decode cX5_listOne 46 = .ok (.iload_n 1, 1) := by decide +kernel
theorem dX5_listOne_47 : decode cX5_listOne 47 = .ok (.iload_n 3, 1) := by decide +kernel
theorem dX5_listOne_48 : decode cX5_listOne 48 = .ok (.iload 4, 2) := by decide +kernel
theorem dX5_listOne_50 : decode cX5_listOne 50 = .ok (.invokevirtual 28, 3) := by decide +kernel
theorem dX5_listOne_53 : decode cX5_listOne 53 = .ok (.iload_n 3, 1) := by decide +kernel
theorem dX5_listOne_54 : decode cX5_listOne 54 = .ok (.iload 4, 2) := by decide +kernel
theorem dX5_listOne_56 : decode cX5_listOne 56 = .ok (.invokevirtual 21, 3) := by decide +kernel
theorem dX5_listOne_59 : decode cX5_listOne 59 = .ok (.iinc 4 1, 3) := by decide +kernel
theorem dX5_listOne_62 : decode cX5_listOne 62 = .ok (.goto (-25), 3) := by decide +kernel
theorem dX5_listOne_65 : decode cX5_listOne 65 = .ok (.iinc 3 1, 3) := by decide +kernel
theorem dX5_listOne_68 : decode cX5_listOne 68 = .ok (.goto (-39), 3) := by decide +kernel
theorem dX5_listOne_71 : decode cX5_listOne 71 = .ok (.return_, 1) := by decide +kernel
theorem dX5_latestOfTwo_0 : decode cX5_latestOfTwo 0 = .ok (.iload_n 1, 1) := by decide +kernel
theorem dX5_latestOfTwo_1 : decode cX5_latestOfTwo 1 = .ok (.iconst 1, 1) := by decide +kernel
theorem dX5_latestOfTwo_2 : decode cX5_latestOfTwo 2 = .ok (.isub, 1) := by decide +kernel
theorem dX5_latestOfTwo_3 : decode cX5_latestOfTwo 3 = .ok (.istore_n 2, 1) := by decide +kernel
theorem dX5_latestOfTwo_4 : decode cX5_latestOfTwo 4 = .ok (.iload_n 2, 1) := by decide +kernel
theorem dX5_latestOfTwo_5 : decode cX5_latestOfTwo 5 = .ok (.ifCond .lt 23, 3) := by decide +kernel
theorem dX5_latestOfTwo_8 : decode cX5_latestOfTwo 8 = .ok (.aload_n 0, 1) := by decide +kernel
theorem dX5_latestOfTwo_9 : decode cX5_latestOfTwo 9 = .ok (.getfield 9, 3) := by decide +kernel
theorem dX5_latestOfTwo_12 : decode cX5_latestOfTwo 12 = .ok (.iload_n 2, 1) := by decide +kernel
theorem dX5_latestOfTwo_13 : decode cX5_latestOfTwo 13 = .ok (.invokevirtual 15, 3) := by decide +kernel
theorem dX5_latestOfTwo_16 : decode cX5_latestOfTwo 16 = .ok (.iconst 2, 1) := by decide +kernel
theorem dX5_latestOfTwo_17 : decode cX5_latestOfTwo 17 = .ok (.if_icmp .ne 5, 3) := by decide +kernel
theorem dX5_latestOfTwo_20 : decode cX5_latestOfTwo 20 = .ok (.iload_n 2, 1) := by decide +kernel
theorem dX5_latestOfTwo_21 : decode cX5_latestOfTwo 21 = .ok (.ireturn, 1) := by decide +kernel
theorem dX5_latestOfTwo_22 : decode cX5_latestOfTwo 22 = .ok (.iinc 2 (-1), 3) := by decide +kernel
theorem dX5_latestOfTwo_25 : decode cX5_latestOfTwo 25 = .ok (.goto (-21), 3) := by decide +kernel
theorem dX5_latestOfTwo_28 : decode cX5_latestOfTwo 28 = .ok (.iconst (-1), 1) := by decide +kernel
theorem dX5_latestOfTwo_29 : decode cX5_latestOfTwo 29 = .ok (.ireturn, 1) := by decide +kernel
theorem dX5_crossing_0 : decode cX5_crossing 0 = .ok (.iload_n 3, 1) := by decide +kernel
theorem dX5_crossing_1 : decode cX5_crossing 1 = .ok (.iconst (-1), 1) := by decide +kernel
theorem dX5_crossing_2 : decode cX5_crossing 2 = .ok (.if_icmp .ne 5, 3) := by decide +kernel
theorem dX5_crossing_5 : decode cX5_crossing 5 = .ok (.iconst 0, 1) := by decide +kernel
theorem dX5_crossing_6 : decode cX5_crossing 6 = .ok (.ireturn, 1) := by decide +kernel
theorem dX5_crossing_7 : decode cX5_crossing 7 = .ok (.aload_n 0, 1) := by decide +kernel
theorem dX5_crossing_8 : decode cX5_crossing 8 = .ok (.getfield 9, 3) := by decide +kernel
theorem dX5_crossing_11 : decode cX5_crossing 11 = .ok (.iload_n 1, 1) := by decide +kernel
theorem dX5_crossing_12 : decode cX5_crossing 12 = .ok (.invokevirtual 32, 3) := by decide +kernel
theorem dX5_crossing_15 : decode cX5_crossing 15 = .ok (.aload_n 0, 1) := by decide +kernel
theorem dX5_crossing_16 : decode cX5_crossing 16 = .ok (.iconst 1, 1) := by decide +kernel
theorem dX5_crossing_17 : decode cX5_crossing 17 = .ok (.iload_n 2, 1) := by decide +kernel
theorem dX5_crossing_18 : decode cX5_crossing 18 = .ok (.isub, 1) := by decide +kernel
theorem dX5_crossing_19 : decode cX5_crossing 19 = .ok (.iload_n 3, 1) := by decide +kernel
theorem dX5_crossing_20 : decode cX5_crossing 20 = .ok (.invokevirtual 35, 3) := by decide +kernel
theorem dX5_crossing_23 : decode cX5_crossing 23 = .ok (.isub, 1) := by decide +kernel
theorem dX5_crossing_24 : decode cX5_crossing 24 = .ok (.istore 4, 2) := by decide +kernel
theorem dX5_crossing_26 : decode cX5_crossing 26 = .ok (.iload_n 2, 1) := by decide +kernel
theorem dX5_crossing_27 : decode cX5_crossing 27 = .ok (.ifCond .ne 11, 3) := by decide +kernel
theorem dX5_crossing_30 : decode cX5_crossing 30 = .ok (.iload 4, 2) := by decide +kernel
theorem dX5_crossing_32 : decode cX5_crossing 32 = .ok (.ifCond .le 15, 3) := by decide +kernel
theorem dX5_crossing_35 : decode cX5_crossing 35 = .ok (.goto 8, 3) := by decide +kernel
theorem dX5_crossing_38 : decode cX5_crossing 38 = .ok (.iload 4, 2) := by decide +kernel
theorem dX5_crossing_40 : decode cX5_crossing 40 = .ok (.ifCond .ge 7, 3) := by decide +kernel
theorem dX5_crossing_43 : decode cX5_crossing 43 = .ok (.iconst 4, 1) := by decide +kernel
theorem dX5_crossing_44 : decode cX5_crossing 44 = .ok (.goto 4, 3) := by decide +kernel
theorem dX5_crossing_47 : decode cX5_crossing 47 = .ok (.iconst 0, 1) := by decide +kernel
theorem dX5_crossing_48 : decode cX5_crossing 48 = .ok (.ireturn, 1) := by decide +kernel
theorem dX5_pitchBy_0 : decode cX5_pitchBy 0 = .ok (.iload_n 1, 1) := by decide +kernel
theorem dX5_pitchBy_1 : decode cX5_pitchBy 1 = .ok (.ifCond .ne 14, 3) := by decide +kernel
theorem dX5_pitchBy_4 : decode cX5_pitchBy 4 = .ok (.aload_n 0, 1) := by decide +kernel
theorem dX5_pitchBy_5 : decode cX5_pitchBy 5 = .ok (.getfield 9, 3) := by decide +kernel
theorem dX5_pitchBy_8 : decode cX5_pitchBy 8 = .ok (.iload_n 2, 1) := by decide +kernel
theorem dX5_pitchBy_9 : decode cX5_pitchBy 9 = .ok (.invokevirtual 32, 3) := by decide +kernel
theorem dX5_pitchBy_12 : decode cX5_pitchBy 12 = .ok (.goto 11, 3) := by decide +kernel
theorem dX5_pitchBy_15 : decode cX5_pitchBy 15 = .ok (.aload_n 0, 1) := by decide +kernel
theorem dX5_pitchBy_16 : decode cX5_pitchBy 16 = .ok (.getfield 9, 3) := by decide +kernel
theorem dX5_pitchBy_19 : decode cX5_pitchBy 19 = .ok (.iload_n 2, 1) := by decide +kernel
theorem dX5_pitchBy_20 : decode cX5_pitchBy 20 = .ok (.invokevirtual 39, 3) := by decide +kernel
theorem dX5_pitchBy_23 : decode cX5_pitchBy 23 = .ok (.ireturn, 1) := by decide +kernel
theorem dX5_stepPrice_0 : decode cX5_stepPrice 0 = .ok (.aload_n 0, 1) := by decide +kernel
theorem dX5_stepPrice_1 : decode cX5_stepPrice 1 = .ok (.iload_n 3, 1) := by decide +kernel
theorem dX5_stepPrice_2 : decode cX5_stepPrice 2 = .ok (.iload 4, 2) := by decide +kernel
theorem dX5_stepPrice_4 : decode cX5_stepPrice 4 = .ok (.invokevirtual 42, 3) := by decide +kernel
theorem dX5_stepPrice_7 : decode cX5_stepPrice 7 = .ok (.istore 5, 2) := by decide +kernel
theorem dX5_stepPrice_9 : decode cX5_stepPrice 9 = .ok (.iload 5, 2) := by decide +kernel
theorem dX5_stepPrice_11 : decode cX5_stepPrice 11 = .ok (.iconst 2, 1) := by decide +kernel
theorem dX5_stepPrice_12 : decode cX5_stepPrice 12 = .ok (.if_icmp .eq 26, 3) := by decide +kernel
theorem dX5_stepPrice_15 : decode cX5_stepPrice 15 = .ok (.aload_n 0, 1) := by decide +kernel
theorem dX5_stepPrice_16 : decode cX5_stepPrice 16 = .ok (.iload_n 1, 1) := by decide +kernel
theorem dX5_stepPrice_17 : decode cX5_stepPrice 17 = .ok (.iload_n 2, 1) := by decide +kernel
theorem dX5_stepPrice_18 : decode cX5_stepPrice 18 = .ok (.iconst 1, 1) := by decide +kernel
theorem dX5_stepPrice_19 : decode cX5_stepPrice 19 = .ok (.iload 5, 2) := by decide +kernel
theorem dX5_stepPrice_21 : decode cX5_stepPrice 21 = .ok (.isub, 1) := by decide +kernel
theorem dX5_stepPrice_22 : decode cX5_stepPrice 22 = .ok (.invokevirtual 45, 3) := by decide +kernel
theorem dX5_stepPrice_25 : decode cX5_stepPrice 25 = .ok (.aload_n 0, 1) := by decide +kernel
theorem dX5_stepPrice_26 : decode cX5_stepPrice 26 = .ok (.iload_n 3, 1) := by decide +kernel
theorem dX5_stepPrice_27 : decode cX5_stepPrice 27 = .ok (.iload 4, 2) := by decide +kernel
theorem dX5_stepPrice_29 : decode cX5_stepPrice 29 = .ok (.invokevirtual 48, 3) := by decide +kernel
theorem dX5_stepPrice_32 : decode cX5_stepPrice 32 = .ok (.if_icmp .eq 6, 3) := by decide +kernel
theorem dX5_stepPrice_35 : decode cX5_stepPrice 35 = .ok (.bipush (-2), 2) := by decide +kernel
theorem dX5_stepPrice_37 : decode cX5_stepPrice 37 = .ok (.ireturn, 1) := by decide +kernel
theorem dX5_stepPrice_38 : decode cX5_stepPrice 38 = .ok (.iload 5, 2) := by decide +kernel
theorem dX5_stepPrice_40 : decode cX5_stepPrice 40 = .ok (.iconst 2, 1) := by decide +kernel
theorem dX5_stepPrice_41 : decode cX5_stepPrice 41 = .ok (.if_icmp .eq 18, 3) := by decide +kernel
theorem dX5_stepPrice_44 : decode cX5_stepPrice 44 = .ok (.aload_n 0, 1) := by decide +kernel
theorem dX5_stepPrice_45 : decode cX5_stepPrice 45 = .ok (.iload_n 1, 1) := by decide +kernel
theorem dX5_stepPrice_46 : decode cX5_stepPrice 46 = .ok (.iload_n 2, 1) := by decide +kernel
theorem dX5_stepPrice_47 : decode cX5_stepPrice 47 = .ok (.invokevirtual 42, 3) := by decide +kernel
theorem dX5_stepPrice_50 : decode cX5_stepPrice 50 = .ok (.iload 5, 2) := by decide +kernel
theorem dX5_stepPrice_52 : decode cX5_stepPrice 52 = .ok (.if_icmp .ne 7, 3) := by decide +kernel
theorem dX5_stepPrice_55 : decode cX5_stepPrice 55 = .ok (.iconst 2, 1) := by decide +kernel
theorem dX5_stepPrice_56 : decode cX5_stepPrice 56 = .ok (.goto 4, 3) := by decide +kernel
theorem dX5_stepPrice_59 : decode cX5_stepPrice 59 = .ok (.iconst 0, 1) := by decide +kernel
theorem dX5_stepPrice_60 : decode cX5_stepPrice 60 = .ok (.istore 6, 2) := by decide +kernel
theorem dX5_stepPrice_62 : decode cX5_stepPrice 62 = .ok (.iconst 0, 1) := by decide +kernel
theorem dX5_stepPrice_63 : decode cX5_stepPrice 63 = .ok (.istore 7, 2) := by decide +kernel
theorem dX5_stepPrice_65 : decode cX5_stepPrice 65 = .ok (.iload 7, 2) := by decide +kernel
theorem dX5_stepPrice_67 : decode cX5_stepPrice 67 = .ok (.iconst 2, 1) := by decide +kernel
theorem dX5_stepPrice_68 : decode cX5_stepPrice 68 = .ok (.if_icmp .ge 81, 3) := by decide +kernel
theorem dX5_stepPrice_71 : decode cX5_stepPrice 71 = .ok (.aload_n 0, 1) := by decide +kernel
theorem dX5_stepPrice_72 : decode cX5_stepPrice 72 = .ok (.iload_n 1, 1) := by decide +kernel
theorem dX5_stepPrice_73 : decode cX5_stepPrice 73 = .ok (.iload_n 2, 1) := by decide +kernel
theorem dX5_stepPrice_74 : decode cX5_stepPrice 74 = .ok (.iload 7, 2) := by decide +kernel
theorem dX5_stepPrice_76 : decode cX5_stepPrice 76 = .ok (.invokevirtual 45, 3) := by decide +kernel
theorem dX5_stepPrice_79 : decode cX5_stepPrice 79 = .ok (.istore 8, 2) := by decide +kernel
theorem dX5_stepPrice_81 : decode cX5_stepPrice 81 = .ok (.iload 8, 2) := by decide +kernel
theorem dX5_stepPrice_83 : decode cX5_stepPrice 83 = .ok (.iconst (-1), 1) := by decide +kernel
theorem dX5_stepPrice_84 : decode cX5_stepPrice 84 = .ok (.if_icmp .eq 59, 3) := by decide +kernel
theorem dX5_stepPrice_87 : decode cX5_stepPrice 87 = .ok (.iload 5, 2) := by decide +kernel
theorem dX5_stepPrice_89 : decode cX5_stepPrice 89 = .ok (.iconst 2, 1) := by decide +kernel
theorem dX5_stepPrice_90 : decode cX5_stepPrice 90 = .ok (.if_icmp .eq 10, 3) := by decide +kernel
theorem dX5_stepPrice_93 : decode cX5_stepPrice 93 = .ok (.iload 5, 2) := by decide +kernel
theorem dX5_stepPrice_95 : decode cX5_stepPrice 95 = .ok (.iload 7, 2) := by decide +kernel
theorem dX5_stepPrice_97 : decode cX5_stepPrice 97 = .ok (.if_icmp .ne 46, 3) := by decide +kernel
theorem dX5_stepPrice_100 : decode cX5_stepPrice 100 = .ok (.aload_n 0, 1) := by decide +kernel
theorem dX5_stepPrice_101 : decode cX5_stepPrice 101 = .ok (.iload 7, 2) := by decide +kernel
theorem dX5_stepPrice_103 : decode cX5_stepPrice 103 = .ok (.iload_n 3, 1) := by decide +kernel
theorem dX5_stepPrice_104 : decode cX5_stepPrice 104 = .ok (.invokevirtual 35, 3) := by decide +kernel
theorem dX5_stepPrice_107 : decode cX5_stepPrice 107 = .ok (.aload_n 0, 1) := by decide +kernel
theorem dX5_stepPrice_108 : decode cX5_stepPrice 108 = .ok (.iload 7, 2) := by decide +kernel
theorem dX5_stepPrice_110 : decode cX5_stepPrice 110 = .ok (.iload 8, 2) := by decide +kernel
theorem dX5_stepPrice_112 : decode cX5_stepPrice 112 = .ok (.invokevirtual 35, 3) := by decide +kernel
theorem dX5_stepPrice_115 : decode cX5_stepPrice 115 = .ok (.isub, 1) := by decide +kernel
theorem dX5_stepPrice_116 : decode cX5_stepPrice 116 = .ok (.invokestatic 51, 3) := by decide +kernel
theorem dX5_stepPrice_119 : decode cX5_stepPrice 119 = .ok (.istore 9, 2) := by decide +kernel
theorem dX5_stepPrice_121 : decode cX5_stepPrice 121 = .ok (.aload_n 0, 1) := by decide +kernel
theorem dX5_stepPrice_122 : decode cX5_stepPrice 122 = .ok (.iload 9, 2) := by decide +kernel
theorem dX5_stepPrice_124 : decode cX5_stepPrice 124 = .ok (.iload 8, 2) := by decide +kernel
theorem dX5_stepPrice_126 : decode cX5_stepPrice 126 = .ok (.iload_n 3, 1) := by decide +kernel
theorem dX5_stepPrice_127 : decode cX5_stepPrice 127 = .ok (.invokevirtual 56, 3) := by decide +kernel
theorem dX5_stepPrice_130 : decode cX5_stepPrice 130 = .ok (.ifCond .eq 6, 3) := by decide +kernel
theorem dX5_stepPrice_133 : decode cX5_stepPrice 133 = .ok (.bipush (-2), 2) := by decide +kernel
theorem dX5_stepPrice_135 : decode cX5_stepPrice 135 = .ok (.ireturn, 1) := by decide +kernel
theorem dX5_stepPrice_136 : decode cX5_stepPrice 136 = .ok (.iload 6, 2) := by decide +kernel
theorem dX5_stepPrice_138 : decode cX5_stepPrice 138 = .ok (.iload 9, 2) := by decide +kernel
theorem dX5_stepPrice_140 : decode cX5_stepPrice 140 = .ok (.iadd, 1) := by decide +kernel
theorem dX5_stepPrice_141 : decode cX5_stepPrice 141 = .ok (.istore 6, 2) := by decide +kernel
theorem dX5_stepPrice_143 : decode cX5_stepPrice 143 = .ok (.iinc 7 1, 3) := by decide +kernel
theorem dX5_stepPrice_146 : decode cX5_stepPrice 146 = .ok (.goto (-81), 3) := by decide +kernel
theorem dX5_stepPrice_149 : decode cX5_stepPrice 149 = .ok (.iload 6, 2) := by decide +kernel
theorem dX5_stepPrice_151 : decode cX5_stepPrice 151 = .ok (.ireturn, 1) := by decide +kernel
theorem dX5_lastPlayed_0 : decode cX5_lastPlayed 0 = .ok (.aload_n 0, 1) := by decide +kernel
theorem dX5_lastPlayed_1 : decode cX5_lastPlayed 1 = .ok (.iload_n 1, 1) := by decide +kernel
theorem dX5_lastPlayed_2 : decode cX5_lastPlayed 2 = .ok (.iload_n 2, 1) := by decide +kernel
theorem dX5_lastPlayed_3 : decode cX5_lastPlayed 3 = .ok (.invokevirtual 42, 3) := by decide +kernel
theorem dX5_lastPlayed_6 : decode cX5_lastPlayed 6 = .ok (.istore 4, 2) := by decide +kernel
theorem dX5_lastPlayed_8 : decode cX5_lastPlayed 8 = .ok (.iload 4, 2) := by decide +kernel
theorem dX5_lastPlayed_10 : decode cX5_lastPlayed 10 = .ok (.iconst 2, 1) := by decide +kernel
theorem dX5_lastPlayed_11 : decode cX5_lastPlayed 11 = .ok (.if_icmp .eq 9, 3) := by decide +kernel
theorem dX5_lastPlayed_14 : decode cX5_lastPlayed 14 = .ok (.iload 4, 2) := by decide +kernel
theorem dX5_lastPlayed_16 : decode cX5_lastPlayed 16 = .ok (.iload_n 3, 1) := by decide +kernel
theorem dX5_lastPlayed_17 : decode cX5_lastPlayed 17 = .ok (.if_icmp .ne 7, 3) := by decide +kernel
theorem dX5_lastPlayed_20 : decode cX5_lastPlayed 20 = .ok (.iload_n 1, 1) := by decide +kernel
theorem dX5_lastPlayed_21 : decode cX5_lastPlayed 21 = .ok (.goto 9, 3) := by decide +kernel
theorem dX5_lastPlayed_24 : decode cX5_lastPlayed 24 = .ok (.aload_n 0, 1) := by decide +kernel
theorem dX5_lastPlayed_25 : decode cX5_lastPlayed 25 = .ok (.iload_n 1, 1) := by decide +kernel
theorem dX5_lastPlayed_26 : decode cX5_lastPlayed 26 = .ok (.iload_n 2, 1) := by decide +kernel
theorem dX5_lastPlayed_27 : decode cX5_lastPlayed 27 = .ok (.invokevirtual 48, 3) := by decide +kernel
theorem dX5_lastPlayed_30 : decode cX5_lastPlayed 30 = .ok (.ireturn, 1) := by decide +kernel
theorem dX6_init_0 : decode cX6_init 0 = .ok (.aload_n 0, 1) := by decide +kernel
theorem dX6_init_1 : decode cX6_init 1 = .ok (.bipush 48, 2) := by decide +kernel
theorem dX6_init_3 : decode cX6_init 3 = .ok (.invokespecial 5, 3) := by decide +kernel
theorem dX6_init_6 : decode cX6_init 6 = .ok (.return_, 1) := by decide +kernel
theorem dX6_listOne_0 : decode cX6_listOne 0 = .ok (.iconst 0, 1) := by decide +kernel
theorem dX6_listOne_1 : decode cX6_listOne 1 = .ok (.istore_n 2, 1) := by decide +kernel
theorem dX6_listOne_2 : decode cX6_listOne 2 = .ok (.iload_n 2, 1) := by decide +kernel
theorem dX6_listOne_3 : decode cX6_listOne 3 = .ok (.bipush 12, 2) := by decide +kernel
theorem dX6_listOne_5 : decode cX6_listOne 5 = .ok (.if_icmp .ge 56, 3) := by decide +kernel
theorem dX6_listOne_8 : decode cX6_listOne 8 = .ok (.iconst 0, 1) := by decide +kernel
theorem dX6_listOne_9 : decode cX6_listOne 9 = .ok (.istore_n 3, 1) := by decide +kernel
theorem dX6_listOne_10 : decode cX6_listOne 10 = .ok (.iload_n 3, 1) := by decide +kernel
theorem dX6_listOne_11 : decode cX6_listOne 11 = .ok (.aload_n 0, 1) := by decide +kernel
theorem dX6_listOne_12 : decode cX6_listOne 12 = .ok (.getfield 11, 3) := by decide +kernel
theorem dX6_listOne_15 : decode cX6_listOne 15 = .ok (.iload_n 1, 1) := by decide +kernel
theorem dX6_listOne_16 : decode cX6_listOne 16 = .ok (.invokevirtual 15, 3) := by decide +kernel
theorem dX6_listOne_19 : decode cX6_listOne 19 = .ok (.iadd, 1) := by decide +kernel
theorem dX6_listOne_20 : decode cX6_listOne 20 = .ok (.iconst 4, 1) := by decide +kernel
theorem dX6_listOne_21 : decode cX6_listOne 21 = .ok (.if_icmp .gt 34, 3) := by decide +kernel
theorem dX6_listOne_24 : decode cX6_listOne 24 = .ok (.aload_n 0, 1) := by decide +kernel
theorem dX6_listOne_25 : decode cX6_listOne 25 = .ok (.iload_n 1, 1) := by decide +kernel
theorem dX6_listOne_26 : decode cX6_listOne 26 = .ok (.iload_n 2, 1) := by decide +kernel
theorem dX6_listOne_27 : decode cX6_listOne 27 = .ok (.iload_n 3, 1) := by decide +kernel
theorem dX6_listOne_28 : decode cX6_listOne 28 = .ok (.invokevirtual 21, 3) := by decide +kernel
theorem dX6_listOne_31 : decode cX6_listOne 31 = .ok (.istore 4, 2) := by decide +kernel
theorem dX6_listOne_33 : decode cX6_listOne 33 = .ok (.iload 4, 2) := by decide +kernel
theorem dX6_listOne_35 : decode cX6_listOne 35 = .ok (.bipush (-2), 2) := by decide +kernel
theorem dX6_listOne_37 : decode cX6_listOne 37 = .ok (.if_icmp .eq 12, 3) := by decide +kernel
theorem dX6_listOne_40 : decode cX6_listOne 40 = .ok (.aload_n 0, 1) := by decide +kernel
theorem dX6_listOne_41 : decode cX6_listOne 41 = .ok (.iload_n 1, 1) := by decide +kernel
theorem dX6_listOne_42 : decode cX6_listOne 42 = .ok (.iload 4, 2) := by decide +kernel
theorem dX6_listOne_44 : decode cX6_listOne 44 = .ok (.iload_n 2, 1) := by decide +kernel
theorem dX6_listOne_45 : decode cX6_listOne 45 = .ok (.iload_n 3, 1) := by decide +kernel
theorem dX6_listOne_46 : decode cX6_listOne 46 = .ok (.invokevirtual 25, 3) := by decide +kernel
theorem dX6_listOne_49 : decode cX6_listOne 49 = .ok (.iinc 3 1, 3) := by decide +kernel
theorem dX6_listOne_52 : decode cX6_listOne 52 = .ok (.goto (-42), 3) := by decide +kernel
theorem dX6_listOne_55 : decode cX6_listOne 55 = .ok (.iinc 2 1, 3) := by decide +kernel
theorem dX6_listOne_58 : decode cX6_listOne 58 = .ok (.goto (-56), 3) := by decide +kernel
theorem dX6_listOne_61 : decode cX6_listOne 61 = .ok (.return_, 1) := by decide +kernel
theorem dX6_stops_0 : decode cX6_stops 0 = .ok (.iconst 0, 1) := by decide +kernel
theorem dX6_stops_1 : decode cX6_stops 1 = .ok (.istore 4, 2) := by decide +kernel
theorem dX6_stops_3 : decode cX6_stops 3 = .ok (.iconst 0, 1) := by decide +kernel
theorem dX6_stops_4 : decode cX6_stops 4 = .ok (.istore 5, 2) := by decide +kernel
theorem dX6_stops_6 : decode cX6_stops 6 = .ok (.iload 5, 2) := by decide +kernel
theorem dX6_stops_8 : decode cX6_stops 8 = .ok (.aload_n 0, 1) := by decide +kernel
theorem dX6_stops_9 : decode cX6_stops 9 = .ok (.getfield 11, 3) := by decide +kernel
theorem dX6_stops_12 : decode cX6_stops 12 = .ok (.iload_n 1, 1) := by decide +kernel
theorem dX6_stops_13 : decode cX6_stops 13 = .ok (.invokevirtual 15, 3) := by decide +kernel
theorem dX6_stops_16 : decode cX6_stops 16 = .ok (.if_icmp .ge 78, 3) := by decide +kernel
theorem dX6_stops_19 : decode cX6_stops 19 = .ok (.aload_n 0, 1) := by decide +kernel
theorem dX6_stops_20 : decode cX6_stops 20 = .ok (.getfield 11, 3) := by decide +kernel
theorem dX6_stops_23 : decode cX6_stops 23 = .ok (.iload_n 1, 1) := by decide +kernel
theorem dX6_stops_24 : decode cX6_stops 24 = .ok (.iload 5, 2) := by decide +kernel
theorem dX6_stops_26 : decode cX6_stops 26 = .ok (.invokevirtual 29, 3) := by decide +kernel
theorem dX6_stops_29 : decode cX6_stops 29 = .ok (.aload_n 0, 1) := by decide +kernel
theorem dX6_stops_30 : decode cX6_stops 30 = .ok (.getfield 11, 3) := by decide +kernel
theorem dX6_stops_33 : decode cX6_stops 33 = .ok (.bipush 6, 2) := by decide +kernel
theorem dX6_stops_35 : decode cX6_stops 35 = .ok (.iload_n 3, 1) := by decide +kernel
theorem dX6_stops_36 : decode cX6_stops 36 = .ok (.iadd, 1) := by decide +kernel
theorem dX6_stops_37 : decode cX6_stops 37 = .ok (.iload 5, 2) := by decide +kernel
theorem dX6_stops_39 : decode cX6_stops 39 = .ok (.iadd, 1) := by decide +kernel
theorem dX6_stops_40 : decode cX6_stops 40 = .ok (.invokevirtual 33, 3) := by decide +kernel
theorem dX6_stops_43 : decode cX6_stops 43 = .ok (.isub, 1) := by decide +kernel
theorem dX6_stops_44 : decode cX6_stops 44 = .ok (.istore 6, 2) := by decide +kernel
theorem dX6_stops_46 : decode cX6_stops 46 = .ok (.iload 6, 2) := by decide +kernel
theorem dX6_stops_48 : decode cX6_stops 48 = .ok (.ifCond .eq 40, 3) := by decide +kernel
theorem dX6_stops_51 : decode cX6_stops 51 = .ok (.iload 6, 2) := by decide +kernel
theorem dX6_stops_53 : decode cX6_stops 53 = .ok (.iload_n 2, 1) := by decide +kernel
theorem dX6_stops_54 : decode cX6_stops 54 = .ok (.isub, 1) := by decide +kernel
theorem dX6_stops_55 : decode cX6_stops 55 = .ok (.istore 7, 2) := by decide +kernel
theorem dX6_stops_57 : decode cX6_stops 57 = .ok (.iload 7, 2) := by decide +kernel
theorem dX6_stops_59 : decode cX6_stops 59 = .ok (.iconst 1, 1) := by decide +kernel
theorem dX6_stops_60 : decode cX6_stops 60 = .ok (.if_icmp .lt 9, 3) := by decide +kernel
theorem dX6_stops_63 : decode cX6_stops 63 = .ok (.iload 7, 2) := by decide +kernel
theorem dX6_stops_65 : decode cX6_stops 65 = .ok (.iconst 4, 1) := by decide +kernel
theorem dX6_stops_66 : decode cX6_stops 66 = .ok (.if_icmp .le 6, 3) := by decide +kernel
theorem dX6_stops_69 : decode cX6_stops 69 = .ok (.bipush (-2), 2) := by decide +kernel
theorem dX6_stops_71 : decode cX6_stops 71 = .ok (.ireturn, 1) := by decide +kernel
theorem dX6_stops_72 : decode cX6_stops 72 = .ok (.iload 4, 2) := by decide +kernel
theorem dX6_stops_74 : decode cX6_stops 74 = .ok (.iload 7, 2) := by decide +kernel
theorem dX6_stops_76 : decode cX6_stops 76 = .ok (.iconst 4, 1) := by decide +kernel
theorem dX6_stops_77 : decode cX6_stops 77 = .ok (.if_icmp .ne 7, 3) := by decide +kernel
theorem dX6_stops_80 : decode cX6_stops 80 = .ok (.iconst 2, 1) := by decide +kernel
theorem dX6_stops_81 : decode cX6_stops 81 = .ok (.goto 4, 3) := by decide +kernel
theorem dX6_stops_84 : decode cX6_stops 84 = .ok (.iconst 1, 1) := by decide +kernel
theorem dX6_stops_85 : decode cX6_stops 85 = .ok (.iadd, 1) := by decide +kernel
theorem dX6_stops_86 : decode cX6_stops 86 = .ok (.istore 4, 2) := by decide +kernel
theorem dX6_stops_88 : decode cX6_stops 88 = .ok (.iinc 5 1, 3) := by decide +kernel
theorem dX6_stops_91 : decode cX6_stops 91 = .ok (.goto (-85), 3) := by decide +kernel
theorem dX6_stops_94 : decode cX6_stops 94 = .ok (.iload 4, 2) := by decide +kernel
theorem dX6_stops_96 : decode cX6_stops 96 = .ok (.ireturn, 1) := by decide +kernel
theorem dX6_stepPrice_0 : decode cX6_stepPrice 0 = .ok (.aload_n 0, 1) := by decide +kernel
theorem dX6_stepPrice_1 : decode cX6_stepPrice 1 = .ok (.iload_n 1, 1) := by decide +kernel
theorem dX6_stepPrice_2 : decode cX6_stepPrice 2 = .ok (.iload_n 2, 1) := by decide +kernel
theorem dX6_stepPrice_3 : decode cX6_stepPrice 3 = .ok (.invokevirtual 36, 3) := by decide +kernel
theorem dX6_stepPrice_6 : decode cX6_stepPrice 6 = .ok (.aload_n 0, 1) := by decide +kernel
theorem dX6_stepPrice_7 : decode cX6_stepPrice 7 = .ok (.iload_n 3, 1) := by decide +kernel
theorem dX6_stepPrice_8 : decode cX6_stepPrice 8 = .ok (.iload 4, 2) := by decide +kernel
theorem dX6_stepPrice_10 : decode cX6_stepPrice 10 = .ok (.invokevirtual 36, 3) := by decide +kernel
theorem dX6_stepPrice_13 : decode cX6_stepPrice 13 = .ok (.isub, 1) := by decide +kernel
theorem dX6_stepPrice_14 : decode cX6_stepPrice 14 = .ok (.invokestatic 39, 3) := by decide +kernel
theorem dX6_stepPrice_17 : decode cX6_stepPrice 17 = .ok (.istore 5, 2) := by decide +kernel
theorem dX6_stepPrice_19 : decode cX6_stepPrice 19 = .ok (.aload_n 0, 1) := by decide +kernel
theorem dX6_stepPrice_20 : decode cX6_stepPrice 20 = .ok (.iload 5, 2) := by decide +kernel
theorem dX6_stepPrice_22 : decode cX6_stepPrice 22 = .ok (.iload_n 1, 1) := by decide +kernel
theorem dX6_stepPrice_23 : decode cX6_stepPrice 23 = .ok (.iload_n 3, 1) := by decide +kernel
theorem dX6_stepPrice_24 : decode cX6_stepPrice 24 = .ok (.invokevirtual 44, 3) := by decide +kernel
theorem dX6_stepPrice_27 : decode cX6_stepPrice 27 = .ok (.ifCond .eq 6, 3) := by decide +kernel
theorem dX6_stepPrice_30 : decode cX6_stepPrice 30 = .ok (.bipush (-2), 2) := by decide +kernel
theorem dX6_stepPrice_32 : decode cX6_stepPrice 32 = .ok (.ireturn, 1) := by decide +kernel
theorem dX6_stepPrice_33 : decode cX6_stepPrice 33 = .ok (.iconst 2, 1) := by decide +kernel
theorem dX6_stepPrice_34 : decode cX6_stepPrice 34 = .ok (.iload 5, 2) := by decide +kernel
theorem dX6_stepPrice_36 : decode cX6_stepPrice 36 = .ok (.imul, 1) := by decide +kernel
theorem dX6_stepPrice_37 : decode cX6_stepPrice 37 = .ok (.aload_n 0, 1) := by decide +kernel
theorem dX6_stepPrice_38 : decode cX6_stepPrice 38 = .ok (.iload_n 1, 1) := by decide +kernel
theorem dX6_stepPrice_39 : decode cX6_stepPrice 39 = .ok (.iload_n 2, 1) := by decide +kernel
theorem dX6_stepPrice_40 : decode cX6_stepPrice 40 = .ok (.invokevirtual 48, 3) := by decide +kernel
theorem dX6_stepPrice_43 : decode cX6_stepPrice 43 = .ok (.aload_n 0, 1) := by decide +kernel
theorem dX6_stepPrice_44 : decode cX6_stepPrice 44 = .ok (.iload_n 3, 1) := by decide +kernel
theorem dX6_stepPrice_45 : decode cX6_stepPrice 45 = .ok (.iload 4, 2) := by decide +kernel
theorem dX6_stepPrice_47 : decode cX6_stepPrice 47 = .ok (.invokevirtual 48, 3) := by decide +kernel
theorem dX6_stepPrice_50 : decode cX6_stepPrice 50 = .ok (.isub, 1) := by decide +kernel
theorem dX6_stepPrice_51 : decode cX6_stepPrice 51 = .ok (.invokestatic 39, 3) := by decide +kernel
theorem dX6_stepPrice_54 : decode cX6_stepPrice 54 = .ok (.iadd, 1) := by decide +kernel
theorem dX6_stepPrice_55 : decode cX6_stepPrice 55 = .ok (.ireturn, 1) := by decide +kernel
theorem dX7_init_0 : decode cX7_init 0 = .ok (.aload_n 0, 1) := by decide +kernel
theorem dX7_init_1 : decode cX7_init 1 = .ok (.invokespecial 3, 3) := by decide +kernel
theorem dX7_init_4 : decode cX7_init 4 = .ok (.aload_n 0, 1) := by decide +kernel
theorem dX7_init_5 : decode cX7_init 5 = .ok (.sipush 301, 3) := by decide +kernel
theorem dX7_init_8 : decode cX7_init 8 = .ok (.newarray .int, 2) := by decide +kernel
theorem dX7_init_10 : decode cX7_init 10 = .ok (.putfield 11, 3) := by decide +kernel
theorem dX7_init_13 : decode cX7_init 13 = .ok (.aload_n 0, 1) := by decide +kernel
theorem dX7_init_14 : decode cX7_init 14 = .ok (.sipush 301, 3) := by decide +kernel
theorem dX7_init_17 : decode cX7_init 17 = .ok (.newarray .int, 2) := by decide +kernel
theorem dX7_init_19 : decode cX7_init 19 = .ok (.putfield 15, 3) := by decide +kernel
theorem dX7_init_22 : decode cX7_init 22 = .ok (.aload_n 0, 1) := by decide +kernel
theorem dX7_init_23 : decode cX7_init 23 = .ok (.sipush 301, 3) := by decide +kernel
theorem dX7_init_26 : decode cX7_init 26 = .ok (.newarray .int, 2) := by decide +kernel
theorem dX7_init_28 : decode cX7_init 28 = .ok (.putfield 18, 3) := by decide +kernel
theorem dX7_init_31 : decode cX7_init 31 = .ok (.aload_n 0, 1) := by decide +kernel
theorem dX7_init_32 : decode cX7_init 32 = .ok (.iconst (-1), 1) := by decide +kernel
theorem dX7_init_33 : decode cX7_init 33 = .ok (.putfield 21, 3) := by decide +kernel
theorem dX7_init_36 : decode cX7_init 36 = .ok (.aload_n 0, 1) := by decide +kernel
theorem dX7_init_37 : decode cX7_init 37 = .ok (.iconst 1, 1) := by decide +kernel
theorem dX7_init_38 : decode cX7_init 38 = .ok (.iload_n 1, 1) := by decide +kernel
theorem dX7_init_39 : decode cX7_init 39 = .ok (.invokestatic 25, 3) := by decide +kernel
theorem dX7_init_42 : decode cX7_init 42 = .ok (.sipush 301, 3) := by decide +kernel
theorem dX7_init_45 : decode cX7_init 45 = .ok (.imul, 1) := by decide +kernel
theorem dX7_init_46 : decode cX7_init 46 = .ok (.newarray .int, 2) := by decide +kernel
theorem dX7_init_48 : decode cX7_init 48 = .ok (.putfield 31, 3) := by decide +kernel
theorem dX7_init_51 : decode cX7_init 51 = .ok (.aload_n 0, 1) := by decide +kernel
theorem dX7_init_52 : decode cX7_init 52 = .ok (.iconst 1, 1) := by decide +kernel
theorem dX7_init_53 : decode cX7_init 53 = .ok (.iload_n 1, 1) := by decide +kernel
theorem dX7_init_54 : decode cX7_init 54 = .ok (.invokestatic 25, 3) := by decide +kernel
theorem dX7_init_57 : decode cX7_init 57 = .ok (.sipush 301, 3) := by decide +kernel
theorem dX7_init_60 : decode cX7_init 60 = .ok (.imul, 1) := by decide +kernel
theorem dX7_init_61 : decode cX7_init 61 = .ok (.newarray .int, 2) := by decide +kernel
theorem dX7_init_63 : decode cX7_init 63 = .ok (.putfield 34, 3) := by decide +kernel
theorem dX7_init_66 : decode cX7_init 66 = .ok (.return_, 1) := by decide +kernel
theorem dX7_run_0 : decode cX7_run 0 = .ok (.aload_n 0, 1) := by decide +kernel
theorem dX7_run_1 : decode cX7_run 1 = .ok (.getfield 11, 3) := by decide +kernel
theorem dX7_run_4 : decode cX7_run 4 = .ok (.iconst 0, 1) := by decide +kernel
theorem dX7_run_5 : decode cX7_run 5 = .ok (.invokestatic 37, 3) := by decide +kernel
theorem dX7_run_8 : decode cX7_run 8 = .ok (.aload_n 0, 1) := by decide +kernel
theorem dX7_run_9 : decode cX7_run 9 = .ok (.getfield 11, 3) := by decide +kernel
theorem dX7_run_12 : decode cX7_run 12 = .ok (.iconst 0, 1) := by decide +kernel
theorem dX7_run_13 : decode cX7_run 13 = .ok (.iconst 1, 1) := by decide +kernel
theorem dX7_run_14 : decode cX7_run 14 = .ok (.iastore, 1) := by decide +kernel
theorem dX7_run_15 : decode cX7_run 15 = .ok (.iconst 0, 1) := by decide +kernel
theorem dX7_run_16 : decode cX7_run 16 = .ok (.istore_n 3, 1) := by decide +kernel
theorem dX7_run_17 : decode cX7_run 17 = .ok (.iload_n 3, 1) := by decide +kernel
theorem dX7_run_18 : decode cX7_run 18 = .ok (.iconst 2, 1) := by decide +kernel
theorem dX7_run_19 : decode cX7_run 19 = .ok (.if_icmp .ge 33, 3) := by decide +kernel
theorem dX7_run_22 : decode cX7_run 22 = .ok (.aload_n 1, 1) := by decide +kernel
theorem dX7_run_23 : decode cX7_run 23 = .ok (.getfield 43, 3) := by decide +kernel
theorem dX7_run_26 : decode cX7_run 26 = .ok (.iload_n 3, 1) := by decide +kernel
theorem dX7_run_27 : decode cX7_run 27 = .ok (.iconst 0, 1) := by decide +kernel
theorem dX7_run_28 : decode cX7_run 28 = .ok (.invokevirtual 49, 3) := by decide +kernel
theorem dX7_run_31 : decode cX7_run 31 = .ok (.ifCond .lt 15, 3) := by decide +kernel
theorem dX7_run_34 : decode cX7_run 34 = .ok (.aload_n 0, 1) := by decide +kernel
theorem dX7_run_35 : decode cX7_run 35 = .ok (.aload_n 1, 1) := by decide +kernel
theorem dX7_run_36 : decode cX7_run 36 = .ok (.iload_n 3, 1) := by decide +kernel
theorem dX7_run_37 : decode cX7_run 37 = .ok (.iload_n 2, 1) := by decide +kernel
theorem dX7_run_38 : decode cX7_run 38 = .ok (.invokevirtual 54, 3) := by decide +kernel
theorem dX7_run_41 : decode cX7_run 41 = .ok (.aload_n 0, 1) := by decide +kernel
theorem dX7_run_42 : decode cX7_run 42 = .ok (.iload_n 2, 1) := by decide +kernel
theorem dX7_run_43 : decode cX7_run 43 = .ok (.invokevirtual 58, 3) := by decide +kernel
theorem dX7_run_46 : decode cX7_run 46 = .ok (.iinc 3 1, 3) := by decide +kernel
theorem dX7_run_49 : decode cX7_run 49 = .ok (.goto (-32), 3) := by decide +kernel
theorem dX7_run_52 : decode cX7_run 52 = .ok (.aload_n 0, 1) := by decide +kernel
theorem dX7_run_53 : decode cX7_run 53 = .ok (.iload_n 2, 1) := by decide +kernel
theorem dX7_run_54 : decode cX7_run 54 = .ok (.putfield 21, 3) := by decide +kernel
theorem dX7_run_57 : decode cX7_run 57 = .ok (.return_, 1) := by decide +kernel
theorem dX7_sumTo_0 : decode cX7_sumTo 0 = .ok (.iconst 0, 1) := by decide +kernel
theorem dX7_sumTo_1 : decode cX7_sumTo 1 = .ok (.istore_n 2, 1) := by decide +kernel
theorem dX7_sumTo_2 : decode cX7_sumTo 2 = .ok (.iconst 0, 1) := by decide +kernel
theorem dX7_sumTo_3 : decode cX7_sumTo 3 = .ok (.istore_n 3, 1) := by decide +kernel
theorem dX7_sumTo_4 : decode cX7_sumTo 4 = .ok (.iload_n 3, 1) := by decide +kernel
theorem dX7_sumTo_5 : decode cX7_sumTo 5 = .ok (.iload_n 1, 1) := by decide +kernel
theorem dX7_sumTo_6 : decode cX7_sumTo 6 = .ok (.if_icmp .gt 27, 3) := by decide +kernel
theorem dX7_sumTo_9 : decode cX7_sumTo 9 = .ok (.iload_n 3, 1) := by decide +kernel
theorem dX7_sumTo_10 : decode cX7_sumTo 10 = .ok (.sipush 301, 3) := by decide +kernel
theorem dX7_sumTo_13 : decode cX7_sumTo 13 = .ok (.if_icmp .ge 20, 3) := by decide +kernel
theorem dX7_sumTo_16 : decode cX7_sumTo 16 = .ok (.iload_n 2, 1) := by decide +kernel
theorem dX7_sumTo_17 : decode cX7_sumTo 17 = .ok (.aload_n 0, 1) := by decide +kernel
theorem dX7_sumTo_18 : decode cX7_sumTo 18 = .ok (.getfield 11, 3) := by decide +kernel
theorem dX7_sumTo_21 : decode cX7_sumTo 21 = .ok (.iload_n 3, 1) := by decide +kernel
theorem dX7_sumTo_22 : decode cX7_sumTo 22 = .ok (.iaload, 1) := by decide +kernel
theorem dX7_sumTo_23 : decode cX7_sumTo 23 = .ok (.invokestatic 62, 3) := by decide +kernel
theorem dX7_sumTo_26 : decode cX7_sumTo 26 = .ok (.istore_n 2, 1) := by decide +kernel
theorem dX7_sumTo_27 : decode cX7_sumTo 27 = .ok (.iinc 3 1, 3) := by decide +kernel
theorem dX7_sumTo_30 : decode cX7_sumTo 30 = .ok (.goto (-26), 3) := by decide +kernel
theorem dX7_sumTo_33 : decode cX7_sumTo 33 = .ok (.iload_n 2, 1) := by decide +kernel
theorem dX7_sumTo_34 : decode cX7_sumTo 34 = .ok (.ireturn, 1) := by decide +kernel
theorem dX7_capped_0 : decode cX7_capped 0 = .ok (.ldc 65, 2) := by decide +kernel
theorem dX7_capped_2 : decode cX7_capped 2 = .ok (.iload_n 0, 1) := by decide +kernel
theorem dX7_capped_3 : decode cX7_capped 3 = .ok (.iload_n 1, 1) := by decide +kernel
theorem dX7_capped_4 : decode cX7_capped 4 = .ok (.iadd, 1) := by decide +kernel
theorem dX7_capped_5 : decode cX7_capped 5 = .ok (.invokestatic 66, 3) := by decide +kernel
theorem dX7_capped_8 : decode cX7_capped 8 = .ok (.ireturn, 1) := by decide +kernel
theorem dX7_tallyChain_0 : decode cX7_tallyChain 0 = .ok (.aload_n 1, 1) := by decide +kernel
theorem dX7_tallyChain_1 : decode cX7_tallyChain 1 = .ok (.getfield 43, 3) := by decide +kernel
theorem dX7_tallyChain_4 : decode cX7_tallyChain 4 = .ok (.iload_n 2, 1) := by decide +kernel
theorem dX7_tallyChain_5 : decode cX7_tallyChain 5 = .ok (.iconst 0, 1) := by decide +kernel
theorem dX7_tallyChain_6 : decode cX7_tallyChain 6 = .ok (.invokevirtual 49, 3) := by decide +kernel
theorem dX7_tallyChain_9 : decode cX7_tallyChain 9 = .ok (.istore 4, 2) := by decide +kernel
theorem dX7_tallyChain_11 : decode cX7_tallyChain 11 = .ok (.aload_n 0, 1) := by decide +kernel
theorem dX7_tallyChain_12 : decode cX7_tallyChain 12 = .ok (.aload_n 1, 1) := by decide +kernel
theorem dX7_tallyChain_13 : decode cX7_tallyChain 13 = .ok (.iload 4, 2) := by decide +kernel
theorem dX7_tallyChain_15 : decode cX7_tallyChain 15 = .ok (.invokevirtual 69, 3) := by decide +kernel
theorem dX7_tallyChain_18 : decode cX7_tallyChain 18 = .ok (.iload 4, 2) := by decide +kernel
theorem dX7_tallyChain_20 : decode cX7_tallyChain 20 = .ok (.iconst 1, 1) := by decide +kernel
theorem dX7_tallyChain_21 : decode cX7_tallyChain 21 = .ok (.iadd, 1) := by decide +kernel
theorem dX7_tallyChain_22 : decode cX7_tallyChain 22 = .ok (.istore 5, 2) := by decide +kernel
theorem dX7_tallyChain_24 : decode cX7_tallyChain 24 = .ok (.iload 5, 2) := by decide +kernel
theorem dX7_tallyChain_26 : decode cX7_tallyChain 26 = .ok (.aload_n 1, 1) := by decide +kernel
theorem dX7_tallyChain_27 : decode cX7_tallyChain 27 = .ok (.getfield 43, 3) := by decide +kernel
theorem dX7_tallyChain_30 : decode cX7_tallyChain 30 = .ok (.getfield 73, 3) := by decide +kernel
theorem dX7_tallyChain_33 : decode cX7_tallyChain 33 = .ok (.if_icmp .ge 36, 3) := by decide +kernel
theorem dX7_tallyChain_36 : decode cX7_tallyChain 36 = .ok (.aload_n 1, 1) := by decide +kernel
theorem dX7_tallyChain_37 : decode cX7_tallyChain 37 = .ok (.getfield 43, 3) := by decide +kernel
theorem dX7_tallyChain_40 : decode cX7_tallyChain 40 = .ok (.iload 5, 2) := by decide +kernel
theorem dX7_tallyChain_42 : decode cX7_tallyChain 42 = .ok (.invokevirtual 76, 3) := by decide +kernel
theorem dX7_tallyChain_45 : decode cX7_tallyChain 45 = .ok (.iload_n 2, 1) := by decide +kernel
theorem dX7_tallyChain_46 : decode cX7_tallyChain 46 = .ok (.if_icmp .ne 17, 3) := by decide +kernel
theorem dX7_tallyChain_49 : decode cX7_tallyChain 49 = .ok (.aload_n 0, 1) := by decide +kernel
theorem dX7_tallyChain_50 : decode cX7_tallyChain 50 = .ok (.aload_n 1, 1) := by decide +kernel
theorem dX7_tallyChain_51 : decode cX7_tallyChain 51 = .ok (.iload 4, 2) := by decide +kernel
theorem dX7_tallyChain_53 : decode cX7_tallyChain 53 = .ok (.iload 5, 2) := by decide +kernel
theorem dX7_tallyChain_55 : decode cX7_tallyChain 55 = .ok (.iload_n 3, 1) := by decide +kernel
theorem dX7_tallyChain_56 : decode cX7_tallyChain 56 = .ok (.invokevirtual 80, 3) := by decide +kernel
theorem dX7_tallyChain_59 : decode cX7_tallyChain 59 = .ok (.iload 5, 2) := by decide +kernel
theorem dX7_tallyChain_61 : decode cX7_tallyChain 61 = .ok (.istore 4, 2) := by decide +kernel
theorem dX7_tallyChain_63 : decode cX7_tallyChain 63 = .ok (.iinc 5 1, 3) := by decide +kernel
theorem dX7_tallyChain_66 : decode cX7_tallyChain 66 = .ok (.goto (-42), 3) := by decide +kernel
theorem dX7_tallyChain_69 : decode cX7_tallyChain 69 = .ok (.aload_n 0, 1) := by decide +kernel
theorem dX7_tallyChain_70 : decode cX7_tallyChain 70 = .ok (.aload_n 1, 1) := by decide +kernel
theorem dX7_tallyChain_71 : decode cX7_tallyChain 71 = .ok (.iload 4, 2) := by decide +kernel
theorem dX7_tallyChain_73 : decode cX7_tallyChain 73 = .ok (.invokevirtual 84, 3) := by decide +kernel
theorem dX7_tallyChain_76 : decode cX7_tallyChain 76 = .ok (.iload_n 3, 1) := by decide +kernel
theorem dX7_tallyChain_77 : decode cX7_tallyChain 77 = .ok (.invokevirtual 87, 3) := by decide +kernel
theorem dX7_tallyChain_80 : decode cX7_tallyChain 80 = .ok (.return_, 1) := by decide +kernel
theorem dX7_begin_0 : decode cX7_begin 0 = .ok (.aload_n 0, 1) := by decide +kernel
theorem dX7_begin_1 : decode cX7_begin 1 = .ok (.getfield 31, 3) := by decide +kernel
theorem dX7_begin_4 : decode cX7_begin 4 = .ok (.aload_n 1, 1) := by decide +kernel
theorem dX7_begin_5 : decode cX7_begin 5 = .ok (.iload_n 2, 1) := by decide +kernel
theorem dX7_begin_6 : decode cX7_begin 6 = .ok (.invokevirtual 84, 3) := by decide +kernel
theorem dX7_begin_9 : decode cX7_begin 9 = .ok (.invokestatic 91, 3) := by decide +kernel
theorem dX7_begin_12 : decode cX7_begin 12 = .ok (.iconst 0, 1) := by decide +kernel
theorem dX7_begin_13 : decode cX7_begin 13 = .ok (.istore_n 3, 1) := by decide +kernel
theorem dX7_begin_14 : decode cX7_begin 14 = .ok (.iload_n 3, 1) := by decide +kernel
theorem dX7_begin_15 : decode cX7_begin 15 = .ok (.aload_n 1, 1) := by decide +kernel
theorem dX7_begin_16 : decode cX7_begin 16 = .ok (.iload_n 2, 1) := by decide +kernel
theorem dX7_begin_17 : decode cX7_begin 17 = .ok (.invokevirtual 84, 3) := by decide +kernel
theorem dX7_begin_20 : decode cX7_begin 20 = .ok (.if_icmp .ge 70, 3) := by decide +kernel
theorem dX7_begin_23 : decode cX7_begin 23 = .ok (.aload_n 1, 1) := by decide +kernel
theorem dX7_begin_24 : decode cX7_begin 24 = .ok (.iload_n 2, 1) := by decide +kernel
theorem dX7_begin_25 : decode cX7_begin 25 = .ok (.iload_n 3, 1) := by decide +kernel
theorem dX7_begin_26 : decode cX7_begin 26 = .ok (.invokevirtual 94, 3) := by decide +kernel
theorem dX7_begin_29 : decode cX7_begin 29 = .ok (.istore 4, 2) := by decide +kernel
theorem dX7_begin_31 : decode cX7_begin 31 = .ok (.iload_n 3, 1) := by decide +kernel
theorem dX7_begin_32 : decode cX7_begin 32 = .ok (.sipush 301, 3) := by decide +kernel
theorem dX7_begin_35 : decode cX7_begin 35 = .ok (.imul, 1) := by decide +kernel
theorem dX7_begin_36 : decode cX7_begin 36 = .ok (.iload 4, 2) := by decide +kernel
theorem dX7_begin_38 : decode cX7_begin 38 = .ok (.iadd, 1) := by decide +kernel
theorem dX7_begin_39 : decode cX7_begin 39 = .ok (.istore 5, 2) := by decide +kernel
theorem dX7_begin_41 : decode cX7_begin 41 = .ok (.aload_n 1, 1) := by decide +kernel
theorem dX7_begin_42 : decode cX7_begin 42 = .ok (.getfield 43, 3) := by decide +kernel
theorem dX7_begin_45 : decode cX7_begin 45 = .ok (.iload_n 2, 1) := by decide +kernel
theorem dX7_begin_46 : decode cX7_begin 46 = .ok (.iload_n 3, 1) := by decide +kernel
theorem dX7_begin_47 : decode cX7_begin 47 = .ok (.invokevirtual 97, 3) := by decide +kernel
theorem dX7_begin_50 : decode cX7_begin 50 = .ok (.ifCond .eq 34, 3) := by decide +kernel
theorem dX7_begin_53 : decode cX7_begin 53 = .ok (.iload 4, 2) := by decide +kernel
theorem dX7_begin_55 : decode cX7_begin 55 = .ok (.sipush 301, 3) := by decide +kernel
theorem dX7_begin_58 : decode cX7_begin 58 = .ok (.if_icmp .ge 26, 3) := by decide +kernel
theorem dX7_begin_61 : decode cX7_begin 61 = .ok (.iload 5, 2) := by decide +kernel
theorem dX7_begin_63 : decode cX7_begin 63 = .ok (.ifCond .lt 21, 3) := by decide +kernel
theorem dX7_begin_66 : decode cX7_begin 66 = .ok (.iload 5, 2) := by decide +kernel
theorem dX7_begin_68 : decode cX7_begin 68 = .ok (.aload_n 0, 1) := by decide +kernel
theorem dX7_begin_69 : decode cX7_begin 69 = .ok (.getfield 31, 3) := by decide +kernel
theorem dX7_begin_72 : decode cX7_begin 72 = .ok (.arraylength, 1) := by decide +kernel
theorem dX7_begin_73 : decode cX7_begin 73 = .ok (.if_icmp .ge 11, 3) := by decide +kernel
theorem dX7_begin_76 : decode cX7_begin 76 = .ok (.aload_n 0, 1) := by decide +kernel
theorem dX7_begin_77 : decode cX7_begin 77 = .ok (.getfield 31, 3) := by decide +kernel
theorem dX7_begin_80 : decode cX7_begin 80 = .ok (.iload 5, 2) := by decide +kernel
theorem dX7_begin_82 : decode cX7_begin 82 = .ok (.iconst 1, 1) := by decide +kernel
theorem dX7_begin_83 : decode cX7_begin 83 = .ok (.iastore, 1) := by decide +kernel
theorem dX7_begin_84 : decode cX7_begin 84 = .ok (.iinc 3 1, 3) := by decide +kernel
theorem dX7_begin_87 : decode cX7_begin 87 = .ok (.goto (-73), 3) := by decide +kernel
theorem dX7_begin_90 : decode cX7_begin 90 = .ok (.return_, 1) := by decide +kernel
theorem dX7_clearRows_0 : decode cX7_clearRows 0 = .ok (.aload_n 0, 1) := by decide +kernel
theorem dX7_clearRows_1 : decode cX7_clearRows 1 = .ok (.iconst 0, 1) := by decide +kernel
theorem dX7_clearRows_2 : decode cX7_clearRows 2 = .ok (.iconst 0, 1) := by decide +kernel
theorem dX7_clearRows_3 : decode cX7_clearRows 3 = .ok (.aload_n 0, 1) := by decide +kernel
theorem dX7_clearRows_4 : decode cX7_clearRows 4 = .ok (.arraylength, 1) := by decide +kernel
theorem dX7_clearRows_5 : decode cX7_clearRows 5 = .ok (.iload_n 1, 1) := by decide +kernel
theorem dX7_clearRows_6 : decode cX7_clearRows 6 = .ok (.sipush 301, 3) := by decide +kernel
theorem dX7_clearRows_9 : decode cX7_clearRows 9 = .ok (.imul, 1) := by decide +kernel
theorem dX7_clearRows_10 : decode cX7_clearRows 10 = .ok (.invokestatic 66, 3) := by decide +kernel
theorem dX7_clearRows_13 : decode cX7_clearRows 13 = .ok (.invokestatic 25, 3) := by decide +kernel
theorem dX7_clearRows_16 : decode cX7_clearRows 16 = .ok (.iconst 0, 1) := by decide +kernel
theorem dX7_clearRows_17 : decode cX7_clearRows 17 = .ok (.invokestatic 101, 3) := by decide +kernel
theorem dX7_clearRows_20 : decode cX7_clearRows 20 = .ok (.return_, 1) := by decide +kernel
theorem dX7_advance_0 : decode cX7_advance 0 = .ok (.aload_n 0, 1) := by decide +kernel
theorem dX7_advance_1 : decode cX7_advance 1 = .ok (.getfield 34, 3) := by decide +kernel
theorem dX7_advance_4 : decode cX7_advance 4 = .ok (.aload_n 1, 1) := by decide +kernel
theorem dX7_advance_5 : decode cX7_advance 5 = .ok (.iload_n 3, 1) := by decide +kernel
theorem dX7_advance_6 : decode cX7_advance 6 = .ok (.invokevirtual 84, 3) := by decide +kernel
theorem dX7_advance_9 : decode cX7_advance 9 = .ok (.invokestatic 91, 3) := by decide +kernel
theorem dX7_advance_12 : decode cX7_advance 12 = .ok (.iconst 0, 1) := by decide +kernel
theorem dX7_advance_13 : decode cX7_advance 13 = .ok (.istore 5, 2) := by decide +kernel
theorem dX7_advance_15 : decode cX7_advance 15 = .ok (.iload 5, 2) := by decide +kernel
theorem dX7_advance_17 : decode cX7_advance 17 = .ok (.aload_n 1, 1) := by decide +kernel
theorem dX7_advance_18 : decode cX7_advance 18 = .ok (.iload_n 2, 1) := by decide +kernel
theorem dX7_advance_19 : decode cX7_advance 19 = .ok (.invokevirtual 84, 3) := by decide +kernel
theorem dX7_advance_22 : decode cX7_advance 22 = .ok (.if_icmp .ge 135, 3) := by decide +kernel
theorem dX7_advance_25 : decode cX7_advance 25 = .ok (.aload_n 0, 1) := by decide +kernel
theorem dX7_advance_26 : decode cX7_advance 26 = .ok (.iload 5, 2) := by decide +kernel
theorem dX7_advance_28 : decode cX7_advance 28 = .ok (.iload 4, 2) := by decide +kernel
theorem dX7_advance_30 : decode cX7_advance 30 = .ok (.invokevirtual 104, 3) := by decide +kernel
theorem dX7_advance_33 : decode cX7_advance 33 = .ok (.istore 6, 2) := by decide +kernel
theorem dX7_advance_35 : decode cX7_advance 35 = .ok (.aload_n 0, 1) := by decide +kernel
theorem dX7_advance_36 : decode cX7_advance 36 = .ok (.iload 5, 2) := by decide +kernel
theorem dX7_advance_38 : decode cX7_advance 38 = .ok (.iload 4, 2) := by decide +kernel
theorem dX7_advance_40 : decode cX7_advance 40 = .ok (.invokevirtual 107, 3) := by decide +kernel
theorem dX7_advance_43 : decode cX7_advance 43 = .ok (.istore 7, 2) := by decide +kernel
theorem dX7_advance_45 : decode cX7_advance 45 = .ok (.iconst 0, 1) := by decide +kernel
theorem dX7_advance_46 : decode cX7_advance 46 = .ok (.istore 8, 2) := by decide +kernel
theorem dX7_advance_48 : decode cX7_advance 48 = .ok (.iload 6, 2) := by decide +kernel
theorem dX7_advance_50 : decode cX7_advance 50 = .ok (.iload 7, 2) := by decide +kernel
theorem dX7_advance_52 : decode cX7_advance 52 = .ok (.if_icmp .gt 99, 3) := by decide +kernel
theorem dX7_advance_55 : decode cX7_advance 55 = .ok (.iload 8, 2) := by decide +kernel
theorem dX7_advance_57 : decode cX7_advance 57 = .ok (.aload_n 1, 1) := by decide +kernel
theorem dX7_advance_58 : decode cX7_advance 58 = .ok (.iload_n 3, 1) := by decide +kernel
theorem dX7_advance_59 : decode cX7_advance 59 = .ok (.invokevirtual 84, 3) := by decide +kernel
theorem dX7_advance_62 : decode cX7_advance 62 = .ok (.if_icmp .ge 89, 3) := by decide +kernel
theorem dX7_advance_65 : decode cX7_advance 65 = .ok (.aload_n 1, 1) := by decide +kernel
theorem dX7_advance_66 : decode cX7_advance 66 = .ok (.getfield 43, 3) := by decide +kernel
theorem dX7_advance_69 : decode cX7_advance 69 = .ok (.iload_n 3, 1) := by decide +kernel
theorem dX7_advance_70 : decode cX7_advance 70 = .ok (.iload 8, 2) := by decide +kernel
theorem dX7_advance_72 : decode cX7_advance 72 = .ok (.invokevirtual 97, 3) := by decide +kernel
theorem dX7_advance_75 : decode cX7_advance 75 = .ok (.ifCond .eq 16, 3) := by decide +kernel
theorem dX7_advance_78 : decode cX7_advance 78 = .ok (.aload_n 1, 1) := by decide +kernel
theorem dX7_advance_79 : decode cX7_advance 79 = .ok (.iload_n 2, 1) := by decide +kernel
theorem dX7_advance_80 : decode cX7_advance 80 = .ok (.iload 5, 2) := by decide +kernel
theorem dX7_advance_82 : decode cX7_advance 82 = .ok (.iload_n 3, 1) := by decide +kernel
theorem dX7_advance_83 : decode cX7_advance 83 = .ok (.iload 8, 2) := by decide +kernel
theorem dX7_advance_85 : decode cX7_advance 85 = .ok (.invokevirtual 110, 3) := by decide +kernel
theorem dX7_advance_88 : decode cX7_advance 88 = .ok (.goto 5, 3) := by decide +kernel
theorem dX7_advance_91 : decode cX7_advance 91 = .ok (.bipush (-2), 2) := by decide +kernel
theorem dX7_advance_93 : decode cX7_advance 93 = .ok (.istore 9, 2) := by decide +kernel
theorem dX7_advance_95 : decode cX7_advance 95 = .ok (.iload 9, 2) := by decide +kernel
theorem dX7_advance_97 : decode cX7_advance 97 = .ok (.bipush (-2), 2) := by decide +kernel
theorem dX7_advance_99 : decode cX7_advance 99 = .ok (.if_icmp .eq 46, 3) := by decide +kernel
theorem dX7_advance_102 : decode cX7_advance 102 = .ok (.iload 9, 2) := by decide +kernel
theorem dX7_advance_104 : decode cX7_advance 104 = .ok (.aload_n 1, 1) := by decide +kernel
theorem dX7_advance_105 : decode cX7_advance 105 = .ok (.iload_n 3, 1) := by decide +kernel
theorem dX7_advance_106 : decode cX7_advance 106 = .ok (.iload 8, 2) := by decide +kernel
theorem dX7_advance_108 : decode cX7_advance 108 = .ok (.invokevirtual 94, 3) := by decide +kernel
theorem dX7_advance_111 : decode cX7_advance 111 = .ok (.iadd, 1) := by decide +kernel
theorem dX7_advance_112 : decode cX7_advance 112 = .ok (.istore 10, 2) := by decide +kernel
theorem dX7_advance_114 : decode cX7_advance 114 = .ok (.aload_n 0, 1) := by decide +kernel
theorem dX7_advance_115 : decode cX7_advance 115 = .ok (.iload 5, 2) := by decide +kernel
theorem dX7_advance_117 : decode cX7_advance 117 = .ok (.sipush 301, 3) := by decide +kernel
theorem dX7_advance_120 : decode cX7_advance 120 = .ok (.imul, 1) := by decide +kernel
theorem dX7_advance_121 : decode cX7_advance 121 = .ok (.iload 8, 2) := by decide +kernel
theorem dX7_advance_123 : decode cX7_advance 123 = .ok (.sipush 301, 3) := by decide +kernel
theorem dX7_advance_126 : decode cX7_advance 126 = .ok (.imul, 1) := by decide +kernel
theorem dX7_advance_127 : decode cX7_advance 127 = .ok (.iload 10, 2) := by decide +kernel
theorem dX7_advance_129 : decode cX7_advance 129 = .ok (.iadd, 1) := by decide +kernel
theorem dX7_advance_130 : decode cX7_advance 130 = .ok (.iload 6, 2) := by decide +kernel
theorem dX7_advance_132 : decode cX7_advance 132 = .ok (.iload 7, 2) := by decide +kernel
theorem dX7_advance_134 : decode cX7_advance 134 = .ok (.iload 4, 2) := by decide +kernel
theorem dX7_advance_136 : decode cX7_advance 136 = .ok (.iload 10, 2) := by decide +kernel
theorem dX7_advance_138 : decode cX7_advance 138 = .ok (.isub, 1) := by decide +kernel
theorem dX7_advance_139 : decode cX7_advance 139 = .ok (.invokestatic 66, 3) := by decide +kernel
theorem dX7_advance_142 : decode cX7_advance 142 = .ok (.invokevirtual 114, 3) := by decide +kernel
theorem dX7_advance_145 : decode cX7_advance 145 = .ok (.iinc 8 1, 3) := by decide +kernel
theorem dX7_advance_148 : decode cX7_advance 148 = .ok (.goto (-100), 3) := by decide +kernel
theorem dX7_advance_151 : decode cX7_advance 151 = .ok (.iinc 5 1, 3) := by decide +kernel
theorem dX7_advance_154 : decode cX7_advance 154 = .ok (.goto (-139), 3) := by decide +kernel
theorem dX7_advance_157 : decode cX7_advance 157 = .ok (.aload_n 0, 1) := by decide +kernel
theorem dX7_advance_158 : decode cX7_advance 158 = .ok (.getfield 31, 3) := by decide +kernel
theorem dX7_advance_161 : decode cX7_advance 161 = .ok (.astore 5, 2) := by decide +kernel
theorem dX7_advance_163 : decode cX7_advance 163 = .ok (.aload_n 0, 1) := by decide +kernel
theorem dX7_advance_164 : decode cX7_advance 164 = .ok (.aload_n 0, 1) := by decide +kernel
theorem dX7_advance_165 : decode cX7_advance 165 = .ok (.getfield 34, 3) := by decide +kernel
theorem dX7_advance_168 : decode cX7_advance 168 = .ok (.putfield 31, 3) := by decide +kernel
theorem dX7_advance_171 : decode cX7_advance 171 = .ok (.aload_n 0, 1) := by decide +kernel
theorem dX7_advance_172 : decode cX7_advance 172 = .ok (.aload 5, 2) := by decide +kernel
theorem dX7_advance_174 : decode cX7_advance 174 = .ok (.putfield 34, 3) := by decide +kernel
theorem dX7_advance_177 : decode cX7_advance 177 = .ok (.return_, 1) := by decide +kernel
theorem dX7_cheapestOf_0 : decode cX7_cheapestOf 0 = .ok (.iconst 0, 1) := by decide +kernel
theorem dX7_cheapestOf_1 : decode cX7_cheapestOf 1 = .ok (.istore_n 3, 1) := by decide +kernel
theorem dX7_cheapestOf_2 : decode cX7_cheapestOf 2 = .ok (.iload_n 3, 1) := by decide +kernel
theorem dX7_cheapestOf_3 : decode cX7_cheapestOf 3 = .ok (.iload_n 2, 1) := by decide +kernel
theorem dX7_cheapestOf_4 : decode cX7_cheapestOf 4 = .ok (.if_icmp .gt 45, 3) := by decide +kernel
theorem dX7_cheapestOf_7 : decode cX7_cheapestOf 7 = .ok (.iload_n 1, 1) := by decide +kernel
theorem dX7_cheapestOf_8 : decode cX7_cheapestOf 8 = .ok (.sipush 301, 3) := by decide +kernel
theorem dX7_cheapestOf_11 : decode cX7_cheapestOf 11 = .ok (.imul, 1) := by decide +kernel
theorem dX7_cheapestOf_12 : decode cX7_cheapestOf 12 = .ok (.iload_n 3, 1) := by decide +kernel
theorem dX7_cheapestOf_13 : decode cX7_cheapestOf 13 = .ok (.iadd, 1) := by decide +kernel
theorem dX7_cheapestOf_14 : decode cX7_cheapestOf 14 = .ok (.istore 4, 2) := by decide +kernel
theorem dX7_cheapestOf_16 : decode cX7_cheapestOf 16 = .ok (.iload 4, 2) := by decide +kernel
theorem dX7_cheapestOf_18 : decode cX7_cheapestOf 18 = .ok (.ifCond .lt 25, 3) := by decide +kernel
theorem dX7_cheapestOf_21 : decode cX7_cheapestOf 21 = .ok (.iload 4, 2) := by decide +kernel
theorem dX7_cheapestOf_23 : decode cX7_cheapestOf 23 = .ok (.aload_n 0, 1) := by decide +kernel
theorem dX7_cheapestOf_24 : decode cX7_cheapestOf 24 = .ok (.getfield 31, 3) := by decide +kernel
theorem dX7_cheapestOf_27 : decode cX7_cheapestOf 27 = .ok (.arraylength, 1) := by decide +kernel
theorem dX7_cheapestOf_28 : decode cX7_cheapestOf 28 = .ok (.if_icmp .ge 15, 3) := by decide +kernel
theorem dX7_cheapestOf_31 : decode cX7_cheapestOf 31 = .ok (.aload_n 0, 1) := by decide +kernel
theorem dX7_cheapestOf_32 : decode cX7_cheapestOf 32 = .ok (.getfield 31, 3) := by decide +kernel
theorem dX7_cheapestOf_35 : decode cX7_cheapestOf 35 = .ok (.iload 4, 2) := by decide +kernel
theorem dX7_cheapestOf_37 : decode cX7_cheapestOf 37 = .ok (.iaload, 1) := by decide +kernel
theorem dX7_cheapestOf_38 : decode cX7_cheapestOf 38 = .ok (.ifCond .eq 5, 3) := by decide +kernel
theorem dX7_cheapestOf_41 : decode cX7_cheapestOf 41 = .ok (.iload_n 3, 1) := by decide +kernel
theorem dX7_cheapestOf_42 : decode cX7_cheapestOf 42 = .ok (.ireturn, 1) := by decide +kernel
theorem dX7_cheapestOf_43 : decode cX7_cheapestOf 43 = .ok (.iinc 3 1, 3) := by decide +kernel
theorem dX7_cheapestOf_46 : decode cX7_cheapestOf 46 = .ok (.goto (-44), 3) := by decide +kernel
theorem dX7_cheapestOf_49 : decode cX7_cheapestOf 49 = .ok (.iload_n 2, 1) := by decide +kernel
theorem dX7_cheapestOf_50 : decode cX7_cheapestOf 50 = .ok (.iconst 1, 1) := by decide +kernel
theorem dX7_cheapestOf_51 : decode cX7_cheapestOf 51 = .ok (.iadd, 1) := by decide +kernel
theorem dX7_cheapestOf_52 : decode cX7_cheapestOf 52 = .ok (.ireturn, 1) := by decide +kernel
theorem dX7_dearestOf_0 : decode cX7_dearestOf 0 = .ok (.iload_n 2, 1) := by decide +kernel
theorem dX7_dearestOf_1 : decode cX7_dearestOf 1 = .ok (.istore_n 3, 1) := by decide +kernel
theorem dX7_dearestOf_2 : decode cX7_dearestOf 2 = .ok (.iload_n 3, 1) := by decide +kernel
theorem dX7_dearestOf_3 : decode cX7_dearestOf 3 = .ok (.ifCond .lt 45, 3) := by decide +kernel
theorem dX7_dearestOf_6 : decode cX7_dearestOf 6 = .ok (.iload_n 1, 1) := by decide +kernel
theorem dX7_dearestOf_7 : decode cX7_dearestOf 7 = .ok (.sipush 301, 3) := by decide +kernel
theorem dX7_dearestOf_10 : decode cX7_dearestOf 10 = .ok (.imul, 1) := by decide +kernel
theorem dX7_dearestOf_11 : decode cX7_dearestOf 11 = .ok (.iload_n 3, 1) := by decide +kernel
theorem dX7_dearestOf_12 : decode cX7_dearestOf 12 = .ok (.iadd, 1) := by decide +kernel
theorem dX7_dearestOf_13 : decode cX7_dearestOf 13 = .ok (.istore 4, 2) := by decide +kernel
theorem dX7_dearestOf_15 : decode cX7_dearestOf 15 = .ok (.iload 4, 2) := by decide +kernel
theorem dX7_dearestOf_17 : decode cX7_dearestOf 17 = .ok (.ifCond .lt 25, 3) := by decide +kernel
theorem dX7_dearestOf_20 : decode cX7_dearestOf 20 = .ok (.iload 4, 2) := by decide +kernel
theorem dX7_dearestOf_22 : decode cX7_dearestOf 22 = .ok (.aload_n 0, 1) := by decide +kernel
theorem dX7_dearestOf_23 : decode cX7_dearestOf 23 = .ok (.getfield 31, 3) := by decide +kernel
theorem dX7_dearestOf_26 : decode cX7_dearestOf 26 = .ok (.arraylength, 1) := by decide +kernel
theorem dX7_dearestOf_27 : decode cX7_dearestOf 27 = .ok (.if_icmp .ge 15, 3) := by decide +kernel
theorem dX7_dearestOf_30 : decode cX7_dearestOf 30 = .ok (.aload_n 0, 1) := by decide +kernel
theorem dX7_dearestOf_31 : decode cX7_dearestOf 31 = .ok (.getfield 31, 3) := by decide +kernel
theorem dX7_dearestOf_34 : decode cX7_dearestOf 34 = .ok (.iload 4, 2) := by decide +kernel
theorem dX7_dearestOf_36 : decode cX7_dearestOf 36 = .ok (.iaload, 1) := by decide +kernel
theorem dX7_dearestOf_37 : decode cX7_dearestOf 37 = .ok (.ifCond .eq 5, 3) := by decide +kernel
theorem dX7_dearestOf_40 : decode cX7_dearestOf 40 = .ok (.iload_n 3, 1) := by decide +kernel
theorem dX7_dearestOf_41 : decode cX7_dearestOf 41 = .ok (.ireturn, 1) := by decide +kernel
theorem dX7_dearestOf_42 : decode cX7_dearestOf 42 = .ok (.iinc 3 (-1), 3) := by decide +kernel
theorem dX7_dearestOf_45 : decode cX7_dearestOf 45 = .ok (.goto (-43), 3) := by decide +kernel
theorem dX7_dearestOf_48 : decode cX7_dearestOf 48 = .ok (.iconst (-1), 1) := by decide +kernel
theorem dX7_dearestOf_49 : decode cX7_dearestOf 49 = .ok (.ireturn, 1) := by decide +kernel
theorem dX7_carry_0 : decode cX7_carry 0 = .ok (.iload_n 1, 1) := by decide +kernel
theorem dX7_carry_1 : decode cX7_carry 1 = .ok (.ifCond .lt 35, 3) := by decide +kernel
theorem dX7_carry_4 : decode cX7_carry 4 = .ok (.iload_n 2, 1) := by decide +kernel
theorem dX7_carry_5 : decode cX7_carry 5 = .ok (.ifCond .lt 31, 3) := by decide +kernel
theorem dX7_carry_8 : decode cX7_carry 8 = .ok (.iload_n 3, 1) := by decide +kernel
theorem dX7_carry_9 : decode cX7_carry 9 = .ok (.ifCond .lt 27, 3) := by decide +kernel
theorem dX7_carry_12 : decode cX7_carry 12 = .ok (.iload 4, 2) := by decide +kernel
theorem dX7_carry_14 : decode cX7_carry 14 = .ok (.aload_n 0, 1) := by decide +kernel
theorem dX7_carry_15 : decode cX7_carry 15 = .ok (.getfield 31, 3) := by decide +kernel
theorem dX7_carry_18 : decode cX7_carry 18 = .ok (.arraylength, 1) := by decide +kernel
theorem dX7_carry_19 : decode cX7_carry 19 = .ok (.iload_n 1, 1) := by decide +kernel
theorem dX7_carry_20 : decode cX7_carry 20 = .ok (.isub, 1) := by decide +kernel
theorem dX7_carry_21 : decode cX7_carry 21 = .ok (.if_icmp .ge 15, 3) := by decide +kernel
theorem dX7_carry_24 : decode cX7_carry 24 = .ok (.iload 4, 2) := by decide +kernel
theorem dX7_carry_26 : decode cX7_carry 26 = .ok (.aload_n 0, 1) := by decide +kernel
theorem dX7_carry_27 : decode cX7_carry 27 = .ok (.getfield 34, 3) := by decide +kernel
theorem dX7_carry_30 : decode cX7_carry 30 = .ok (.arraylength, 1) := by decide +kernel
theorem dX7_carry_31 : decode cX7_carry 31 = .ok (.iload_n 2, 1) := by decide +kernel
theorem dX7_carry_32 : decode cX7_carry 32 = .ok (.isub, 1) := by decide +kernel
theorem dX7_carry_33 : decode cX7_carry 33 = .ok (.if_icmp .lt 4, 3) := by decide +kernel
theorem dX7_carry_36 : decode cX7_carry 36 = .ok (.return_, 1) := by decide +kernel
theorem dX7_carry_37 : decode cX7_carry 37 = .ok (.iload_n 3, 1) := by decide +kernel
theorem dX7_carry_38 : decode cX7_carry 38 = .ok (.istore 5, 2) := by decide +kernel
theorem dX7_carry_40 : decode cX7_carry 40 = .ok (.iload 5, 2) := by decide +kernel
theorem dX7_carry_42 : decode cX7_carry 42 = .ok (.iload 4, 2) := by decide +kernel
theorem dX7_carry_44 : decode cX7_carry 44 = .ok (.if_icmp .gt 39, 3) := by decide +kernel
theorem dX7_carry_47 : decode cX7_carry 47 = .ok (.aload_n 0, 1) := by decide +kernel
theorem dX7_carry_48 : decode cX7_carry 48 = .ok (.getfield 34, 3) := by decide +kernel
theorem dX7_carry_51 : decode cX7_carry 51 = .ok (.iload_n 2, 1) := by decide +kernel
theorem dX7_carry_52 : decode cX7_carry 52 = .ok (.iload 5, 2) := by decide +kernel
theorem dX7_carry_54 : decode cX7_carry 54 = .ok (.iadd, 1) := by decide +kernel
theorem dX7_carry_55 : decode cX7_carry 55 = .ok (.aload_n 0, 1) := by decide +kernel
theorem dX7_carry_56 : decode cX7_carry 56 = .ok (.getfield 34, 3) := by decide +kernel
theorem dX7_carry_59 : decode cX7_carry 59 = .ok (.iload_n 2, 1) := by decide +kernel
theorem dX7_carry_60 : decode cX7_carry 60 = .ok (.iload 5, 2) := by decide +kernel
theorem dX7_carry_62 : decode cX7_carry 62 = .ok (.iadd, 1) := by decide +kernel
theorem dX7_carry_63 : decode cX7_carry 63 = .ok (.iaload, 1) := by decide +kernel
theorem dX7_carry_64 : decode cX7_carry 64 = .ok (.aload_n 0, 1) := by decide +kernel
theorem dX7_carry_65 : decode cX7_carry 65 = .ok (.getfield 31, 3) := by decide +kernel
theorem dX7_carry_68 : decode cX7_carry 68 = .ok (.iload_n 1, 1) := by decide +kernel
theorem dX7_carry_69 : decode cX7_carry 69 = .ok (.iload 5, 2) := by decide +kernel
theorem dX7_carry_71 : decode cX7_carry 71 = .ok (.iadd, 1) := by decide +kernel
theorem dX7_carry_72 : decode cX7_carry 72 = .ok (.iaload, 1) := by decide +kernel
theorem dX7_carry_73 : decode cX7_carry 73 = .ok (.invokestatic 62, 3) := by decide +kernel
theorem dX7_carry_76 : decode cX7_carry 76 = .ok (.iastore, 1) := by decide +kernel
theorem dX7_carry_77 : decode cX7_carry 77 = .ok (.iinc 5 1, 3) := by decide +kernel
theorem dX7_carry_80 : decode cX7_carry 80 = .ok (.goto (-40), 3) := by decide +kernel
theorem dX7_carry_83 : decode cX7_carry 83 = .ok (.return_, 1) := by decide +kernel
theorem dX7_gather_0 : decode cX7_gather 0 = .ok (.aload_n 0, 1) := by decide +kernel
theorem dX7_gather_1 : decode cX7_gather 1 = .ok (.getfield 18, 3) := by decide +kernel
theorem dX7_gather_4 : decode cX7_gather 4 = .ok (.iconst 0, 1) := by decide +kernel
theorem dX7_gather_5 : decode cX7_gather 5 = .ok (.invokestatic 37, 3) := by decide +kernel
theorem dX7_gather_8 : decode cX7_gather 8 = .ok (.iconst 0, 1) := by decide +kernel
theorem dX7_gather_9 : decode cX7_gather 9 = .ok (.istore_n 3, 1) := by decide +kernel
theorem dX7_gather_10 : decode cX7_gather 10 = .ok (.iload_n 3, 1) := by decide +kernel
theorem dX7_gather_11 : decode cX7_gather 11 = .ok (.iload_n 1, 1) := by decide +kernel
theorem dX7_gather_12 : decode cX7_gather 12 = .ok (.if_icmp .ge 81, 3) := by decide +kernel
theorem dX7_gather_15 : decode cX7_gather 15 = .ok (.iconst 0, 1) := by decide +kernel
theorem dX7_gather_16 : decode cX7_gather 16 = .ok (.istore 4, 2) := by decide +kernel
theorem dX7_gather_18 : decode cX7_gather 18 = .ok (.iload 4, 2) := by decide +kernel
theorem dX7_gather_20 : decode cX7_gather 20 = .ok (.iload_n 2, 1) := by decide +kernel
theorem dX7_gather_21 : decode cX7_gather 21 = .ok (.if_icmp .gt 66, 3) := by decide +kernel
theorem dX7_gather_24 : decode cX7_gather 24 = .ok (.iload 4, 2) := by decide +kernel
theorem dX7_gather_26 : decode cX7_gather 26 = .ok (.sipush 301, 3) := by decide +kernel
theorem dX7_gather_29 : decode cX7_gather 29 = .ok (.if_icmp .ge 58, 3) := by decide +kernel
theorem dX7_gather_32 : decode cX7_gather 32 = .ok (.iload_n 3, 1) := by decide +kernel
theorem dX7_gather_33 : decode cX7_gather 33 = .ok (.sipush 301, 3) := by decide +kernel
theorem dX7_gather_36 : decode cX7_gather 36 = .ok (.imul, 1) := by decide +kernel
theorem dX7_gather_37 : decode cX7_gather 37 = .ok (.iload 4, 2) := by decide +kernel
theorem dX7_gather_39 : decode cX7_gather 39 = .ok (.iadd, 1) := by decide +kernel
theorem dX7_gather_40 : decode cX7_gather 40 = .ok (.istore 5, 2) := by decide +kernel
theorem dX7_gather_42 : decode cX7_gather 42 = .ok (.iload 5, 2) := by decide +kernel
theorem dX7_gather_44 : decode cX7_gather 44 = .ok (.ifCond .lt 37, 3) := by decide +kernel
theorem dX7_gather_47 : decode cX7_gather 47 = .ok (.iload 5, 2) := by decide +kernel
theorem dX7_gather_49 : decode cX7_gather 49 = .ok (.aload_n 0, 1) := by decide +kernel
theorem dX7_gather_50 : decode cX7_gather 50 = .ok (.getfield 31, 3) := by decide +kernel
theorem dX7_gather_53 : decode cX7_gather 53 = .ok (.arraylength, 1) := by decide +kernel
theorem dX7_gather_54 : decode cX7_gather 54 = .ok (.if_icmp .ge 27, 3) := by decide +kernel
theorem dX7_gather_57 : decode cX7_gather 57 = .ok (.aload_n 0, 1) := by decide +kernel
theorem dX7_gather_58 : decode cX7_gather 58 = .ok (.getfield 18, 3) := by decide +kernel
theorem dX7_gather_61 : decode cX7_gather 61 = .ok (.iload 4, 2) := by decide +kernel
theorem dX7_gather_63 : decode cX7_gather 63 = .ok (.aload_n 0, 1) := by decide +kernel
theorem dX7_gather_64 : decode cX7_gather 64 = .ok (.getfield 18, 3) := by decide +kernel
theorem dX7_gather_67 : decode cX7_gather 67 = .ok (.iload 4, 2) := by decide +kernel
theorem dX7_gather_69 : decode cX7_gather 69 = .ok (.iaload, 1) := by decide +kernel
theorem dX7_gather_70 : decode cX7_gather 70 = .ok (.aload_n 0, 1) := by decide +kernel
theorem dX7_gather_71 : decode cX7_gather 71 = .ok (.getfield 31, 3) := by decide +kernel
theorem dX7_gather_74 : decode cX7_gather 74 = .ok (.iload 5, 2) := by decide +kernel
theorem dX7_gather_76 : decode cX7_gather 76 = .ok (.iaload, 1) := by decide +kernel
theorem dX7_gather_77 : decode cX7_gather 77 = .ok (.invokestatic 62, 3) := by decide +kernel
theorem dX7_gather_80 : decode cX7_gather 80 = .ok (.iastore, 1) := by decide +kernel
theorem dX7_gather_81 : decode cX7_gather 81 = .ok (.iinc 4 1, 3) := by decide +kernel
theorem dX7_gather_84 : decode cX7_gather 84 = .ok (.goto (-66), 3) := by decide +kernel
theorem dX7_gather_87 : decode cX7_gather 87 = .ok (.iinc 3 1, 3) := by decide +kernel
theorem dX7_gather_90 : decode cX7_gather 90 = .ok (.goto (-80), 3) := by decide +kernel
theorem dX7_gather_93 : decode cX7_gather 93 = .ok (.return_, 1) := by decide +kernel
theorem dX7_join_0 : decode cX7_join 0 = .ok (.aload_n 0, 1) := by decide +kernel
theorem dX7_join_1 : decode cX7_join 1 = .ok (.getfield 15, 3) := by decide +kernel
theorem dX7_join_4 : decode cX7_join 4 = .ok (.iconst 0, 1) := by decide +kernel
theorem dX7_join_5 : decode cX7_join 5 = .ok (.invokestatic 37, 3) := by decide +kernel
theorem dX7_join_8 : decode cX7_join 8 = .ok (.iconst 0, 1) := by decide +kernel
theorem dX7_join_9 : decode cX7_join 9 = .ok (.istore_n 2, 1) := by decide +kernel
theorem dX7_join_10 : decode cX7_join 10 = .ok (.iload_n 2, 1) := by decide +kernel
theorem dX7_join_11 : decode cX7_join 11 = .ok (.iload_n 1, 1) := by decide +kernel
theorem dX7_join_12 : decode cX7_join 12 = .ok (.if_icmp .gt 94, 3) := by decide +kernel
theorem dX7_join_15 : decode cX7_join 15 = .ok (.iload_n 2, 1) := by decide +kernel
theorem dX7_join_16 : decode cX7_join 16 = .ok (.sipush 301, 3) := by decide +kernel
theorem dX7_join_19 : decode cX7_join 19 = .ok (.if_icmp .ge 87, 3) := by decide +kernel
theorem dX7_join_22 : decode cX7_join 22 = .ok (.iconst 0, 1) := by decide +kernel
theorem dX7_join_23 : decode cX7_join 23 = .ok (.istore_n 3, 1) := by decide +kernel
theorem dX7_join_24 : decode cX7_join 24 = .ok (.aload_n 0, 1) := by decide +kernel
theorem dX7_join_25 : decode cX7_join 25 = .ok (.getfield 11, 3) := by decide +kernel
theorem dX7_join_28 : decode cX7_join 28 = .ok (.iload_n 2, 1) := by decide +kernel
theorem dX7_join_29 : decode cX7_join 29 = .ok (.iaload, 1) := by decide +kernel
theorem dX7_join_30 : decode cX7_join 30 = .ok (.ifCond .eq 70, 3) := by decide +kernel
theorem dX7_join_33 : decode cX7_join 33 = .ok (.iload_n 2, 1) := by decide +kernel
theorem dX7_join_34 : decode cX7_join 34 = .ok (.iload_n 3, 1) := by decide +kernel
theorem dX7_join_35 : decode cX7_join 35 = .ok (.iadd, 1) := by decide +kernel
theorem dX7_join_36 : decode cX7_join 36 = .ok (.iload_n 1, 1) := by decide +kernel
theorem dX7_join_37 : decode cX7_join 37 = .ok (.if_icmp .gt 63, 3) := by decide +kernel
theorem dX7_join_40 : decode cX7_join 40 = .ok (.iload_n 2, 1) := by decide +kernel
theorem dX7_join_41 : decode cX7_join 41 = .ok (.iload_n 3, 1) := by decide +kernel
theorem dX7_join_42 : decode cX7_join 42 = .ok (.iadd, 1) := by decide +kernel
theorem dX7_join_43 : decode cX7_join 43 = .ok (.sipush 301, 3) := by decide +kernel
theorem dX7_join_46 : decode cX7_join 46 = .ok (.if_icmp .ge 54, 3) := by decide +kernel
theorem dX7_join_49 : decode cX7_join 49 = .ok (.aload_n 0, 1) := by decide +kernel
theorem dX7_join_50 : decode cX7_join 50 = .ok (.getfield 11, 3) := by decide +kernel
theorem dX7_join_53 : decode cX7_join 53 = .ok (.iload_n 2, 1) := by decide +kernel
theorem dX7_join_54 : decode cX7_join 54 = .ok (.iaload, 1) := by decide +kernel
theorem dX7_join_55 : decode cX7_join 55 = .ok (.i2l, 1) := by decide +kernel
theorem dX7_join_56 : decode cX7_join 56 = .ok (.aload_n 0, 1) := by decide +kernel
theorem dX7_join_57 : decode cX7_join 57 = .ok (.getfield 18, 3) := by decide +kernel
theorem dX7_join_60 : decode cX7_join 60 = .ok (.iload_n 3, 1) := by decide +kernel
theorem dX7_join_61 : decode cX7_join 61 = .ok (.iaload, 1) := by decide +kernel
theorem dX7_join_62 : decode cX7_join 62 = .ok (.i2l, 1) := by decide +kernel
theorem dX7_join_63 : decode cX7_join 63 = .ok (.lmul, 1) := by decide +kernel
theorem dX7_join_64 : decode cX7_join 64 = .ok (.lstore 4, 2) := by decide +kernel
theorem dX7_join_66 : decode cX7_join 66 = .ok (.aload_n 0, 1) := by decide +kernel
theorem dX7_join_67 : decode cX7_join 67 = .ok (.getfield 15, 3) := by decide +kernel
theorem dX7_join_70 : decode cX7_join 70 = .ok (.iload_n 2, 1) := by decide +kernel
theorem dX7_join_71 : decode cX7_join 71 = .ok (.iload_n 3, 1) := by decide +kernel
theorem dX7_join_72 : decode cX7_join 72 = .ok (.iadd, 1) := by decide +kernel
theorem dX7_join_73 : decode cX7_join 73 = .ok (.aload_n 0, 1) := by decide +kernel
theorem dX7_join_74 : decode cX7_join 74 = .ok (.getfield 15, 3) := by decide +kernel
theorem dX7_join_77 : decode cX7_join 77 = .ok (.iload_n 2, 1) := by decide +kernel
theorem dX7_join_78 : decode cX7_join 78 = .ok (.iload_n 3, 1) := by decide +kernel
theorem dX7_join_79 : decode cX7_join 79 = .ok (.iadd, 1) := by decide +kernel
theorem dX7_join_80 : decode cX7_join 80 = .ok (.iaload, 1) := by decide +kernel
theorem dX7_join_81 : decode cX7_join 81 = .ok (.ldc2_w 118, 3) := by decide +kernel
theorem dX7_join_84 : decode cX7_join 84 = .ok (.lload 4, 2) := by decide +kernel
theorem dX7_join_86 : decode cX7_join 86 = .ok (.invokestatic 120, 3) := by decide +kernel
theorem dX7_join_89 : decode cX7_join 89 = .ok (.l2i, 1) := by decide +kernel
theorem dX7_join_90 : decode cX7_join 90 = .ok (.invokestatic 62, 3) := by decide +kernel
theorem dX7_join_93 : decode cX7_join 93 = .ok (.iastore, 1) := by decide +kernel
theorem dX7_join_94 : decode cX7_join 94 = .ok (.iinc 3 1, 3) := by decide +kernel
theorem dX7_join_97 : decode cX7_join 97 = .ok (.goto (-73), 3) := by decide +kernel
theorem dX7_join_100 : decode cX7_join 100 = .ok (.iinc 2 1, 3) := by decide +kernel
theorem dX7_join_103 : decode cX7_join 103 = .ok (.goto (-93), 3) := by decide +kernel
theorem dX7_join_106 : decode cX7_join 106 = .ok (.aload_n 0, 1) := by decide +kernel
theorem dX7_join_107 : decode cX7_join 107 = .ok (.getfield 11, 3) := by decide +kernel
theorem dX7_join_110 : decode cX7_join 110 = .ok (.astore_n 2, 1) := by decide +kernel
theorem dX7_join_111 : decode cX7_join 111 = .ok (.aload_n 0, 1) := by decide +kernel
theorem dX7_join_112 : decode cX7_join 112 = .ok (.aload_n 0, 1) := by decide +kernel
theorem dX7_join_113 : decode cX7_join 113 = .ok (.getfield 15, 3) := by decide +kernel
theorem dX7_join_116 : decode cX7_join 116 = .ok (.putfield 11, 3) := by decide +kernel
theorem dX7_join_119 : decode cX7_join 119 = .ok (.aload_n 0, 1) := by decide +kernel
theorem dX7_join_120 : decode cX7_join 120 = .ok (.aload_n 2, 1) := by decide +kernel
theorem dX7_join_121 : decode cX7_join 121 = .ok (.putfield 15, 3) := by decide +kernel
theorem dX7_join_124 : decode cX7_join 124 = .ok (.return_, 1) := by decide +kernel
theorem dX8_init_0 : decode cX8_init 0 = .ok (.aload_n 0, 1) := by decide +kernel
theorem dX8_init_1 : decode cX8_init 1 = .ok (.bipush 40, 2) := by decide +kernel
theorem dX8_init_3 : decode cX8_init 3 = .ok (.invokespecial 3, 3) := by decide +kernel
theorem dX8_init_6 : decode cX8_init 6 = .ok (.return_, 1) := by decide +kernel
theorem dX8_listOne_0 : decode cX8_listOne 0 = .ok (.aload_n 0, 1) := by decide +kernel
theorem dX8_listOne_1 : decode cX8_listOne 1 = .ok (.iload_n 1, 1) := by decide +kernel
theorem dX8_listOne_2 : decode cX8_listOne 2 = .ok (.invokevirtual 9, 3) := by decide +kernel
theorem dX8_listOne_5 : decode cX8_listOne 5 = .ok (.istore_n 2, 1) := by decide +kernel
theorem dX8_listOne_6 : decode cX8_listOne 6 = .ok (.iload_n 2, 1) := by decide +kernel
theorem dX8_listOne_7 : decode cX8_listOne 7 = .ok (.iload_n 1, 1) := by decide +kernel
theorem dX8_listOne_8 : decode cX8_listOne 8 = .ok (.if_icmp .gt 17, 3) := by decide +kernel
theorem dX8_listOne_11 : decode cX8_listOne 11 = .ok (.aload_n 0, 1) := by decide +kernel
theorem dX8_listOne_12 : decode cX8_listOne 12 = .ok (.iload_n 1, 1) := by decide +kernel
theorem dX8_listOne_13 : decode cX8_listOne 13 = .ok (.iconst 0, 1) := by decide +kernel
theorem dX8_listOne_14 : decode cX8_listOne 14 = .ok (.iload_n 2, 1) := by decide +kernel
theorem dX8_listOne_15 : decode cX8_listOne 15 = .ok (.iconst 0, 1) := by decide +kernel
theorem dX8_listOne_16 : decode cX8_listOne 16 = .ok (.invokevirtual 15, 3) := by decide +kernel
theorem dX8_listOne_19 : decode cX8_listOne 19 = .ok (.iinc 2 1, 3) := by decide +kernel
theorem dX8_listOne_22 : decode cX8_listOne 22 = .ok (.goto (-16), 3) := by decide +kernel
theorem dX8_listOne_25 : decode cX8_listOne 25 = .ok (.return_, 1) := by decide +kernel
theorem dX8_earliestBreath_0 : decode cX8_earliestBreath 0 = .ok (.iload_n 1, 1) := by decide +kernel
theorem dX8_earliestBreath_1 : decode cX8_earliestBreath 1 = .ok (.iconst 1, 1) := by decide +kernel
theorem dX8_earliestBreath_2 : decode cX8_earliestBreath 2 = .ok (.iadd, 1) := by decide +kernel
theorem dX8_earliestBreath_3 : decode cX8_earliestBreath 3 = .ok (.istore_n 2, 1) := by decide +kernel
theorem dX8_earliestBreath_4 : decode cX8_earliestBreath 4 = .ok (.aload_n 0, 1) := by decide +kernel
theorem dX8_earliestBreath_5 : decode cX8_earliestBreath 5 = .ok (.getfield 19, 3) := by decide +kernel
theorem dX8_earliestBreath_8 : decode cX8_earliestBreath 8 = .ok (.iconst 1, 1) := by decide +kernel
theorem dX8_earliestBreath_9 : decode cX8_earliestBreath 9 = .ok (.invokevirtual 23, 3) := by decide +kernel
theorem dX8_earliestBreath_12 : decode cX8_earliestBreath 12 = .ok (.istore_n 3, 1) := by decide +kernel
theorem dX8_earliestBreath_13 : decode cX8_earliestBreath 13 = .ok (.iload_n 1, 1) := by decide +kernel
theorem dX8_earliestBreath_14 : decode cX8_earliestBreath 14 = .ok (.istore 4, 2) := by decide +kernel
theorem dX8_earliestBreath_16 : decode cX8_earliestBreath 16 = .ok (.iload 4, 2) := by decide +kernel
theorem dX8_earliestBreath_18 : decode cX8_earliestBreath 18 = .ok (.ifCond .lt 30, 3) := by decide +kernel
theorem dX8_earliestBreath_21 : decode cX8_earliestBreath 21 = .ok (.iload_n 3, 1) := by decide +kernel
theorem dX8_earliestBreath_22 : decode cX8_earliestBreath 22 = .ok (.aload_n 0, 1) := by decide +kernel
theorem dX8_earliestBreath_23 : decode cX8_earliestBreath 23 = .ok (.getfield 19, 3) := by decide +kernel
theorem dX8_earliestBreath_26 : decode cX8_earliestBreath 26 = .ok (.iload 4, 2) := by decide +kernel
theorem dX8_earliestBreath_28 : decode cX8_earliestBreath 28 = .ok (.invokevirtual 28, 3) := by decide +kernel
theorem dX8_earliestBreath_31 : decode cX8_earliestBreath 31 = .ok (.isub, 1) := by decide +kernel
theorem dX8_earliestBreath_32 : decode cX8_earliestBreath 32 = .ok (.istore_n 3, 1) := by decide +kernel
theorem dX8_earliestBreath_33 : decode cX8_earliestBreath 33 = .ok (.iload_n 3, 1) := by decide +kernel
theorem dX8_earliestBreath_34 : decode cX8_earliestBreath 34 = .ok (.ifCond .ge 5, 3) := by decide +kernel
theorem dX8_earliestBreath_37 : decode cX8_earliestBreath 37 = .ok (.iload_n 2, 1) := by decide +kernel
theorem dX8_earliestBreath_38 : decode cX8_earliestBreath 38 = .ok (.ireturn, 1) := by decide +kernel
theorem dX8_earliestBreath_39 : decode cX8_earliestBreath 39 = .ok (.iload 4, 2) := by decide +kernel
theorem dX8_earliestBreath_41 : decode cX8_earliestBreath 41 = .ok (.istore_n 2, 1) := by decide +kernel
theorem dX8_earliestBreath_42 : decode cX8_earliestBreath 42 = .ok (.iinc 4 (-1), 3) := by decide +kernel
theorem dX8_earliestBreath_45 : decode cX8_earliestBreath 45 = .ok (.goto (-29), 3) := by decide +kernel
theorem dX8_earliestBreath_48 : decode cX8_earliestBreath 48 = .ok (.iload_n 2, 1) := by decide +kernel
theorem dX8_earliestBreath_49 : decode cX8_earliestBreath 49 = .ok (.ireturn, 1) := by decide +kernel
theorem dX8_stepPrice_0 : decode cX8_stepPrice 0 = .ok (.aload_n 0, 1) := by decide +kernel
theorem dX8_stepPrice_1 : decode cX8_stepPrice 1 = .ok (.iload_n 1, 1) := by decide +kernel
theorem dX8_stepPrice_2 : decode cX8_stepPrice 2 = .ok (.iload_n 2, 1) := by decide +kernel
theorem dX8_stepPrice_3 : decode cX8_stepPrice 3 = .ok (.invokevirtual 31, 3) := by decide +kernel
theorem dX8_stepPrice_6 : decode cX8_stepPrice 6 = .ok (.aload_n 0, 1) := by decide +kernel
theorem dX8_stepPrice_7 : decode cX8_stepPrice 7 = .ok (.iload_n 3, 1) := by decide +kernel
theorem dX8_stepPrice_8 : decode cX8_stepPrice 8 = .ok (.iload 4, 2) := by decide +kernel
theorem dX8_stepPrice_10 : decode cX8_stepPrice 10 = .ok (.invokevirtual 31, 3) := by decide +kernel
theorem dX8_stepPrice_13 : decode cX8_stepPrice 13 = .ok (.if_icmp .ne 5, 3) := by decide +kernel
theorem dX8_stepPrice_16 : decode cX8_stepPrice 16 = .ok (.iconst 0, 1) := by decide +kernel
theorem dX8_stepPrice_17 : decode cX8_stepPrice 17 = .ok (.ireturn, 1) := by decide +kernel
theorem dX8_stepPrice_18 : decode cX8_stepPrice 18 = .ok (.aload_n 0, 1) := by decide +kernel
theorem dX8_stepPrice_19 : decode cX8_stepPrice 19 = .ok (.iload_n 3, 1) := by decide +kernel
theorem dX8_stepPrice_20 : decode cX8_stepPrice 20 = .ok (.iload 4, 2) := by decide +kernel
theorem dX8_stepPrice_22 : decode cX8_stepPrice 22 = .ok (.invokevirtual 31, 3) := by decide +kernel
theorem dX8_stepPrice_25 : decode cX8_stepPrice 25 = .ok (.iload_n 3, 1) := by decide +kernel
theorem dX8_stepPrice_26 : decode cX8_stepPrice 26 = .ok (.if_icmp .ne 12, 3) := by decide +kernel
theorem dX8_stepPrice_29 : decode cX8_stepPrice 29 = .ok (.aload_n 0, 1) := by decide +kernel
theorem dX8_stepPrice_30 : decode cX8_stepPrice 30 = .ok (.iload_n 1, 1) := by decide +kernel
theorem dX8_stepPrice_31 : decode cX8_stepPrice 31 = .ok (.iload_n 3, 1) := by decide +kernel
theorem dX8_stepPrice_32 : decode cX8_stepPrice 32 = .ok (.invokevirtual 35, 3) := by decide +kernel
theorem dX8_stepPrice_35 : decode cX8_stepPrice 35 = .ok (.goto 5, 3) := by decide +kernel
theorem dX8_stepPrice_38 : decode cX8_stepPrice 38 = .ok (.bipush (-2), 2) := by decide +kernel
theorem dX8_stepPrice_40 : decode cX8_stepPrice 40 = .ok (.ireturn, 1) := by decide +kernel
theorem dX8_breathPrice_0 : decode cX8_breathPrice 0 = .ok (.aload_n 0, 1) := by decide +kernel
theorem dX8_breathPrice_1 : decode cX8_breathPrice 1 = .ok (.getfield 19, 3) := by decide +kernel
theorem dX8_breathPrice_4 : decode cX8_breathPrice 4 = .ok (.iload_n 2, 1) := by decide +kernel
theorem dX8_breathPrice_5 : decode cX8_breathPrice 5 = .ok (.invokevirtual 38, 3) := by decide +kernel
theorem dX8_breathPrice_8 : decode cX8_breathPrice 8 = .ok (.aload_n 0, 1) := by decide +kernel
theorem dX8_breathPrice_9 : decode cX8_breathPrice 9 = .ok (.getfield 19, 3) := by decide +kernel
theorem dX8_breathPrice_12 : decode cX8_breathPrice 12 = .ok (.iload_n 1, 1) := by decide +kernel
theorem dX8_breathPrice_13 : decode cX8_breathPrice 13 = .ok (.invokevirtual 38, 3) := by decide +kernel
theorem dX8_breathPrice_16 : decode cX8_breathPrice 16 = .ok (.isub, 1) := by decide +kernel
theorem dX8_breathPrice_17 : decode cX8_breathPrice 17 = .ok (.aload_n 0, 1) := by decide +kernel
theorem dX8_breathPrice_18 : decode cX8_breathPrice 18 = .ok (.getfield 19, 3) := by decide +kernel
theorem dX8_breathPrice_21 : decode cX8_breathPrice 21 = .ok (.iload_n 1, 1) := by decide +kernel
theorem dX8_breathPrice_22 : decode cX8_breathPrice 22 = .ok (.invokevirtual 28, 3) := by decide +kernel
theorem dX8_breathPrice_25 : decode cX8_breathPrice 25 = .ok (.isub, 1) := by decide +kernel
theorem dX8_breathPrice_26 : decode cX8_breathPrice 26 = .ok (.istore_n 3, 1) := by decide +kernel
theorem dX8_breathPrice_27 : decode cX8_breathPrice 27 = .ok (.aload_n 0, 1) := by decide +kernel
theorem dX8_breathPrice_28 : decode cX8_breathPrice 28 = .ok (.getfield 19, 3) := by decide +kernel
theorem dX8_breathPrice_31 : decode cX8_breathPrice 31 = .ok (.iconst 2, 1) := by decide +kernel
theorem dX8_breathPrice_32 : decode cX8_breathPrice 32 = .ok (.invokevirtual 23, 3) := by decide +kernel
theorem dX8_breathPrice_35 : decode cX8_breathPrice 35 = .ok (.iload_n 3, 1) := by decide +kernel
theorem dX8_breathPrice_36 : decode cX8_breathPrice 36 = .ok (.isub, 1) := by decide +kernel
theorem dX8_breathPrice_37 : decode cX8_breathPrice 37 = .ok (.istore 4, 2) := by decide +kernel
theorem dX8_breathPrice_39 : decode cX8_breathPrice 39 = .ok (.iload 4, 2) := by decide +kernel
theorem dX8_breathPrice_41 : decode cX8_breathPrice 41 = .ok (.aload_n 0, 1) := by decide +kernel
theorem dX8_breathPrice_42 : decode cX8_breathPrice 42 = .ok (.getfield 19, 3) := by decide +kernel
theorem dX8_breathPrice_45 : decode cX8_breathPrice 45 = .ok (.iload_n 1, 1) := by decide +kernel
theorem dX8_breathPrice_46 : decode cX8_breathPrice 46 = .ok (.invokevirtual 28, 3) := by decide +kernel
theorem dX8_breathPrice_49 : decode cX8_breathPrice 49 = .ok (.if_icmp .lt 8, 3) := by decide +kernel
theorem dX8_breathPrice_52 : decode cX8_breathPrice 52 = .ok (.bipush (-2), 2) := by decide +kernel
theorem dX8_breathPrice_54 : decode cX8_breathPrice 54 = .ok (.goto 13, 3) := by decide +kernel
theorem dX8_breathPrice_57 : decode cX8_breathPrice 57 = .ok (.iconst 1, 1) := by decide +kernel
theorem dX8_breathPrice_58 : decode cX8_breathPrice 58 = .ok (.iconst 2, 1) := by decide +kernel
theorem dX8_breathPrice_59 : decode cX8_breathPrice 59 = .ok (.iconst 0, 1) := by decide +kernel
theorem dX8_breathPrice_60 : decode cX8_breathPrice 60 = .ok (.iload 4, 2) := by decide +kernel
theorem dX8_breathPrice_62 : decode cX8_breathPrice 62 = .ok (.invokestatic 41, 3) := by decide +kernel
theorem dX8_breathPrice_65 : decode cX8_breathPrice 65 = .ok (.imul, 1) := by decide +kernel
theorem dX8_breathPrice_66 : decode cX8_breathPrice 66 = .ok (.iadd, 1) := by decide +kernel
theorem dX8_breathPrice_67 : decode cX8_breathPrice 67 = .ok (.ireturn, 1) := by decide +kernel
theorem dX9_init_0 : decode cX9_init 0 = .ok (.aload_n 0, 1) := by decide +kernel
theorem dX9_init_1 : decode cX9_init 1 = .ok (.invokespecial 1, 3) := by decide +kernel
theorem dX9_init_4 : decode cX9_init 4 = .ok (.aload_n 0, 1) := by decide +kernel
theorem dX9_init_5 : decode cX9_init 5 = .ok (.iconst 0, 1) := by decide +kernel
theorem dX9_init_6 : decode cX9_init 6 = .ok (.iconst 4, 1) := by decide +kernel
theorem dX9_init_7 : decode cX9_init 7 = .ok (.iload_n 1, 1) := by decide +kernel
theorem dX9_init_8 : decode cX9_init 8 = .ok (.invokestatic 9, 3) := by decide +kernel
theorem dX9_init_11 : decode cX9_init 11 = .ok (.invokestatic 15, 3) := by decide +kernel
theorem dX9_init_14 : decode cX9_init 14 = .ok (.putfield 18, 3) := by decide +kernel
theorem dX9_init_17 : decode cX9_init 17 = .ok (.aload_n 0, 1) := by decide +kernel
theorem dX9_init_18 : decode cX9_init 18 = .ok (.aload_n 0, 1) := by decide +kernel
theorem dX9_init_19 : decode cX9_init 19 = .ok (.getfield 18, 3) := by decide +kernel
theorem dX9_init_22 : decode cX9_init 22 = .ok (.invokestatic 22, 3) := by decide +kernel
theorem dX9_init_25 : decode cX9_init 25 = .ok (.putfield 26, 3) := by decide +kernel
theorem dX9_init_28 : decode cX9_init 28 = .ok (.aload_n 0, 1) := by decide +kernel
theorem dX9_init_29 : decode cX9_init 29 = .ok (.new 30, 3) := by decide +kernel
theorem dX9_init_32 : decode cX9_init 32 = .ok (.dup, 1) := by decide +kernel
theorem dX9_init_33 : decode cX9_init 33 = .ok (.aload_n 0, 1) := by decide +kernel
theorem dX9_init_34 : decode cX9_init 34 = .ok (.getfield 26, 3) := by decide +kernel
theorem dX9_init_37 : decode cX9_init 37 = .ok (.getfield 32, 3) := by decide +kernel
theorem dX9_init_40 : decode cX9_init 40 = .ok (.invokespecial 37, 3) := by decide +kernel
theorem dX9_init_43 : decode cX9_init 43 = .ok (.putfield 40, 3) := by decide +kernel
theorem dX9_init_46 : decode cX9_init 46 = .ok (.aload_n 0, 1) := by decide +kernel
theorem dX9_init_47 : decode cX9_init 47 = .ok (.aconst_null, 1) := by decide +kernel
theorem dX9_init_48 : decode cX9_init 48 = .ok (.putfield 44, 3) := by decide +kernel
theorem dX9_init_51 : decode cX9_init 51 = .ok (.return_, 1) := by decide +kernel
theorem dX9_playerOf_0 : decode cX9_playerOf 0 = .ok (.iload_n 0, 1) := by decide +kernel
theorem dX9_playerOf_1 : decode cX9_playerOf 1 = .ok (.tableswitch 63 0 3 #[31, 39, 47, 55], 31) := by decide +kernel
theorem dX9_playerOf_32 : decode cX9_playerOf 32 = .ok (.new 48, 3) := by decide +kernel
theorem dX9_playerOf_35 : decode cX9_playerOf 35 = .ok (.dup, 1) := by decide +kernel
theorem dX9_playerOf_36 : decode cX9_playerOf 36 = .ok (.invokespecial 50, 3) := by decide +kernel
theorem dX9_playerOf_39 : decode cX9_playerOf 39 = .ok (.areturn, 1) := by decide +kernel
theorem dX9_playerOf_40 : decode cX9_playerOf 40 = .ok (.new 51, 3) := by decide +kernel
theorem dX9_playerOf_43 : decode cX9_playerOf 43 = .ok (.dup, 1) := by decide +kernel
theorem dX9_playerOf_44 : decode cX9_playerOf 44 = .ok (.invokespecial 53, 3) := by decide +kernel
theorem dX9_playerOf_47 : decode cX9_playerOf 47 = .ok (.areturn, 1) := by decide +kernel
theorem dX9_playerOf_48 : decode cX9_playerOf 48 = .ok (.new 54, 3) := by decide +kernel
theorem dX9_playerOf_51 : decode cX9_playerOf 51 = .ok (.dup, 1) := by decide +kernel
theorem dX9_playerOf_52 : decode cX9_playerOf 52 = .ok (.invokespecial 56, 3) := by decide +kernel
theorem dX9_playerOf_55 : decode cX9_playerOf 55 = .ok (.areturn, 1) := by decide +kernel
theorem dX9_playerOf_56 : decode cX9_playerOf 56 = .ok (.new 57, 3) := by decide +kernel
theorem dX9_playerOf_59 : decode cX9_playerOf 59 = .ok (.dup, 1) := by decide +kernel
theorem dX9_playerOf_60 : decode cX9_playerOf 60 = .ok (.invokespecial 59, 3) := by decide +kernel
theorem dX9_playerOf_63 : decode cX9_playerOf 63 = .ok (.areturn, 1) := by decide +kernel
theorem dX9_playerOf_64 : decode cX9_playerOf 64 = .ok (.new 60, 3) := by decide +kernel
theorem dX9_playerOf_67 : decode cX9_playerOf 67 = .ok (.dup, 1) := by decide +kernel
theorem dX9_playerOf_68 : decode cX9_playerOf 68 = .ok (.invokespecial 62, 3) := by decide +kernel
theorem dX9_playerOf_71 : decode cX9_playerOf 71 = .ok (.areturn, 1) := by decide +kernel
theorem dX9_event_0 : decode cX9_event 0 = .ok (.iload 4, 2) := by decide +kernel
theorem dX9_event_2 : decode cX9_event 2 = .ok (.iload 5, 2) := by decide +kernel
theorem dX9_event_4 : decode cX9_event 4 = .ok (.iload 6, 2) := by decide +kernel
theorem dX9_event_6 : decode cX9_event 6 = .ok (.invokestatic 63, 3) := by decide +kernel
theorem dX9_event_9 : decode cX9_event 9 = .ok (.istore 7, 2) := by decide +kernel
theorem dX9_event_11 : decode cX9_event 11 = .ok (.aload_n 0, 1) := by decide +kernel
theorem dX9_event_12 : decode cX9_event 12 = .ok (.iload_n 1, 1) := by decide +kernel
theorem dX9_event_13 : decode cX9_event 13 = .ok (.invokevirtual 69, 3) := by decide +kernel
theorem dX9_event_16 : decode cX9_event 16 = .ok (.ifCond .eq 44, 3) := by decide +kernel
theorem dX9_event_19 : decode cX9_event 19 = .ok (.iload_n 2, 1) := by decide +kernel
theorem dX9_event_20 : decode cX9_event 20 = .ok (.ifCond .lt 40, 3) := by decide +kernel
theorem dX9_event_23 : decode cX9_event 23 = .ok (.iload_n 2, 1) := by decide +kernel
theorem dX9_event_24 : decode cX9_event 24 = .ok (.ldc 73, 2) := by decide +kernel
theorem dX9_event_26 : decode cX9_event 26 = .ok (.if_icmp .gt 34, 3) := by decide +kernel
theorem dX9_event_29 : decode cX9_event 29 = .ok (.iload_n 3, 1) := by decide +kernel
theorem dX9_event_30 : decode cX9_event 30 = .ok (.iconst 1, 1) := by decide +kernel
theorem dX9_event_31 : decode cX9_event 31 = .ok (.if_icmp .lt 29, 3) := by decide +kernel
theorem dX9_event_34 : decode cX9_event 34 = .ok (.iload_n 3, 1) := by decide +kernel
theorem dX9_event_35 : decode cX9_event 35 = .ok (.sipush 1000, 3) := by decide +kernel
theorem dX9_event_38 : decode cX9_event 38 = .ok (.if_icmp .gt 22, 3) := by decide +kernel
theorem dX9_event_41 : decode cX9_event 41 = .ok (.iload 7, 2) := by decide +kernel
theorem dX9_event_43 : decode cX9_event 43 = .ok (.iconst 1, 1) := by decide +kernel
theorem dX9_event_44 : decode cX9_event 44 = .ok (.if_icmp .lt 16, 3) := by decide +kernel
theorem dX9_event_47 : decode cX9_event 47 = .ok (.iload 7, 2) := by decide +kernel
theorem dX9_event_49 : decode cX9_event 49 = .ok (.getstatic 74, 3) := by decide +kernel
theorem dX9_event_52 : decode cX9_event 52 = .ok (.aload_n 0, 1) := by decide +kernel
theorem dX9_event_53 : decode cX9_event 53 = .ok (.getfield 18, 3) := by decide +kernel
theorem dX9_event_56 : decode cX9_event 56 = .ok (.iaload, 1) := by decide +kernel
theorem dX9_event_57 : decode cX9_event 57 = .ok (.if_icmp .le 5, 3) := by decide +kernel
theorem dX9_event_60 : decode cX9_event 60 = .ok (.iconst (-1), 1) := by decide +kernel
theorem dX9_event_61 : decode cX9_event 61 = .ok (.ireturn, 1) := by decide +kernel
theorem dX9_event_62 : decode cX9_event 62 = .ok (.aload_n 0, 1) := by decide +kernel
theorem dX9_event_63 : decode cX9_event 63 = .ok (.iload_n 1, 1) := by decide +kernel
theorem dX9_event_64 : decode cX9_event 64 = .ok (.iload_n 2, 1) := by decide +kernel
theorem dX9_event_65 : decode cX9_event 65 = .ok (.invokevirtual 78, 3) := by decide +kernel
theorem dX9_event_68 : decode cX9_event 68 = .ok (.ifCond .ne 6, 3) := by decide +kernel
theorem dX9_event_71 : decode cX9_event 71 = .ok (.bipush (-3), 2) := by decide +kernel
theorem dX9_event_73 : decode cX9_event 73 = .ok (.ireturn, 1) := by decide +kernel
theorem dX9_event_74 : decode cX9_event 74 = .ok (.aload_n 0, 1) := by decide +kernel
theorem dX9_event_75 : decode cX9_event 75 = .ok (.getfield 26, 3) := by decide +kernel
theorem dX9_event_78 : decode cX9_event 78 = .ok (.getfield 82, 3) := by decide +kernel
theorem dX9_event_81 : decode cX9_event 81 = .ok (.getfield 86, 3) := by decide +kernel
theorem dX9_event_84 : decode cX9_event 84 = .ok (.bipush 40, 2) := by decide +kernel
theorem dX9_event_86 : decode cX9_event 86 = .ok (.if_icmp .lt 6, 3) := by decide +kernel
theorem dX9_event_89 : decode cX9_event 89 = .ok (.bipush (-4), 2) := by decide +kernel
theorem dX9_event_91 : decode cX9_event 91 = .ok (.ireturn, 1) := by decide +kernel
theorem dX9_event_92 : decode cX9_event 92 = .ok (.aload_n 0, 1) := by decide +kernel
theorem dX9_event_93 : decode cX9_event 93 = .ok (.getfield 26, 3) := by decide +kernel
theorem dX9_event_96 : decode cX9_event 96 = .ok (.getfield 82, 3) := by decide +kernel
theorem dX9_event_99 : decode cX9_event 99 = .ok (.iload_n 1, 1) := by decide +kernel
theorem dX9_event_100 : decode cX9_event 100 = .ok (.iload_n 2, 1) := by decide +kernel
theorem dX9_event_101 : decode cX9_event 101 = .ok (.iload_n 3, 1) := by decide +kernel
theorem dX9_event_102 : decode cX9_event 102 = .ok (.iload 4, 2) := by decide +kernel
theorem dX9_event_104 : decode cX9_event 104 = .ok (.iload 5, 2) := by decide +kernel
theorem dX9_event_106 : decode cX9_event 106 = .ok (.iload 6, 2) := by decide +kernel
theorem dX9_event_108 : decode cX9_event 108 = .ok (.invokevirtual 89, 3) := by decide +kernel
theorem dX9_event_111 : decode cX9_event 111 = .ok (.aload_n 0, 1) := by decide +kernel
theorem dX9_event_112 : decode cX9_event 112 = .ok (.invokevirtual 93, 3) := by decide +kernel
theorem dX9_event_115 : decode cX9_event 115 = .ok (.aload_n 0, 1) := by decide +kernel
theorem dX9_event_116 : decode cX9_event 116 = .ok (.getfield 26, 3) := by decide +kernel
theorem dX9_event_119 : decode cX9_event 119 = .ok (.getfield 82, 3) := by decide +kernel
theorem dX9_event_122 : decode cX9_event 122 = .ok (.getfield 86, 3) := by decide +kernel
theorem dX9_event_125 : decode cX9_event 125 = .ok (.iconst 1, 1) := by decide +kernel
theorem dX9_event_126 : decode cX9_event 126 = .ok (.isub, 1) := by decide +kernel
theorem dX9_event_127 : decode cX9_event 127 = .ok (.ireturn, 1) := by decide +kernel
theorem dX9_drop_0 : decode cX9_drop 0 = .ok (.aload_n 0, 1) := by decide +kernel
theorem dX9_drop_1 : decode cX9_drop 1 = .ok (.getfield 26, 3) := by decide +kernel
theorem dX9_drop_4 : decode cX9_drop 4 = .ok (.getfield 82, 3) := by decide +kernel
theorem dX9_drop_7 : decode cX9_drop 7 = .ok (.getfield 86, 3) := by decide +kernel
theorem dX9_drop_10 : decode cX9_drop 10 = .ok (.ifCond .ne 6, 3) := by decide +kernel
theorem dX9_drop_13 : decode cX9_drop 13 = .ok (.bipush (-2), 2) := by decide +kernel
theorem dX9_drop_15 : decode cX9_drop 15 = .ok (.ireturn, 1) := by decide +kernel
theorem dX9_drop_16 : decode cX9_drop 16 = .ok (.aload_n 0, 1) := by decide +kernel
theorem dX9_drop_17 : decode cX9_drop 17 = .ok (.getfield 26, 3) := by decide +kernel
theorem dX9_drop_20 : decode cX9_drop 20 = .ok (.getfield 82, 3) := by decide +kernel
theorem dX9_drop_23 : decode cX9_drop 23 = .ok (.dup, 1) := by decide +kernel
theorem dX9_drop_24 : decode cX9_drop 24 = .ok (.getfield 86, 3) := by decide +kernel
theorem dX9_drop_27 : decode cX9_drop 27 = .ok (.iconst 1, 1) := by decide +kernel
theorem dX9_drop_28 : decode cX9_drop 28 = .ok (.isub, 1) := by decide +kernel
theorem dX9_drop_29 : decode cX9_drop 29 = .ok (.putfield 86, 3) := by decide +kernel
theorem dX9_drop_32 : decode cX9_drop 32 = .ok (.aload_n 0, 1) := by decide +kernel
theorem dX9_drop_33 : decode cX9_drop 33 = .ok (.getfield 26, 3) := by decide +kernel
theorem dX9_drop_36 : decode cX9_drop 36 = .ok (.aload_n 0, 1) := by decide +kernel
theorem dX9_drop_37 : decode cX9_drop 37 = .ok (.getfield 26, 3) := by decide +kernel
theorem dX9_drop_40 : decode cX9_drop 40 = .ok (.getfield 96, 3) := by decide +kernel
theorem dX9_drop_43 : decode cX9_drop 43 = .ok (.aload_n 0, 1) := by decide +kernel
theorem dX9_drop_44 : decode cX9_drop 44 = .ok (.getfield 26, 3) := by decide +kernel
theorem dX9_drop_47 : decode cX9_drop 47 = .ok (.getfield 82, 3) := by decide +kernel
theorem dX9_drop_50 : decode cX9_drop 50 = .ok (.getfield 86, 3) := by decide +kernel
theorem dX9_drop_53 : decode cX9_drop 53 = .ok (.invokestatic 9, 3) := by decide +kernel
theorem dX9_drop_56 : decode cX9_drop 56 = .ok (.putfield 96, 3) := by decide +kernel
theorem dX9_drop_59 : decode cX9_drop 59 = .ok (.aload_n 0, 1) := by decide +kernel
theorem dX9_drop_60 : decode cX9_drop 60 = .ok (.invokevirtual 93, 3) := by decide +kernel
theorem dX9_drop_63 : decode cX9_drop 63 = .ok (.aload_n 0, 1) := by decide +kernel
theorem dX9_drop_64 : decode cX9_drop 64 = .ok (.getfield 26, 3) := by decide +kernel
theorem dX9_drop_67 : decode cX9_drop 67 = .ok (.getfield 82, 3) := by decide +kernel
theorem dX9_drop_70 : decode cX9_drop 70 = .ok (.getfield 86, 3) := by decide +kernel
theorem dX9_drop_73 : decode cX9_drop 73 = .ok (.ireturn, 1) := by decide +kernel
theorem dX9_bound_0 : decode cX9_bound 0 = .ok (.iload_n 1, 1) := by decide +kernel
theorem dX9_bound_1 : decode cX9_bound 1 = .ok (.ifCond .lt 29, 3) := by decide +kernel
theorem dX9_bound_4 : decode cX9_bound 4 = .ok (.iload_n 1, 1) := by decide +kernel
theorem dX9_bound_5 : decode cX9_bound 5 = .ok (.getstatic 99, 3) := by decide +kernel
theorem dX9_bound_8 : decode cX9_bound 8 = .ok (.arraylength, 1) := by decide +kernel
theorem dX9_bound_9 : decode cX9_bound 9 = .ok (.if_icmp .ge 21, 3) := by decide +kernel
theorem dX9_bound_12 : decode cX9_bound 12 = .ok (.iload_n 2, 1) := by decide +kernel
theorem dX9_bound_13 : decode cX9_bound 13 = .ok (.getstatic 99, 3) := by decide +kernel
theorem dX9_bound_16 : decode cX9_bound 16 = .ok (.iload_n 1, 1) := by decide +kernel
theorem dX9_bound_17 : decode cX9_bound 17 = .ok (.iaload, 1) := by decide +kernel
theorem dX9_bound_18 : decode cX9_bound 18 = .ok (.if_icmp .lt 12, 3) := by decide +kernel
theorem dX9_bound_21 : decode cX9_bound 21 = .ok (.iload_n 2, 1) := by decide +kernel
theorem dX9_bound_22 : decode cX9_bound 22 = .ok (.getstatic 102, 3) := by decide +kernel
theorem dX9_bound_25 : decode cX9_bound 25 = .ok (.iload_n 1, 1) := by decide +kernel
theorem dX9_bound_26 : decode cX9_bound 26 = .ok (.iaload, 1) := by decide +kernel
theorem dX9_bound_27 : decode cX9_bound 27 = .ok (.if_icmp .le 5, 3) := by decide +kernel
theorem dX9_bound_30 : decode cX9_bound 30 = .ok (.iconst (-1), 1) := by decide +kernel
theorem dX9_bound_31 : decode cX9_bound 31 = .ok (.ireturn, 1) := by decide +kernel
theorem dX9_bound_32 : decode cX9_bound 32 = .ok (.aload_n 0, 1) := by decide +kernel
theorem dX9_bound_33 : decode cX9_bound 33 = .ok (.getfield 26, 3) := by decide +kernel
theorem dX9_bound_36 : decode cX9_bound 36 = .ok (.getfield 82, 3) := by decide +kernel
theorem dX9_bound_39 : decode cX9_bound 39 = .ok (.iload_n 1, 1) := by decide +kernel
theorem dX9_bound_40 : decode cX9_bound 40 = .ok (.invokevirtual 105, 3) := by decide +kernel
theorem dX9_bound_43 : decode cX9_bound 43 = .ok (.istore_n 3, 1) := by decide +kernel
theorem dX9_bound_44 : decode cX9_bound 44 = .ok (.aload_n 0, 1) := by decide +kernel
theorem dX9_bound_45 : decode cX9_bound 45 = .ok (.getfield 26, 3) := by decide +kernel
theorem dX9_bound_48 : decode cX9_bound 48 = .ok (.getfield 82, 3) := by decide +kernel
theorem dX9_bound_51 : decode cX9_bound 51 = .ok (.iload_n 1, 1) := by decide +kernel
theorem dX9_bound_52 : decode cX9_bound 52 = .ok (.iload_n 2, 1) := by decide +kernel
theorem dX9_bound_53 : decode cX9_bound 53 = .ok (.invokevirtual 109, 3) := by decide +kernel
theorem dX9_bound_56 : decode cX9_bound 56 = .ok (.aload_n 0, 1) := by decide +kernel
theorem dX9_bound_57 : decode cX9_bound 57 = .ok (.getfield 26, 3) := by decide +kernel
theorem dX9_bound_60 : decode cX9_bound 60 = .ok (.iconst 0, 1) := by decide +kernel
theorem dX9_bound_61 : decode cX9_bound 61 = .ok (.putfield 96, 3) := by decide +kernel
theorem dX9_bound_64 : decode cX9_bound 64 = .ok (.aload_n 0, 1) := by decide +kernel
theorem dX9_bound_65 : decode cX9_bound 65 = .ok (.invokevirtual 93, 3) := by decide +kernel
theorem dX9_bound_68 : decode cX9_bound 68 = .ok (.iload_n 3, 1) := by decide +kernel
theorem dX9_bound_69 : decode cX9_bound 69 = .ok (.ireturn, 1) := by decide +kernel
theorem dX9_pin_0 : decode cX9_pin 0 = .ok (.aload_n 0, 1) := by decide +kernel
theorem dX9_pin_1 : decode cX9_pin 1 = .ok (.getfield 26, 3) := by decide +kernel
theorem dX9_pin_4 : decode cX9_pin 4 = .ok (.getfield 82, 3) := by decide +kernel
theorem dX9_pin_7 : decode cX9_pin 7 = .ok (.iload_n 1, 1) := by decide +kernel
theorem dX9_pin_8 : decode cX9_pin 8 = .ok (.invokevirtual 113, 3) := by decide +kernel
theorem dX9_pin_11 : decode cX9_pin 11 = .ok (.ifCond .eq 14, 3) := by decide +kernel
theorem dX9_pin_14 : decode cX9_pin 14 = .ok (.iload_n 2, 1) := by decide +kernel
theorem dX9_pin_15 : decode cX9_pin 15 = .ok (.iconst (-1), 1) := by decide +kernel
theorem dX9_pin_16 : decode cX9_pin 16 = .ok (.if_icmp .lt 9, 3) := by decide +kernel
theorem dX9_pin_19 : decode cX9_pin 19 = .ok (.iload_n 2, 1) := by decide +kernel
theorem dX9_pin_20 : decode cX9_pin 20 = .ok (.bipush 99, 2) := by decide +kernel
theorem dX9_pin_22 : decode cX9_pin 22 = .ok (.if_icmp .le 5, 3) := by decide +kernel
theorem dX9_pin_25 : decode cX9_pin 25 = .ok (.iconst (-1), 1) := by decide +kernel
theorem dX9_pin_26 : decode cX9_pin 26 = .ok (.ireturn, 1) := by decide +kernel
theorem dX9_pin_27 : decode cX9_pin 27 = .ok (.aload_n 0, 1) := by decide +kernel
theorem dX9_pin_28 : decode cX9_pin 28 = .ok (.getfield 26, 3) := by decide +kernel
theorem dX9_pin_31 : decode cX9_pin 31 = .ok (.getfield 82, 3) := by decide +kernel
theorem dX9_pin_34 : decode cX9_pin 34 = .ok (.iload_n 1, 1) := by decide +kernel
theorem dX9_pin_35 : decode cX9_pin 35 = .ok (.invokevirtual 116, 3) := by decide +kernel
theorem dX9_pin_38 : decode cX9_pin 38 = .ok (.istore_n 3, 1) := by decide +kernel
theorem dX9_pin_39 : decode cX9_pin 39 = .ok (.aload_n 0, 1) := by decide +kernel
theorem dX9_pin_40 : decode cX9_pin 40 = .ok (.getfield 26, 3) := by decide +kernel
theorem dX9_pin_43 : decode cX9_pin 43 = .ok (.getfield 82, 3) := by decide +kernel
theorem dX9_pin_46 : decode cX9_pin 46 = .ok (.iload_n 1, 1) := by decide +kernel
theorem dX9_pin_47 : decode cX9_pin 47 = .ok (.iload_n 2, 1) := by decide +kernel
theorem dX9_pin_48 : decode cX9_pin 48 = .ok (.iconst (-1), 1) := by decide +kernel
theorem dX9_pin_49 : decode cX9_pin 49 = .ok (.if_icmp .ne 8, 3) := by decide +kernel
theorem dX9_pin_52 : decode cX9_pin 52 = .ok (.bipush (-2), 2) := by decide +kernel
theorem dX9_pin_54 : decode cX9_pin 54 = .ok (.goto 4, 3) := by decide +kernel
theorem dX9_pin_57 : decode cX9_pin 57 = .ok (.iload_n 2, 1) := by decide +kernel
theorem dX9_pin_58 : decode cX9_pin 58 = .ok (.invokevirtual 119, 3) := by decide +kernel
theorem dX9_pin_61 : decode cX9_pin 61 = .ok (.aload_n 0, 1) := by decide +kernel
theorem dX9_pin_62 : decode cX9_pin 62 = .ok (.invokevirtual 93, 3) := by decide +kernel
theorem dX9_pin_65 : decode cX9_pin 65 = .ok (.iload_n 3, 1) := by decide +kernel
theorem dX9_pin_66 : decode cX9_pin 66 = .ok (.ireturn, 1) := by decide +kernel
theorem dX9_states_0 : decode cX9_states 0 = .ok (.aload_n 0, 1) := by decide +kernel
theorem dX9_states_1 : decode cX9_states 1 = .ok (.getfield 26, 3) := by decide +kernel
theorem dX9_states_4 : decode cX9_states 4 = .ok (.getfield 82, 3) := by decide +kernel
theorem dX9_states_7 : decode cX9_states 7 = .ok (.iload_n 1, 1) := by decide +kernel
theorem dX9_states_8 : decode cX9_states 8 = .ok (.invokevirtual 113, 3) := by decide +kernel
theorem dX9_states_11 : decode cX9_states 11 = .ok (.ifCond .ne 5, 3) := by decide +kernel
theorem dX9_states_14 : decode cX9_states 14 = .ok (.iconst (-1), 1) := by decide +kernel
theorem dX9_states_15 : decode cX9_states 15 = .ok (.ireturn, 1) := by decide +kernel
theorem dX9_states_16 : decode cX9_states 16 = .ok (.aload_n 0, 1) := by decide +kernel
theorem dX9_states_17 : decode cX9_states 17 = .ok (.getfield 26, 3) := by decide +kernel
theorem dX9_states_20 : decode cX9_states 20 = .ok (.invokevirtual 122, 3) := by decide +kernel
theorem dX9_states_23 : decode cX9_states 23 = .ok (.aload_n 0, 1) := by decide +kernel
theorem dX9_states_24 : decode cX9_states 24 = .ok (.getfield 26, 3) := by decide +kernel
theorem dX9_states_27 : decode cX9_states 27 = .ok (.iload_n 1, 1) := by decide +kernel
theorem dX9_states_28 : decode cX9_states 28 = .ok (.invokevirtual 125, 3) := by decide +kernel
theorem dX9_states_31 : decode cX9_states 31 = .ok (.ireturn, 1) := by decide +kernel
theorem dX9_state_0 : decode cX9_state 0 = .ok (.aload_n 0, 1) := by decide +kernel
theorem dX9_state_1 : decode cX9_state 1 = .ok (.iload_n 1, 1) := by decide +kernel
theorem dX9_state_2 : decode cX9_state 2 = .ok (.iload_n 2, 1) := by decide +kernel
theorem dX9_state_3 : decode cX9_state 3 = .ok (.invokevirtual 128, 3) := by decide +kernel
theorem dX9_state_6 : decode cX9_state 6 = .ok (.ifCond .ne 5, 3) := by decide +kernel
theorem dX9_state_9 : decode cX9_state 9 = .ok (.iconst (-1), 1) := by decide +kernel
theorem dX9_state_10 : decode cX9_state 10 = .ok (.ireturn, 1) := by decide +kernel
theorem dX9_state_11 : decode cX9_state 11 = .ok (.iload_n 3, 1) := by decide +kernel
theorem dX9_state_12 : decode cX9_state 12 = .ok (.tableswitch 58 0 2 #[28, 38, 48], 28) := by decide +kernel
theorem dX9_state_40 : decode cX9_state 40 = .ok (.aload_n 0, 1) := by decide +kernel
theorem dX9_state_41 : decode cX9_state 41 = .ok (.getfield 26, 3) := by decide +kernel
theorem dX9_state_44 : decode cX9_state 44 = .ok (.iload_n 1, 1) := by decide +kernel
theorem dX9_state_45 : decode cX9_state 45 = .ok (.iload_n 2, 1) := by decide +kernel
theorem dX9_state_46 : decode cX9_state 46 = .ok (.invokevirtual 131, 3) := by decide +kernel
theorem dX9_state_49 : decode cX9_state 49 = .ok (.ireturn, 1) := by decide +kernel
theorem dX9_state_50 : decode cX9_state 50 = .ok (.aload_n 0, 1) := by decide +kernel
theorem dX9_state_51 : decode cX9_state 51 = .ok (.getfield 26, 3) := by decide +kernel
theorem dX9_state_54 : decode cX9_state 54 = .ok (.iload_n 1, 1) := by decide +kernel
theorem dX9_state_55 : decode cX9_state 55 = .ok (.iload_n 2, 1) := by decide +kernel
theorem dX9_state_56 : decode cX9_state 56 = .ok (.invokevirtual 134, 3) := by decide +kernel
theorem dX9_state_59 : decode cX9_state 59 = .ok (.ireturn, 1) := by decide +kernel
theorem dX9_state_60 : decode cX9_state 60 = .ok (.aload_n 0, 1) := by decide +kernel
theorem dX9_state_61 : decode cX9_state 61 = .ok (.getfield 26, 3) := by decide +kernel
theorem dX9_state_64 : decode cX9_state 64 = .ok (.iload_n 1, 1) := by decide +kernel
theorem dX9_state_65 : decode cX9_state 65 = .ok (.iload_n 2, 1) := by decide +kernel
theorem dX9_state_66 : decode cX9_state 66 = .ok (.invokevirtual 137, 3) := by decide +kernel
theorem dX9_state_69 : decode cX9_state 69 = .ok (.ireturn, 1) := by decide +kernel
theorem dX9_state_70 : decode cX9_state 70 = .ok (.iconst (-1), 1) := by decide +kernel
theorem dX9_state_71 : decode cX9_state 71 = .ok (.ireturn, 1) := by decide +kernel
theorem dX9_step_0 : decode cX9_step 0 = .ok (.aload_n 0, 1) := by decide +kernel
theorem dX9_step_1 : decode cX9_step 1 = .ok (.iload_n 1, 1) := by decide +kernel
theorem dX9_step_2 : decode cX9_step 2 = .ok (.iload_n 2, 1) := by decide +kernel
theorem dX9_step_3 : decode cX9_step 3 = .ok (.invokevirtual 128, 3) := by decide +kernel
theorem dX9_step_6 : decode cX9_step 6 = .ok (.ifCond .ne 5, 3) := by decide +kernel
theorem dX9_step_9 : decode cX9_step 9 = .ok (.iconst (-1), 1) := by decide +kernel
theorem dX9_step_10 : decode cX9_step 10 = .ok (.ireturn, 1) := by decide +kernel
theorem dX9_step_11 : decode cX9_step 11 = .ok (.aload_n 0, 1) := by decide +kernel
theorem dX9_step_12 : decode cX9_step 12 = .ok (.getfield 26, 3) := by decide +kernel
theorem dX9_step_15 : decode cX9_step 15 = .ok (.getfield 82, 3) := by decide +kernel
theorem dX9_step_18 : decode cX9_step 18 = .ok (.iload_n 1, 1) := by decide +kernel
theorem dX9_step_19 : decode cX9_step 19 = .ok (.invokevirtual 140, 3) := by decide +kernel
theorem dX9_step_22 : decode cX9_step 22 = .ok (.istore 4, 2) := by decide +kernel
theorem dX9_step_24 : decode cX9_step 24 = .ok (.aload_n 0, 1) := by decide +kernel
theorem dX9_step_25 : decode cX9_step 25 = .ok (.iload 4, 2) := by decide +kernel
theorem dX9_step_27 : decode cX9_step 27 = .ok (.iload_n 3, 1) := by decide +kernel
theorem dX9_step_28 : decode cX9_step 28 = .ok (.invokevirtual 128, 3) := by decide +kernel
theorem dX9_step_31 : decode cX9_step 31 = .ok (.ifCond .eq 18, 3) := by decide +kernel
theorem dX9_step_34 : decode cX9_step 34 = .ok (.aload_n 0, 1) := by decide +kernel
theorem dX9_step_35 : decode cX9_step 35 = .ok (.getfield 26, 3) := by decide +kernel
theorem dX9_step_38 : decode cX9_step 38 = .ok (.iload_n 1, 1) := by decide +kernel
theorem dX9_step_39 : decode cX9_step 39 = .ok (.iload_n 2, 1) := by decide +kernel
theorem dX9_step_40 : decode cX9_step 40 = .ok (.iload 4, 2) := by decide +kernel
theorem dX9_step_42 : decode cX9_step 42 = .ok (.iload_n 3, 1) := by decide +kernel
theorem dX9_step_43 : decode cX9_step 43 = .ok (.invokevirtual 143, 3) := by decide +kernel
theorem dX9_step_46 : decode cX9_step 46 = .ok (.goto 4, 3) := by decide +kernel
theorem dX9_step_49 : decode cX9_step 49 = .ok (.iconst (-1), 1) := by decide +kernel
theorem dX9_step_50 : decode cX9_step 50 = .ok (.ireturn, 1) := by decide +kernel
theorem dX9_price_0 : decode cX9_price 0 = .ok (.aload_n 0, 1) := by decide +kernel
theorem dX9_price_1 : decode cX9_price 1 = .ok (.getfield 40, 3) := by decide +kernel
theorem dX9_price_4 : decode cX9_price 4 = .ok (.aload_n 0, 1) := by decide +kernel
theorem dX9_price_5 : decode cX9_price 5 = .ok (.getfield 26, 3) := by decide +kernel
theorem dX9_price_8 : decode cX9_price 8 = .ok (.invokevirtual 147, 3) := by decide +kernel
theorem dX9_price_11 : decode cX9_price 11 = .ok (.aload_n 0, 1) := by decide +kernel
theorem dX9_price_12 : decode cX9_price 12 = .ok (.getfield 40, 3) := by decide +kernel
theorem dX9_price_15 : decode cX9_price 15 = .ok (.getfield 151, 3) := by decide +kernel
theorem dX9_price_18 : decode cX9_price 18 = .ok (.ireturn, 1) := by decide +kernel
theorem dX9_way_0 : decode cX9_way 0 = .ok (.aload_n 0, 1) := by decide +kernel
theorem dX9_way_1 : decode cX9_way 1 = .ok (.getfield 26, 3) := by decide +kernel
theorem dX9_way_4 : decode cX9_way 4 = .ok (.getfield 82, 3) := by decide +kernel
theorem dX9_way_7 : decode cX9_way 7 = .ok (.iload_n 1, 1) := by decide +kernel
theorem dX9_way_8 : decode cX9_way 8 = .ok (.invokevirtual 113, 3) := by decide +kernel
theorem dX9_way_11 : decode cX9_way 11 = .ok (.ifCond .ne 5, 3) := by decide +kernel
theorem dX9_way_14 : decode cX9_way 14 = .ok (.iconst (-1), 1) := by decide +kernel
theorem dX9_way_15 : decode cX9_way 15 = .ok (.ireturn, 1) := by decide +kernel
theorem dX9_way_16 : decode cX9_way 16 = .ok (.aload_n 0, 1) := by decide +kernel
theorem dX9_way_17 : decode cX9_way 17 = .ok (.getfield 40, 3) := by decide +kernel
theorem dX9_way_20 : decode cX9_way 20 = .ok (.aload_n 0, 1) := by decide +kernel
theorem dX9_way_21 : decode cX9_way 21 = .ok (.getfield 26, 3) := by decide +kernel
theorem dX9_way_24 : decode cX9_way 24 = .ok (.invokevirtual 147, 3) := by decide +kernel
theorem dX9_way_27 : decode cX9_way 27 = .ok (.aload_n 0, 1) := by decide +kernel
theorem dX9_way_28 : decode cX9_way 28 = .ok (.getfield 40, 3) := by decide +kernel
theorem dX9_way_31 : decode cX9_way 31 = .ok (.getfield 151, 3) := by decide +kernel
theorem dX9_way_34 : decode cX9_way 34 = .ok (.ifCond .ge 8, 3) := by decide +kernel
theorem dX9_way_37 : decode cX9_way 37 = .ok (.bipush (-2), 2) := by decide +kernel
theorem dX9_way_39 : decode cX9_way 39 = .ok (.goto 11, 3) := by decide +kernel
theorem dX9_way_42 : decode cX9_way 42 = .ok (.aload_n 0, 1) := by decide +kernel
theorem dX9_way_43 : decode cX9_way 43 = .ok (.getfield 40, 3) := by decide +kernel
theorem dX9_way_46 : decode cX9_way 46 = .ok (.iload_n 1, 1) := by decide +kernel
theorem dX9_way_47 : decode cX9_way 47 = .ok (.invokevirtual 154, 3) := by decide +kernel
theorem dX9_way_50 : decode cX9_way 50 = .ok (.ireturn, 1) := by decide +kernel
theorem dX9_stuck_0 : decode cX9_stuck 0 = .ok (.aload_n 0, 1) := by decide +kernel
theorem dX9_stuck_1 : decode cX9_stuck 1 = .ok (.getfield 40, 3) := by decide +kernel
theorem dX9_stuck_4 : decode cX9_stuck 4 = .ok (.aload_n 0, 1) := by decide +kernel
theorem dX9_stuck_5 : decode cX9_stuck 5 = .ok (.getfield 26, 3) := by decide +kernel
theorem dX9_stuck_8 : decode cX9_stuck 8 = .ok (.invokevirtual 147, 3) := by decide +kernel
theorem dX9_stuck_11 : decode cX9_stuck 11 = .ok (.aload_n 0, 1) := by decide +kernel
theorem dX9_stuck_12 : decode cX9_stuck 12 = .ok (.getfield 40, 3) := by decide +kernel
theorem dX9_stuck_15 : decode cX9_stuck 15 = .ok (.getfield 157, 3) := by decide +kernel
theorem dX9_stuck_18 : decode cX9_stuck 18 = .ok (.ireturn, 1) := by decide +kernel
theorem dX9_ways_0 : decode cX9_ways 0 = .ok (.iload_n 1, 1) := by decide +kernel
theorem dX9_ways_1 : decode cX9_ways 1 = .ok (.ifCond .lt 10, 3) := by decide +kernel
theorem dX9_ways_4 : decode cX9_ways 4 = .ok (.iload_n 1, 1) := by decide +kernel
theorem dX9_ways_5 : decode cX9_ways 5 = .ok (.sipush 300, 3) := by decide +kernel
theorem dX9_ways_8 : decode cX9_ways 8 = .ok (.if_icmp .le 5, 3) := by decide +kernel
theorem dX9_ways_11 : decode cX9_ways 11 = .ok (.iconst (-1), 1) := by decide +kernel
theorem dX9_ways_12 : decode cX9_ways 12 = .ok (.ireturn, 1) := by decide +kernel
theorem dX9_ways_13 : decode cX9_ways 13 = .ok (.aload_n 0, 1) := by decide +kernel
theorem dX9_ways_14 : decode cX9_ways 14 = .ok (.getfield 44, 3) := by decide +kernel
theorem dX9_ways_17 : decode cX9_ways 17 = .ok (.ifnonnull 21, 3) := by decide +kernel
theorem dX9_ways_20 : decode cX9_ways 20 = .ok (.aload_n 0, 1) := by decide +kernel
theorem dX9_ways_21 : decode cX9_ways 21 = .ok (.new 160, 3) := by decide +kernel
theorem dX9_ways_24 : decode cX9_ways 24 = .ok (.dup, 1) := by decide +kernel
theorem dX9_ways_25 : decode cX9_ways 25 = .ok (.aload_n 0, 1) := by decide +kernel
theorem dX9_ways_26 : decode cX9_ways 26 = .ok (.getfield 26, 3) := by decide +kernel
theorem dX9_ways_29 : decode cX9_ways 29 = .ok (.getfield 32, 3) := by decide +kernel
theorem dX9_ways_32 : decode cX9_ways 32 = .ok (.invokespecial 162, 3) := by decide +kernel
theorem dX9_ways_35 : decode cX9_ways 35 = .ok (.putfield 44, 3) := by decide +kernel
theorem dX9_ways_38 : decode cX9_ways 38 = .ok (.aload_n 0, 1) := by decide +kernel
theorem dX9_ways_39 : decode cX9_ways 39 = .ok (.getfield 44, 3) := by decide +kernel
theorem dX9_ways_42 : decode cX9_ways 42 = .ok (.getfield 163, 3) := by decide +kernel
theorem dX9_ways_45 : decode cX9_ways 45 = .ok (.iload_n 1, 1) := by decide +kernel
theorem dX9_ways_46 : decode cX9_ways 46 = .ok (.if_icmp .ge 22, 3) := by decide +kernel
theorem dX9_ways_49 : decode cX9_ways 49 = .ok (.aload_n 0, 1) := by decide +kernel
theorem dX9_ways_50 : decode cX9_ways 50 = .ok (.getfield 26, 3) := by decide +kernel
theorem dX9_ways_53 : decode cX9_ways 53 = .ok (.invokevirtual 122, 3) := by decide +kernel
theorem dX9_ways_56 : decode cX9_ways 56 = .ok (.aload_n 0, 1) := by decide +kernel
theorem dX9_ways_57 : decode cX9_ways 57 = .ok (.getfield 44, 3) := by decide +kernel
theorem dX9_ways_60 : decode cX9_ways 60 = .ok (.aload_n 0, 1) := by decide +kernel
theorem dX9_ways_61 : decode cX9_ways 61 = .ok (.getfield 26, 3) := by decide +kernel
theorem dX9_ways_64 : decode cX9_ways 64 = .ok (.iload_n 1, 1) := by decide +kernel
theorem dX9_ways_65 : decode cX9_ways 65 = .ok (.invokevirtual 166, 3) := by decide +kernel
theorem dX9_ways_68 : decode cX9_ways 68 = .ok (.aload_n 0, 1) := by decide +kernel
theorem dX9_ways_69 : decode cX9_ways 69 = .ok (.getfield 44, 3) := by decide +kernel
theorem dX9_ways_72 : decode cX9_ways 72 = .ok (.iload_n 1, 1) := by decide +kernel
theorem dX9_ways_73 : decode cX9_ways 73 = .ok (.invokevirtual 170, 3) := by decide +kernel
theorem dX9_ways_76 : decode cX9_ways 76 = .ok (.ireturn, 1) := by decide +kernel
theorem dX9_told_0 : decode cX9_told 0 = .ok (.iload_n 1, 1) := by decide +kernel
theorem dX9_told_1 : decode cX9_told 1 = .ok (.tableswitch 86 0 4 #[35, 46, 58, 70, 75], 35) := by decide +kernel
theorem dX9_told_36 : decode cX9_told 36 = .ok (.aload_n 0, 1) := by decide +kernel
theorem dX9_told_37 : decode cX9_told 37 = .ok (.getfield 26, 3) := by decide +kernel
theorem dX9_told_40 : decode cX9_told 40 = .ok (.getfield 82, 3) := by decide +kernel
theorem dX9_told_43 : decode cX9_told 43 = .ok (.getfield 86, 3) := by decide +kernel
theorem dX9_told_46 : decode cX9_told 46 = .ok (.ireturn, 1) := by decide +kernel
theorem dX9_told_47 : decode cX9_told 47 = .ok (.aload_n 0, 1) := by decide +kernel
theorem dX9_told_48 : decode cX9_told 48 = .ok (.getfield 26, 3) := by decide +kernel
theorem dX9_told_51 : decode cX9_told 51 = .ok (.getfield 82, 3) := by decide +kernel
theorem dX9_told_54 : decode cX9_told 54 = .ok (.iconst 0, 1) := by decide +kernel
theorem dX9_told_55 : decode cX9_told 55 = .ok (.invokevirtual 173, 3) := by decide +kernel
theorem dX9_told_58 : decode cX9_told 58 = .ok (.ireturn, 1) := by decide +kernel
theorem dX9_told_59 : decode cX9_told 59 = .ok (.aload_n 0, 1) := by decide +kernel
theorem dX9_told_60 : decode cX9_told 60 = .ok (.getfield 26, 3) := by decide +kernel
theorem dX9_told_63 : decode cX9_told 63 = .ok (.getfield 82, 3) := by decide +kernel
theorem dX9_told_66 : decode cX9_told 66 = .ok (.iconst 1, 1) := by decide +kernel
theorem dX9_told_67 : decode cX9_told 67 = .ok (.invokevirtual 173, 3) := by decide +kernel
theorem dX9_told_70 : decode cX9_told 70 = .ok (.ireturn, 1) := by decide +kernel
theorem dX9_told_71 : decode cX9_told 71 = .ok (.aload_n 0, 1) := by decide +kernel
theorem dX9_told_72 : decode cX9_told 72 = .ok (.getfield 18, 3) := by decide +kernel
theorem dX9_told_75 : decode cX9_told 75 = .ok (.ireturn, 1) := by decide +kernel
theorem dX9_told_76 : decode cX9_told 76 = .ok (.aload_n 0, 1) := by decide +kernel
theorem dX9_told_77 : decode cX9_told 77 = .ok (.getfield 26, 3) := by decide +kernel
theorem dX9_told_80 : decode cX9_told 80 = .ok (.getfield 82, 3) := by decide +kernel
theorem dX9_told_83 : decode cX9_told 83 = .ok (.invokevirtual 176, 3) := by decide +kernel
theorem dX9_told_86 : decode cX9_told 86 = .ok (.ireturn, 1) := by decide +kernel
theorem dX9_told_87 : decode cX9_told 87 = .ok (.iconst (-1), 1) := by decide +kernel
theorem dX9_told_88 : decode cX9_told 88 = .ok (.ireturn, 1) := by decide +kernel
theorem dX9_about_0 : decode cX9_about 0 = .ok (.aload_n 0, 1) := by decide +kernel
theorem dX9_about_1 : decode cX9_about 1 = .ok (.getfield 26, 3) := by decide +kernel
theorem dX9_about_4 : decode cX9_about 4 = .ok (.getfield 82, 3) := by decide +kernel
theorem dX9_about_7 : decode cX9_about 7 = .ok (.astore_n 3, 1) := by decide +kernel
theorem dX9_about_8 : decode cX9_about 8 = .ok (.aload_n 3, 1) := by decide +kernel
theorem dX9_about_9 : decode cX9_about 9 = .ok (.iload_n 1, 1) := by decide +kernel
theorem dX9_about_10 : decode cX9_about 10 = .ok (.invokevirtual 113, 3) := by decide +kernel
theorem dX9_about_13 : decode cX9_about 13 = .ok (.ifCond .ne 5, 3) := by decide +kernel
theorem dX9_about_16 : decode cX9_about 16 = .ok (.iconst (-1), 1) := by decide +kernel
theorem dX9_about_17 : decode cX9_about 17 = .ok (.ireturn, 1) := by decide +kernel
theorem dX9_about_18 : decode cX9_about 18 = .ok (.iload_n 2, 1) := by decide +kernel
theorem dX9_about_19 : decode cX9_about 19 = .ok (.tableswitch 84 0 7 #[45, 51, 57, 63, 69, 69, 69, 78], 45) := by decide +kernel
theorem dX9_about_64 : decode cX9_about 64 = .ok (.aload_n 3, 1) := by decide +kernel
theorem dX9_about_65 : decode cX9_about 65 = .ok (.iload_n 1, 1) := by decide +kernel
theorem dX9_about_66 : decode cX9_about 66 = .ok (.invokevirtual 180, 3) := by decide +kernel
theorem dX9_about_69 : decode cX9_about 69 = .ok (.ireturn, 1) := by decide +kernel
theorem dX9_about_70 : decode cX9_about 70 = .ok (.aload_n 3, 1) := by decide +kernel
theorem dX9_about_71 : decode cX9_about 71 = .ok (.iload_n 1, 1) := by decide +kernel
theorem dX9_about_72 : decode cX9_about 72 = .ok (.invokevirtual 183, 3) := by decide +kernel
theorem dX9_about_75 : decode cX9_about 75 = .ok (.ireturn, 1) := by decide +kernel
theorem dX9_about_76 : decode cX9_about 76 = .ok (.aload_n 3, 1) := by decide +kernel
theorem dX9_about_77 : decode cX9_about 77 = .ok (.iload_n 1, 1) := by decide +kernel
theorem dX9_about_78 : decode cX9_about 78 = .ok (.invokevirtual 186, 3) := by decide +kernel
theorem dX9_about_81 : decode cX9_about 81 = .ok (.ireturn, 1) := by decide +kernel
theorem dX9_about_82 : decode cX9_about 82 = .ok (.aload_n 3, 1) := by decide +kernel
theorem dX9_about_83 : decode cX9_about 83 = .ok (.iload_n 1, 1) := by decide +kernel
theorem dX9_about_84 : decode cX9_about 84 = .ok (.invokevirtual 189, 3) := by decide +kernel
theorem dX9_about_87 : decode cX9_about 87 = .ok (.ireturn, 1) := by decide +kernel
theorem dX9_about_88 : decode cX9_about 88 = .ok (.aload_n 3, 1) := by decide +kernel
theorem dX9_about_89 : decode cX9_about 89 = .ok (.iload_n 1, 1) := by decide +kernel
theorem dX9_about_90 : decode cX9_about 90 = .ok (.iload_n 2, 1) := by decide +kernel
theorem dX9_about_91 : decode cX9_about 91 = .ok (.iconst 4, 1) := by decide +kernel
theorem dX9_about_92 : decode cX9_about 92 = .ok (.isub, 1) := by decide +kernel
theorem dX9_about_93 : decode cX9_about 93 = .ok (.invokevirtual 192, 3) := by decide +kernel
theorem dX9_about_96 : decode cX9_about 96 = .ok (.ireturn, 1) := by decide +kernel
theorem dX9_about_97 : decode cX9_about 97 = .ok (.aload_n 3, 1) := by decide +kernel
theorem dX9_about_98 : decode cX9_about 98 = .ok (.iload_n 1, 1) := by decide +kernel
theorem dX9_about_99 : decode cX9_about 99 = .ok (.invokevirtual 116, 3) := by decide +kernel
theorem dX9_about_102 : decode cX9_about 102 = .ok (.ireturn, 1) := by decide +kernel
theorem dX9_about_103 : decode cX9_about 103 = .ok (.iconst (-1), 1) := by decide +kernel
theorem dX9_about_104 : decode cX9_about 104 = .ok (.ireturn, 1) := by decide +kernel
theorem dX9_hasHand_0 : decode cX9_hasHand 0 = .ok (.iload_n 1, 1) := by decide +kernel
theorem dX9_hasHand_1 : decode cX9_hasHand 1 = .ok (.ifCond .eq 15, 3) := by decide +kernel
theorem dX9_hasHand_4 : decode cX9_hasHand 4 = .ok (.iload_n 1, 1) := by decide +kernel
theorem dX9_hasHand_5 : decode cX9_hasHand 5 = .ok (.iconst 1, 1) := by decide +kernel
theorem dX9_hasHand_6 : decode cX9_hasHand 6 = .ok (.if_icmp .ne 14, 3) := by decide +kernel
theorem dX9_hasHand_9 : decode cX9_hasHand 9 = .ok (.aload_n 0, 1) := by decide +kernel
theorem dX9_hasHand_10 : decode cX9_hasHand 10 = .ok (.getfield 18, 3) := by decide +kernel
theorem dX9_hasHand_13 : decode cX9_hasHand 13 = .ok (.ifCond .ne 7, 3) := by decide +kernel
theorem dX9_hasHand_16 : decode cX9_hasHand 16 = .ok (.iconst 1, 1) := by decide +kernel
theorem dX9_hasHand_17 : decode cX9_hasHand 17 = .ok (.goto 4, 3) := by decide +kernel
theorem dX9_hasHand_20 : decode cX9_hasHand 20 = .ok (.iconst 0, 1) := by decide +kernel
theorem dX9_hasHand_21 : decode cX9_hasHand 21 = .ok (.ireturn, 1) := by decide +kernel
theorem dX9_hasState_0 : decode cX9_hasState 0 = .ok (.aload_n 0, 1) := by decide +kernel
theorem dX9_hasState_1 : decode cX9_hasState 1 = .ok (.getfield 26, 3) := by decide +kernel
theorem dX9_hasState_4 : decode cX9_hasState 4 = .ok (.getfield 82, 3) := by decide +kernel
theorem dX9_hasState_7 : decode cX9_hasState 7 = .ok (.iload_n 1, 1) := by decide +kernel
theorem dX9_hasState_8 : decode cX9_hasState 8 = .ok (.invokevirtual 113, 3) := by decide +kernel
theorem dX9_hasState_11 : decode cX9_hasState 11 = .ok (.ifCond .ne 5, 3) := by decide +kernel
theorem dX9_hasState_14 : decode cX9_hasState 14 = .ok (.iconst 0, 1) := by decide +kernel
theorem dX9_hasState_15 : decode cX9_hasState 15 = .ok (.ireturn, 1) := by decide +kernel
theorem dX9_hasState_16 : decode cX9_hasState 16 = .ok (.aload_n 0, 1) := by decide +kernel
theorem dX9_hasState_17 : decode cX9_hasState 17 = .ok (.getfield 26, 3) := by decide +kernel
theorem dX9_hasState_20 : decode cX9_hasState 20 = .ok (.invokevirtual 122, 3) := by decide +kernel
theorem dX9_hasState_23 : decode cX9_hasState 23 = .ok (.iload_n 2, 1) := by decide +kernel
theorem dX9_hasState_24 : decode cX9_hasState 24 = .ok (.ifCond .lt 19, 3) := by decide +kernel
theorem dX9_hasState_27 : decode cX9_hasState 27 = .ok (.iload_n 2, 1) := by decide +kernel
theorem dX9_hasState_28 : decode cX9_hasState 28 = .ok (.aload_n 0, 1) := by decide +kernel
theorem dX9_hasState_29 : decode cX9_hasState 29 = .ok (.getfield 26, 3) := by decide +kernel
theorem dX9_hasState_32 : decode cX9_hasState 32 = .ok (.iload_n 1, 1) := by decide +kernel
theorem dX9_hasState_33 : decode cX9_hasState 33 = .ok (.invokevirtual 125, 3) := by decide +kernel
theorem dX9_hasState_36 : decode cX9_hasState 36 = .ok (.if_icmp .ge 7, 3) := by decide +kernel
theorem dX9_hasState_39 : decode cX9_hasState 39 = .ok (.iconst 1, 1) := by decide +kernel
theorem dX9_hasState_40 : decode cX9_hasState 40 = .ok (.goto 4, 3) := by decide +kernel
theorem dX9_hasState_43 : decode cX9_hasState 43 = .ok (.iconst 0, 1) := by decide +kernel
theorem dX9_hasState_44 : decode cX9_hasState 44 = .ok (.ireturn, 1) := by decide +kernel
theorem dX9_fits_0 : decode cX9_fits 0 = .ok (.aload_n 0, 1) := by decide +kernel
theorem dX9_fits_1 : decode cX9_fits 1 = .ok (.getfield 26, 3) := by decide +kernel
theorem dX9_fits_4 : decode cX9_fits 4 = .ok (.getfield 82, 3) := by decide +kernel
theorem dX9_fits_7 : decode cX9_fits 7 = .ok (.astore_n 3, 1) := by decide +kernel
theorem dX9_fits_8 : decode cX9_fits 8 = .ok (.aload_n 3, 1) := by decide +kernel
theorem dX9_fits_9 : decode cX9_fits 9 = .ok (.iload_n 1, 1) := by decide +kernel
theorem dX9_fits_10 : decode cX9_fits 10 = .ok (.aload_n 3, 1) := by decide +kernel
theorem dX9_fits_11 : decode cX9_fits 11 = .ok (.getfield 86, 3) := by decide +kernel
theorem dX9_fits_14 : decode cX9_fits 14 = .ok (.invokevirtual 195, 3) := by decide +kernel
theorem dX9_fits_17 : decode cX9_fits 17 = .ok (.istore 4, 2) := by decide +kernel
theorem dX9_fits_19 : decode cX9_fits 19 = .ok (.iload 4, 2) := by decide +kernel
theorem dX9_fits_21 : decode cX9_fits 21 = .ok (.ifCond .lt 60, 3) := by decide +kernel
theorem dX9_fits_24 : decode cX9_fits 24 = .ok (.aload_n 0, 1) := by decide +kernel
theorem dX9_fits_25 : decode cX9_fits 25 = .ok (.getfield 18, 3) := by decide +kernel
theorem dX9_fits_28 : decode cX9_fits 28 = .ok (.iconst 2, 1) := by decide +kernel
theorem dX9_fits_29 : decode cX9_fits 29 = .ok (.if_icmp .eq 11, 3) := by decide +kernel
theorem dX9_fits_32 : decode cX9_fits 32 = .ok (.aload_n 0, 1) := by decide +kernel
theorem dX9_fits_33 : decode cX9_fits 33 = .ok (.getfield 18, 3) := by decide +kernel
theorem dX9_fits_36 : decode cX9_fits 36 = .ok (.iconst 3, 1) := by decide +kernel
theorem dX9_fits_37 : decode cX9_fits 37 = .ok (.if_icmp .ne 7, 3) := by decide +kernel
theorem dX9_fits_40 : decode cX9_fits 40 = .ok (.iconst 1, 1) := by decide +kernel
theorem dX9_fits_41 : decode cX9_fits 41 = .ok (.goto 4, 3) := by decide +kernel
theorem dX9_fits_44 : decode cX9_fits 44 = .ok (.iconst 0, 1) := by decide +kernel
theorem dX9_fits_45 : decode cX9_fits 45 = .ok (.istore 5, 2) := by decide +kernel
theorem dX9_fits_47 : decode cX9_fits 47 = .ok (.aload_n 3, 1) := by decide +kernel
theorem dX9_fits_48 : decode cX9_fits 48 = .ok (.iload 4, 2) := by decide +kernel
theorem dX9_fits_50 : decode cX9_fits 50 = .ok (.invokevirtual 183, 3) := by decide +kernel
theorem dX9_fits_53 : decode cX9_fits 53 = .ok (.istore 6, 2) := by decide +kernel
theorem dX9_fits_55 : decode cX9_fits 55 = .ok (.iload_n 2, 1) := by decide +kernel
theorem dX9_fits_56 : decode cX9_fits 56 = .ok (.iload 6, 2) := by decide +kernel
theorem dX9_fits_58 : decode cX9_fits 58 = .ok (.if_icmp .le 21, 3) := by decide +kernel
theorem dX9_fits_61 : decode cX9_fits 61 = .ok (.iload 5, 2) := by decide +kernel
theorem dX9_fits_63 : decode cX9_fits 63 = .ok (.ifCond .eq 18, 3) := by decide +kernel
theorem dX9_fits_66 : decode cX9_fits 66 = .ok (.iload_n 2, 1) := by decide +kernel
theorem dX9_fits_67 : decode cX9_fits 67 = .ok (.iload 6, 2) := by decide +kernel
theorem dX9_fits_69 : decode cX9_fits 69 = .ok (.aload_n 3, 1) := by decide +kernel
theorem dX9_fits_70 : decode cX9_fits 70 = .ok (.iload 4, 2) := by decide +kernel
theorem dX9_fits_72 : decode cX9_fits 72 = .ok (.invokevirtual 186, 3) := by decide +kernel
theorem dX9_fits_75 : decode cX9_fits 75 = .ok (.iadd, 1) := by decide +kernel
theorem dX9_fits_76 : decode cX9_fits 76 = .ok (.if_icmp .ge 5, 3) := by decide +kernel
theorem dX9_fits_79 : decode cX9_fits 79 = .ok (.iconst 0, 1) := by decide +kernel
theorem dX9_fits_80 : decode cX9_fits 80 = .ok (.ireturn, 1) := by decide +kernel
theorem dX9_fits_81 : decode cX9_fits 81 = .ok (.aload_n 3, 1) := by decide +kernel
theorem dX9_fits_82 : decode cX9_fits 82 = .ok (.getfield 86, 3) := by decide +kernel
theorem dX9_fits_85 : decode cX9_fits 85 = .ok (.ifCond .eq 17, 3) := by decide +kernel
theorem dX9_fits_88 : decode cX9_fits 88 = .ok (.iload_n 2, 1) := by decide +kernel
theorem dX9_fits_89 : decode cX9_fits 89 = .ok (.aload_n 3, 1) := by decide +kernel
theorem dX9_fits_90 : decode cX9_fits 90 = .ok (.aload_n 3, 1) := by decide +kernel
theorem dX9_fits_91 : decode cX9_fits 91 = .ok (.getfield 86, 3) := by decide +kernel
theorem dX9_fits_94 : decode cX9_fits 94 = .ok (.iconst 1, 1) := by decide +kernel
theorem dX9_fits_95 : decode cX9_fits 95 = .ok (.isub, 1) := by decide +kernel
theorem dX9_fits_96 : decode cX9_fits 96 = .ok (.invokevirtual 183, 3) := by decide +kernel
theorem dX9_fits_99 : decode cX9_fits 99 = .ok (.if_icmp .lt 7, 3) := by decide +kernel
theorem dX9_fits_102 : decode cX9_fits 102 = .ok (.iconst 1, 1) := by decide +kernel
theorem dX9_fits_103 : decode cX9_fits 103 = .ok (.goto 4, 3) := by decide +kernel
theorem dX9_fits_106 : decode cX9_fits 106 = .ok (.iconst 0, 1) := by decide +kernel
theorem dX9_fits_107 : decode cX9_fits 107 = .ok (.ireturn, 1) := by decide +kernel
theorem dX9_forgetAnswers_0 : decode cX9_forgetAnswers 0 = .ok (.aload_n 0, 1) := by decide +kernel
theorem dX9_forgetAnswers_1 : decode cX9_forgetAnswers 1 = .ok (.getfield 40, 3) := by decide +kernel
theorem dX9_forgetAnswers_4 : decode cX9_forgetAnswers 4 = .ok (.iconst 0, 1) := by decide +kernel
theorem dX9_forgetAnswers_5 : decode cX9_forgetAnswers 5 = .ok (.putfield 198, 3) := by decide +kernel
theorem dX9_forgetAnswers_8 : decode cX9_forgetAnswers 8 = .ok (.aload_n 0, 1) := by decide +kernel
theorem dX9_forgetAnswers_9 : decode cX9_forgetAnswers 9 = .ok (.getfield 44, 3) := by decide +kernel
theorem dX9_forgetAnswers_12 : decode cX9_forgetAnswers 12 = .ok (.ifnull 11, 3) := by decide +kernel
theorem dX9_forgetAnswers_15 : decode cX9_forgetAnswers 15 = .ok (.aload_n 0, 1) := by decide +kernel
theorem dX9_forgetAnswers_16 : decode cX9_forgetAnswers 16 = .ok (.getfield 44, 3) := by decide +kernel
theorem dX9_forgetAnswers_19 : decode cX9_forgetAnswers 19 = .ok (.iconst (-1), 1) := by decide +kernel
theorem dX9_forgetAnswers_20 : decode cX9_forgetAnswers 20 = .ok (.putfield 163, 3) := by decide +kernel
theorem dX9_forgetAnswers_23 : decode cX9_forgetAnswers 23 = .ok (.return_, 1) := by decide +kernel
theorem dX10_init_0 : decode cX10_init 0 = .ok (.aload_n 0, 1) := by decide +kernel
theorem dX10_init_1 : decode cX10_init 1 = .ok (.invokespecial 1, 3) := by decide +kernel
theorem dX10_init_4 : decode cX10_init 4 = .ok (.aload_n 0, 1) := by decide +kernel
theorem dX10_init_5 : decode cX10_init 5 = .ok (.bipush 40, 2) := by decide +kernel
theorem dX10_init_7 : decode cX10_init 7 = .ok (.newarray .int, 2) := by decide +kernel
theorem dX10_init_9 : decode cX10_init 9 = .ok (.putfield 7, 3) := by decide +kernel
theorem dX10_init_12 : decode cX10_init 12 = .ok (.aload_n 0, 1) := by decide +kernel
theorem dX10_init_13 : decode cX10_init 13 = .ok (.bipush 40, 2) := by decide +kernel
theorem dX10_init_15 : decode cX10_init 15 = .ok (.newarray .int, 2) := by decide +kernel
theorem dX10_init_17 : decode cX10_init 17 = .ok (.putfield 13, 3) := by decide +kernel
theorem dX10_init_20 : decode cX10_init 20 = .ok (.aload_n 0, 1) := by decide +kernel
theorem dX10_init_21 : decode cX10_init 21 = .ok (.bipush 40, 2) := by decide +kernel
theorem dX10_init_23 : decode cX10_init 23 = .ok (.newarray .int, 2) := by decide +kernel
theorem dX10_init_25 : decode cX10_init 25 = .ok (.putfield 16, 3) := by decide +kernel
theorem dX10_init_28 : decode cX10_init 28 = .ok (.aload_n 0, 1) := by decide +kernel
theorem dX10_init_29 : decode cX10_init 29 = .ok (.bipush 40, 2) := by decide +kernel
theorem dX10_init_31 : decode cX10_init 31 = .ok (.newarray .int, 2) := by decide +kernel
theorem dX10_init_33 : decode cX10_init 33 = .ok (.putfield 19, 3) := by decide +kernel
theorem dX10_init_36 : decode cX10_init 36 = .ok (.aload_n 0, 1) := by decide +kernel
theorem dX10_init_37 : decode cX10_init 37 = .ok (.bipush 120, 2) := by decide +kernel
theorem dX10_init_39 : decode cX10_init 39 = .ok (.newarray .int, 2) := by decide +kernel
theorem dX10_init_41 : decode cX10_init 41 = .ok (.putfield 22, 3) := by decide +kernel
theorem dX10_init_44 : decode cX10_init 44 = .ok (.aload_n 0, 1) := by decide +kernel
