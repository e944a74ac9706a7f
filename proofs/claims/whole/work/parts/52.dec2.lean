theorem dX8_beginLate_2 : decode cX8_beginLate 2 = .ok (.iload_n 3, 1) := by decide +kernel
theorem dX8_beginLate_3 : decode cX8_beginLate 3 = .ok (.bipush 6, 2) := by decide +kernel
theorem dX8_beginLate_5 : decode cX8_beginLate 5 = .ok (.if_icmp .ge 25, 3) := by decide +kernel
theorem dX8_beginLate_8 : decode cX8_beginLate 8 = .ok (.aload_n 0, 1) := by decide +kernel
theorem dX8_beginLate_9 : decode cX8_beginLate 9 = .ok (.getfield 50, 3) := by decide +kernel
theorem dX8_beginLate_12 : decode cX8_beginLate 12 = .ok (.iload_n 3, 1) := by decide +kernel
theorem dX8_beginLate_13 : decode cX8_beginLate 13 = .ok (.iload_n 3, 1) := by decide +kernel
theorem dX8_beginLate_14 : decode cX8_beginLate 14 = .ok (.iload_n 1, 1) := by decide +kernel
theorem dX8_beginLate_15 : decode cX8_beginLate 15 = .ok (.if_icmp .ne 7, 3) := by decide +kernel
theorem dX8_beginLate_18 : decode cX8_beginLate 18 = .ok (.iload_n 2, 1) := by decide +kernel
theorem dX8_beginLate_19 : decode cX8_beginLate 19 = .ok (.goto 4, 3) := by decide +kernel
theorem dX8_beginLate_22 : decode cX8_beginLate 22 = .ok (.iconst 0, 1) := by decide +kernel
theorem dX8_beginLate_23 : decode cX8_beginLate 23 = .ok (.iastore, 1) := by decide +kernel
theorem dX8_beginLate_24 : decode cX8_beginLate 24 = .ok (.iinc 3 1, 3) := by decide +kernel
theorem dX8_beginLate_27 : decode cX8_beginLate 27 = .ok (.goto (-25), 3) := by decide +kernel
theorem dX8_beginLate_30 : decode cX8_beginLate 30 = .ok (.return_, 1) := by decide +kernel
theorem dX8_goRound_0 : decode cX8_goRound 0 = .ok (.iconst 0, 1) := by decide +kernel
theorem dX8_goRound_1 : decode cX8_goRound 1 = .ok (.istore_n 3, 1) := by decide +kernel
theorem dX8_goRound_2 : decode cX8_goRound 2 = .ok (.iconst 0, 1) := by decide +kernel
theorem dX8_goRound_3 : decode cX8_goRound 3 = .ok (.istore 4, 2) := by decide +kernel
theorem dX8_goRound_5 : decode cX8_goRound 5 = .ok (.iload 4, 2) := by decide +kernel
theorem dX8_goRound_7 : decode cX8_goRound 7 = .ok (.bipush 6, 2) := by decide +kernel
theorem dX8_goRound_9 : decode cX8_goRound 9 = .ok (.if_icmp .ge 118, 3) := by decide +kernel
theorem dX8_goRound_12 : decode cX8_goRound 12 = .ok (.aload_n 0, 1) := by decide +kernel
theorem dX8_goRound_13 : decode cX8_goRound 13 = .ok (.getfield 53, 3) := by decide +kernel
theorem dX8_goRound_16 : decode cX8_goRound 16 = .ok (.iload 4, 2) := by decide +kernel
theorem dX8_goRound_18 : decode cX8_goRound 18 = .ok (.iconst 0, 1) := by decide +kernel
theorem dX8_goRound_19 : decode cX8_goRound 19 = .ok (.iastore, 1) := by decide +kernel
theorem dX8_goRound_20 : decode cX8_goRound 20 = .ok (.iconst 0, 1) := by decide +kernel
theorem dX8_goRound_21 : decode cX8_goRound 21 = .ok (.istore 5, 2) := by decide +kernel
theorem dX8_goRound_23 : decode cX8_goRound 23 = .ok (.iload 5, 2) := by decide +kernel
theorem dX8_goRound_25 : decode cX8_goRound 25 = .ok (.aload_n 1, 1) := by decide +kernel
theorem dX8_goRound_26 : decode cX8_goRound 26 = .ok (.iconst 0, 1) := by decide +kernel
theorem dX8_goRound_27 : decode cX8_goRound 27 = .ok (.iaload, 1) := by decide +kernel
theorem dX8_goRound_28 : decode cX8_goRound 28 = .ok (.if_icmp .ge 83, 3) := by decide +kernel
theorem dX8_goRound_31 : decode cX8_goRound 31 = .ok (.iload 4, 2) := by decide +kernel
theorem dX8_goRound_33 : decode cX8_goRound 33 = .ok (.aload_n 1, 1) := by decide +kernel
theorem dX8_goRound_34 : decode cX8_goRound 34 = .ok (.iconst 0, 1) := by decide +kernel
theorem dX8_goRound_35 : decode cX8_goRound 35 = .ok (.iaload, 1) := by decide +kernel
theorem dX8_goRound_36 : decode cX8_goRound 36 = .ok (.if_icmp .ge 75, 3) := by decide +kernel
theorem dX8_goRound_39 : decode cX8_goRound 39 = .ok (.aload_n 1, 1) := by decide +kernel
theorem dX8_goRound_40 : decode cX8_goRound 40 = .ok (.iload 5, 2) := by decide +kernel
theorem dX8_goRound_42 : decode cX8_goRound 42 = .ok (.iload 4, 2) := by decide +kernel
theorem dX8_goRound_44 : decode cX8_goRound 44 = .ok (.invokestatic 79, 3) := by decide +kernel
theorem dX8_goRound_47 : decode cX8_goRound 47 = .ok (.ifCond .eq 24, 3) := by decide +kernel
theorem dX8_goRound_50 : decode cX8_goRound 50 = .ok (.aload_n 0, 1) := by decide +kernel
theorem dX8_goRound_51 : decode cX8_goRound 51 = .ok (.getfield 50, 3) := by decide +kernel
theorem dX8_goRound_54 : decode cX8_goRound 54 = .ok (.iload 5, 2) := by decide +kernel
theorem dX8_goRound_56 : decode cX8_goRound 56 = .ok (.iaload, 1) := by decide +kernel
theorem dX8_goRound_57 : decode cX8_goRound 57 = .ok (.aload_n 0, 1) := by decide +kernel
theorem dX8_goRound_58 : decode cX8_goRound 58 = .ok (.aload_n 1, 1) := by decide +kernel
theorem dX8_goRound_59 : decode cX8_goRound 59 = .ok (.iload 5, 2) := by decide +kernel
theorem dX8_goRound_61 : decode cX8_goRound 61 = .ok (.iload 4, 2) := by decide +kernel
theorem dX8_goRound_63 : decode cX8_goRound 63 = .ok (.iload_n 2, 1) := by decide +kernel
theorem dX8_goRound_64 : decode cX8_goRound 64 = .ok (.invokevirtual 186, 3) := by decide +kernel
theorem dX8_goRound_67 : decode cX8_goRound 67 = .ok (.isub, 1) := by decide +kernel
theorem dX8_goRound_68 : decode cX8_goRound 68 = .ok (.goto 4, 3) := by decide +kernel
theorem dX8_goRound_71 : decode cX8_goRound 71 = .ok (.iconst 0, 1) := by decide +kernel
theorem dX8_goRound_72 : decode cX8_goRound 72 = .ok (.istore 6, 2) := by decide +kernel
theorem dX8_goRound_74 : decode cX8_goRound 74 = .ok (.aload_n 0, 1) := by decide +kernel
theorem dX8_goRound_75 : decode cX8_goRound 75 = .ok (.getfield 53, 3) := by decide +kernel
theorem dX8_goRound_78 : decode cX8_goRound 78 = .ok (.iload 4, 2) := by decide +kernel
theorem dX8_goRound_80 : decode cX8_goRound 80 = .ok (.iload 6, 2) := by decide +kernel
theorem dX8_goRound_82 : decode cX8_goRound 82 = .ok (.aload_n 0, 1) := by decide +kernel
theorem dX8_goRound_83 : decode cX8_goRound 83 = .ok (.getfield 53, 3) := by decide +kernel
theorem dX8_goRound_86 : decode cX8_goRound 86 = .ok (.iload 4, 2) := by decide +kernel
theorem dX8_goRound_88 : decode cX8_goRound 88 = .ok (.iaload, 1) := by decide +kernel
theorem dX8_goRound_89 : decode cX8_goRound 89 = .ok (.if_icmp .le 8, 3) := by decide +kernel
theorem dX8_goRound_92 : decode cX8_goRound 92 = .ok (.iload 6, 2) := by decide +kernel
theorem dX8_goRound_94 : decode cX8_goRound 94 = .ok (.goto 10, 3) := by decide +kernel
theorem dX8_goRound_97 : decode cX8_goRound 97 = .ok (.aload_n 0, 1) := by decide +kernel
theorem dX8_goRound_98 : decode cX8_goRound 98 = .ok (.getfield 53, 3) := by decide +kernel
theorem dX8_goRound_101 : decode cX8_goRound 101 = .ok (.iload 4, 2) := by decide +kernel
theorem dX8_goRound_103 : decode cX8_goRound 103 = .ok (.iaload, 1) := by decide +kernel
theorem dX8_goRound_104 : decode cX8_goRound 104 = .ok (.iastore, 1) := by decide +kernel
theorem dX8_goRound_105 : decode cX8_goRound 105 = .ok (.iinc 5 1, 3) := by decide +kernel
theorem dX8_goRound_108 : decode cX8_goRound 108 = .ok (.goto (-85), 3) := by decide +kernel
theorem dX8_goRound_111 : decode cX8_goRound 111 = .ok (.iload_n 3, 1) := by decide +kernel
theorem dX8_goRound_112 : decode cX8_goRound 112 = .ok (.aload_n 0, 1) := by decide +kernel
theorem dX8_goRound_113 : decode cX8_goRound 113 = .ok (.getfield 53, 3) := by decide +kernel
theorem dX8_goRound_116 : decode cX8_goRound 116 = .ok (.iload 4, 2) := by decide +kernel
theorem dX8_goRound_118 : decode cX8_goRound 118 = .ok (.iaload, 1) := by decide +kernel
theorem dX8_goRound_119 : decode cX8_goRound 119 = .ok (.iadd, 1) := by decide +kernel
theorem dX8_goRound_120 : decode cX8_goRound 120 = .ok (.istore_n 3, 1) := by decide +kernel
theorem dX8_goRound_121 : decode cX8_goRound 121 = .ok (.iinc 4 1, 3) := by decide +kernel
theorem dX8_goRound_124 : decode cX8_goRound 124 = .ok (.goto (-119), 3) := by decide +kernel
theorem dX8_goRound_127 : decode cX8_goRound 127 = .ok (.iconst 0, 1) := by decide +kernel
theorem dX8_goRound_128 : decode cX8_goRound 128 = .ok (.istore 4, 2) := by decide +kernel
theorem dX8_goRound_130 : decode cX8_goRound 130 = .ok (.iload 4, 2) := by decide +kernel
theorem dX8_goRound_132 : decode cX8_goRound 132 = .ok (.bipush 6, 2) := by decide +kernel
theorem dX8_goRound_134 : decode cX8_goRound 134 = .ok (.if_icmp .ge 23, 3) := by decide +kernel
theorem dX8_goRound_137 : decode cX8_goRound 137 = .ok (.aload_n 0, 1) := by decide +kernel
theorem dX8_goRound_138 : decode cX8_goRound 138 = .ok (.getfield 50, 3) := by decide +kernel
theorem dX8_goRound_141 : decode cX8_goRound 141 = .ok (.iload 4, 2) := by decide +kernel
theorem dX8_goRound_143 : decode cX8_goRound 143 = .ok (.aload_n 0, 1) := by decide +kernel
theorem dX8_goRound_144 : decode cX8_goRound 144 = .ok (.getfield 53, 3) := by decide +kernel
theorem dX8_goRound_147 : decode cX8_goRound 147 = .ok (.iload 4, 2) := by decide +kernel
theorem dX8_goRound_149 : decode cX8_goRound 149 = .ok (.iaload, 1) := by decide +kernel
theorem dX8_goRound_150 : decode cX8_goRound 150 = .ok (.iastore, 1) := by decide +kernel
theorem dX8_goRound_151 : decode cX8_goRound 151 = .ok (.iinc 4 1, 3) := by decide +kernel
theorem dX8_goRound_154 : decode cX8_goRound 154 = .ok (.goto (-24), 3) := by decide +kernel
theorem dX8_goRound_157 : decode cX8_goRound 157 = .ok (.iload_n 3, 1) := by decide +kernel
theorem dX8_goRound_158 : decode cX8_goRound 158 = .ok (.ireturn, 1) := by decide +kernel
theorem dX8_late_0 : decode cX8_late 0 = .ok (.aload_n 0, 1) := by decide +kernel
theorem dX8_late_1 : decode cX8_late 1 = .ok (.iconst 0, 1) := by decide +kernel
theorem dX8_late_2 : decode cX8_late 2 = .ok (.putfield 59, 3) := by decide +kernel
theorem dX8_late_5 : decode cX8_late 5 = .ok (.aload_n 0, 1) := by decide +kernel
theorem dX8_late_6 : decode cX8_late 6 = .ok (.iload_n 1, 1) := by decide +kernel
theorem dX8_late_7 : decode cX8_late 7 = .ok (.invokevirtual 164, 3) := by decide +kernel
theorem dX8_late_10 : decode cX8_late 10 = .ok (.ifCond .ne 12, 3) := by decide +kernel
theorem dX8_late_13 : decode cX8_late 13 = .ok (.aload_n 0, 1) := by decide +kernel
theorem dX8_late_14 : decode cX8_late 14 = .ok (.iload 4, 2) := by decide +kernel
theorem dX8_late_16 : decode cX8_late 16 = .ok (.invokevirtual 164, 3) := by decide +kernel
theorem dX8_late_19 : decode cX8_late 19 = .ok (.ifCond .eq 5, 3) := by decide +kernel
theorem dX8_late_22 : decode cX8_late 22 = .ok (.iconst (-1), 1) := by decide +kernel
theorem dX8_late_23 : decode cX8_late 23 = .ok (.ireturn, 1) := by decide +kernel
theorem dX8_late_24 : decode cX8_late 24 = .ok (.iload_n 2, 1) := by decide +kernel
theorem dX8_late_25 : decode cX8_late 25 = .ok (.i2l, 1) := by decide +kernel
theorem dX8_late_26 : decode cX8_late 26 = .ok (.lconst 1, 1) := by decide +kernel
theorem dX8_late_27 : decode cX8_late 27 = .ok (.ldc2_w 190, 3) := by decide +kernel
theorem dX8_late_30 : decode cX8_late 30 = .ok (.invokestatic 63, 3) := by decide +kernel
theorem dX8_late_33 : decode cX8_late 33 = .ok (.ifCond .eq 28, 3) := by decide +kernel
theorem dX8_late_36 : decode cX8_late 36 = .ok (.iload_n 3, 1) := by decide +kernel
theorem dX8_late_37 : decode cX8_late 37 = .ok (.i2l, 1) := by decide +kernel
theorem dX8_late_38 : decode cX8_late 38 = .ok (.lconst 0, 1) := by decide +kernel
theorem dX8_late_39 : decode cX8_late 39 = .ok (.ldc2_w 181, 3) := by decide +kernel
theorem dX8_late_42 : decode cX8_late 42 = .ok (.invokestatic 63, 3) := by decide +kernel
theorem dX8_late_45 : decode cX8_late 45 = .ok (.ifCond .eq 16, 3) := by decide +kernel
theorem dX8_late_48 : decode cX8_late 48 = .ok (.iload 5, 2) := by decide +kernel
theorem dX8_late_50 : decode cX8_late 50 = .ok (.i2l, 1) := by decide +kernel
theorem dX8_late_51 : decode cX8_late 51 = .ok (.lconst 0, 1) := by decide +kernel
theorem dX8_late_52 : decode cX8_late 52 = .ok (.ldc2_w 192, 3) := by decide +kernel
theorem dX8_late_55 : decode cX8_late 55 = .ok (.invokestatic 63, 3) := by decide +kernel
theorem dX8_late_58 : decode cX8_late 58 = .ok (.ifCond .ne 6, 3) := by decide +kernel
theorem dX8_late_61 : decode cX8_late 61 = .ok (.bipush (-2), 2) := by decide +kernel
theorem dX8_late_63 : decode cX8_late 63 = .ok (.ireturn, 1) := by decide +kernel
theorem dX8_late_64 : decode cX8_late 64 = .ok (.aload_n 0, 1) := by decide +kernel
theorem dX8_late_65 : decode cX8_late 65 = .ok (.aload_n 0, 1) := by decide +kernel
theorem dX8_late_66 : decode cX8_late 66 = .ok (.getfield 16, 3) := by decide +kernel
theorem dX8_late_69 : decode cX8_late 69 = .ok (.iload_n 3, 1) := by decide +kernel
theorem dX8_late_70 : decode cX8_late 70 = .ok (.invokevirtual 150, 3) := by decide +kernel
theorem dX8_late_73 : decode cX8_late 73 = .ok (.ifCond .ne 6, 3) := by decide +kernel
theorem dX8_late_76 : decode cX8_late 76 = .ok (.bipush (-3), 2) := by decide +kernel
theorem dX8_late_78 : decode cX8_late 78 = .ok (.ireturn, 1) := by decide +kernel
theorem dX8_late_79 : decode cX8_late 79 = .ok (.aload_n 0, 1) := by decide +kernel
theorem dX8_late_80 : decode cX8_late 80 = .ok (.aload_n 0, 1) := by decide +kernel
theorem dX8_late_81 : decode cX8_late 81 = .ok (.getfield 16, 3) := by decide +kernel
theorem dX8_late_84 : decode cX8_late 84 = .ok (.iload_n 3, 1) := by decide +kernel
theorem dX8_late_85 : decode cX8_late 85 = .ok (.invokevirtual 183, 3) := by decide +kernel
theorem dX8_late_88 : decode cX8_late 88 = .ok (.aload_n 0, 1) := by decide +kernel
theorem dX8_late_89 : decode cX8_late 89 = .ok (.iload_n 1, 1) := by decide +kernel
theorem dX8_late_90 : decode cX8_late 90 = .ok (.iload_n 2, 1) := by decide +kernel
theorem dX8_late_91 : decode cX8_late 91 = .ok (.invokevirtual 194, 3) := by decide +kernel
theorem dX8_late_94 : decode cX8_late 94 = .ok (.iconst 0, 1) := by decide +kernel
theorem dX8_late_95 : decode cX8_late 95 = .ok (.istore 6, 2) := by decide +kernel
theorem dX8_late_97 : decode cX8_late 97 = .ok (.iload 6, 2) := by decide +kernel
theorem dX8_late_99 : decode cX8_late 99 = .ok (.iload 5, 2) := by decide +kernel
theorem dX8_late_101 : decode cX8_late 101 = .ok (.if_icmp .ge 19, 3) := by decide +kernel
theorem dX8_late_104 : decode cX8_late 104 = .ok (.aload_n 0, 1) := by decide +kernel
theorem dX8_late_105 : decode cX8_late 105 = .ok (.aload_n 0, 1) := by decide +kernel
theorem dX8_late_106 : decode cX8_late 106 = .ok (.getfield 16, 3) := by decide +kernel
theorem dX8_late_109 : decode cX8_late 109 = .ok (.iload_n 3, 1) := by decide +kernel
theorem dX8_late_110 : decode cX8_late 110 = .ok (.invokevirtual 198, 3) := by decide +kernel
theorem dX8_late_113 : decode cX8_late 113 = .ok (.pop, 1) := by decide +kernel
theorem dX8_late_114 : decode cX8_late 114 = .ok (.iinc 6 1, 3) := by decide +kernel
theorem dX8_late_117 : decode cX8_late 117 = .ok (.goto (-20), 3) := by decide +kernel
theorem dX8_late_120 : decode cX8_late 120 = .ok (.aload_n 0, 1) := by decide +kernel
theorem dX8_late_121 : decode cX8_late 121 = .ok (.getfield 50, 3) := by decide +kernel
theorem dX8_late_124 : decode cX8_late 124 = .ok (.iload 4, 2) := by decide +kernel
theorem dX8_late_126 : decode cX8_late 126 = .ok (.iaload, 1) := by decide +kernel
theorem dX8_late_127 : decode cX8_late 127 = .ok (.ireturn, 1) := by decide +kernel
theorem dX8_diesOf_0 : decode cX8_diesOf 0 = .ok (.aload_n 0, 1) := by decide +kernel
theorem dX8_diesOf_1 : decode cX8_diesOf 1 = .ok (.aload_n 1, 1) := by decide +kernel
theorem dX8_diesOf_2 : decode cX8_diesOf 2 = .ok (.iload 4, 2) := by decide +kernel
theorem dX8_diesOf_4 : decode cX8_diesOf 4 = .ok (.invokevirtual 183, 3) := by decide +kernel
theorem dX8_diesOf_7 : decode cX8_diesOf 7 = .ok (.aload_n 0, 1) := by decide +kernel
theorem dX8_diesOf_8 : decode cX8_diesOf 8 = .ok (.iload_n 2, 1) := by decide +kernel
theorem dX8_diesOf_9 : decode cX8_diesOf 9 = .ok (.iload_n 3, 1) := by decide +kernel
theorem dX8_diesOf_10 : decode cX8_diesOf 10 = .ok (.invokevirtual 194, 3) := by decide +kernel
theorem dX8_diesOf_13 : decode cX8_diesOf 13 = .ok (.iconst 1, 1) := by decide +kernel
theorem dX8_diesOf_14 : decode cX8_diesOf 14 = .ok (.istore 5, 2) := by decide +kernel
theorem dX8_diesOf_16 : decode cX8_diesOf 16 = .ok (.iload 5, 2) := by decide +kernel
theorem dX8_diesOf_18 : decode cX8_diesOf 18 = .ok (.bipush 40, 2) := by decide +kernel
theorem dX8_diesOf_20 : decode cX8_diesOf 20 = .ok (.if_icmp .gt 22, 3) := by decide +kernel
theorem dX8_diesOf_23 : decode cX8_diesOf 23 = .ok (.aload_n 0, 1) := by decide +kernel
theorem dX8_diesOf_24 : decode cX8_diesOf 24 = .ok (.aload_n 1, 1) := by decide +kernel
theorem dX8_diesOf_25 : decode cX8_diesOf 25 = .ok (.iload 4, 2) := by decide +kernel
theorem dX8_diesOf_27 : decode cX8_diesOf 27 = .ok (.invokevirtual 198, 3) := by decide +kernel
theorem dX8_diesOf_30 : decode cX8_diesOf 30 = .ok (.ifCond .ne 6, 3) := by decide +kernel
theorem dX8_diesOf_33 : decode cX8_diesOf 33 = .ok (.iload 5, 2) := by decide +kernel
theorem dX8_diesOf_35 : decode cX8_diesOf 35 = .ok (.ireturn, 1) := by decide +kernel
theorem dX8_diesOf_36 : decode cX8_diesOf 36 = .ok (.iinc 5 1, 3) := by decide +kernel
theorem dX8_diesOf_39 : decode cX8_diesOf 39 = .ok (.goto (-23), 3) := by decide +kernel
theorem dX8_diesOf_42 : decode cX8_diesOf 42 = .ok (.bipush (-9), 2) := by decide +kernel
theorem dX8_diesOf_44 : decode cX8_diesOf 44 = .ok (.ireturn, 1) := by decide +kernel
theorem dX8_dies_0 : decode cX8_dies 0 = .ok (.aload_n 0, 1) := by decide +kernel
theorem dX8_dies_1 : decode cX8_dies 1 = .ok (.iconst 0, 1) := by decide +kernel
theorem dX8_dies_2 : decode cX8_dies 2 = .ok (.putfield 59, 3) := by decide +kernel
theorem dX8_dies_5 : decode cX8_dies 5 = .ok (.aload_n 0, 1) := by decide +kernel
theorem dX8_dies_6 : decode cX8_dies 6 = .ok (.iload_n 1, 1) := by decide +kernel
theorem dX8_dies_7 : decode cX8_dies 7 = .ok (.invokevirtual 164, 3) := by decide +kernel
theorem dX8_dies_10 : decode cX8_dies 10 = .ok (.ifCond .eq 5, 3) := by decide +kernel
theorem dX8_dies_13 : decode cX8_dies 13 = .ok (.iconst (-1), 1) := by decide +kernel
theorem dX8_dies_14 : decode cX8_dies 14 = .ok (.ireturn, 1) := by decide +kernel
theorem dX8_dies_15 : decode cX8_dies 15 = .ok (.iload_n 2, 1) := by decide +kernel
theorem dX8_dies_16 : decode cX8_dies 16 = .ok (.i2l, 1) := by decide +kernel
theorem dX8_dies_17 : decode cX8_dies 17 = .ok (.lconst 1, 1) := by decide +kernel
theorem dX8_dies_18 : decode cX8_dies 18 = .ok (.ldc2_w 190, 3) := by decide +kernel
theorem dX8_dies_21 : decode cX8_dies 21 = .ok (.invokestatic 63, 3) := by decide +kernel
theorem dX8_dies_24 : decode cX8_dies 24 = .ok (.ifCond .eq 15, 3) := by decide +kernel
theorem dX8_dies_27 : decode cX8_dies 27 = .ok (.iload_n 3, 1) := by decide +kernel
theorem dX8_dies_28 : decode cX8_dies 28 = .ok (.i2l, 1) := by decide +kernel
theorem dX8_dies_29 : decode cX8_dies 29 = .ok (.lconst 0, 1) := by decide +kernel
theorem dX8_dies_30 : decode cX8_dies 30 = .ok (.ldc2_w 181, 3) := by decide +kernel
theorem dX8_dies_33 : decode cX8_dies 33 = .ok (.invokestatic 63, 3) := by decide +kernel
theorem dX8_dies_36 : decode cX8_dies 36 = .ok (.ifCond .ne 6, 3) := by decide +kernel
theorem dX8_dies_39 : decode cX8_dies 39 = .ok (.bipush (-2), 2) := by decide +kernel
theorem dX8_dies_41 : decode cX8_dies 41 = .ok (.ireturn, 1) := by decide +kernel
theorem dX8_dies_42 : decode cX8_dies 42 = .ok (.aload_n 0, 1) := by decide +kernel
theorem dX8_dies_43 : decode cX8_dies 43 = .ok (.aload_n 0, 1) := by decide +kernel
theorem dX8_dies_44 : decode cX8_dies 44 = .ok (.getfield 16, 3) := by decide +kernel
theorem dX8_dies_47 : decode cX8_dies 47 = .ok (.iload_n 3, 1) := by decide +kernel
theorem dX8_dies_48 : decode cX8_dies 48 = .ok (.invokevirtual 150, 3) := by decide +kernel
theorem dX8_dies_51 : decode cX8_dies 51 = .ok (.ifCond .eq 17, 3) := by decide +kernel
theorem dX8_dies_54 : decode cX8_dies 54 = .ok (.aload_n 0, 1) := by decide +kernel
theorem dX8_dies_55 : decode cX8_dies 55 = .ok (.aload_n 0, 1) := by decide +kernel
theorem dX8_dies_56 : decode cX8_dies 56 = .ok (.getfield 16, 3) := by decide +kernel
theorem dX8_dies_59 : decode cX8_dies 59 = .ok (.iload_n 1, 1) := by decide +kernel
theorem dX8_dies_60 : decode cX8_dies 60 = .ok (.iload_n 2, 1) := by decide +kernel
theorem dX8_dies_61 : decode cX8_dies 61 = .ok (.iload_n 3, 1) := by decide +kernel
theorem dX8_dies_62 : decode cX8_dies 62 = .ok (.invokevirtual 201, 3) := by decide +kernel
theorem dX8_dies_65 : decode cX8_dies 65 = .ok (.goto 5, 3) := by decide +kernel
theorem dX8_dies_68 : decode cX8_dies 68 = .ok (.bipush (-3), 2) := by decide +kernel
theorem dX8_dies_70 : decode cX8_dies 70 = .ok (.ireturn, 1) := by decide +kernel
theorem dX8_begin_0 : decode cX8_begin 0 = .ok (.iconst 0, 1) := by decide +kernel
theorem dX8_begin_1 : decode cX8_begin 1 = .ok (.istore_n 1, 1) := by decide +kernel
theorem dX8_begin_2 : decode cX8_begin 2 = .ok (.iload_n 1, 1) := by decide +kernel
theorem dX8_begin_3 : decode cX8_begin 3 = .ok (.bipush 37, 2) := by decide +kernel
theorem dX8_begin_5 : decode cX8_begin 5 = .ok (.if_icmp .ge 21, 3) := by decide +kernel
theorem dX8_begin_8 : decode cX8_begin 8 = .ok (.aload_n 0, 1) := by decide +kernel
theorem dX8_begin_9 : decode cX8_begin 9 = .ok (.getfield 19, 3) := by decide +kernel
theorem dX8_begin_12 : decode cX8_begin 12 = .ok (.iload_n 1, 1) := by decide +kernel
theorem dX8_begin_13 : decode cX8_begin 13 = .ok (.aload_n 0, 1) := by decide +kernel
theorem dX8_begin_14 : decode cX8_begin 14 = .ok (.getfield 16, 3) := by decide +kernel
theorem dX8_begin_17 : decode cX8_begin 17 = .ok (.iload_n 1, 1) := by decide +kernel
theorem dX8_begin_18 : decode cX8_begin 18 = .ok (.iaload, 1) := by decide +kernel
theorem dX8_begin_19 : decode cX8_begin 19 = .ok (.iastore, 1) := by decide +kernel
theorem dX8_begin_20 : decode cX8_begin 20 = .ok (.iinc 1 1, 3) := by decide +kernel
theorem dX8_begin_23 : decode cX8_begin 23 = .ok (.goto (-21), 3) := by decide +kernel
theorem dX8_begin_26 : decode cX8_begin 26 = .ok (.return_, 1) := by decide +kernel
theorem dX8_sixtiethsOf_0 : decode cX8_sixtiethsOf 0 = .ok (.aload_n 0, 1) := by decide +kernel
theorem dX8_sixtiethsOf_1 : decode cX8_sixtiethsOf 1 = .ok (.aload_n 1, 1) := by decide +kernel
theorem dX8_sixtiethsOf_2 : decode cX8_sixtiethsOf 2 = .ok (.iload_n 2, 1) := by decide +kernel
theorem dX8_sixtiethsOf_3 : decode cX8_sixtiethsOf 3 = .ok (.invokevirtual 143, 3) := by decide +kernel
theorem dX8_sixtiethsOf_6 : decode cX8_sixtiethsOf 6 = .ok (.aload_n 0, 1) := by decide +kernel
theorem dX8_sixtiethsOf_7 : decode cX8_sixtiethsOf 7 = .ok (.getfield 116, 3) := by decide +kernel
theorem dX8_sixtiethsOf_10 : decode cX8_sixtiethsOf 10 = .ok (.ifCond .ne 7, 3) := by decide +kernel
theorem dX8_sixtiethsOf_13 : decode cX8_sixtiethsOf 13 = .ok (.iconst (-1), 1) := by decide +kernel
theorem dX8_sixtiethsOf_14 : decode cX8_sixtiethsOf 14 = .ok (.goto 15, 3) := by decide +kernel
theorem dX8_sixtiethsOf_17 : decode cX8_sixtiethsOf 17 = .ok (.bipush 60, 2) := by decide +kernel
theorem dX8_sixtiethsOf_19 : decode cX8_sixtiethsOf 19 = .ok (.aload_n 0, 1) := by decide +kernel
theorem dX8_sixtiethsOf_20 : decode cX8_sixtiethsOf 20 = .ok (.getfield 116, 3) := by decide +kernel
theorem dX8_sixtiethsOf_23 : decode cX8_sixtiethsOf 23 = .ok (.idiv, 1) := by decide +kernel
theorem dX8_sixtiethsOf_24 : decode cX8_sixtiethsOf 24 = .ok (.aload_n 0, 1) := by decide +kernel
theorem dX8_sixtiethsOf_25 : decode cX8_sixtiethsOf 25 = .ok (.getfield 119, 3) := by decide +kernel
theorem dX8_sixtiethsOf_28 : decode cX8_sixtiethsOf 28 = .ok (.imul, 1) := by decide +kernel
theorem dX8_sixtiethsOf_29 : decode cX8_sixtiethsOf 29 = .ok (.ireturn, 1) := by decide +kernel
theorem dX8_best_0 : decode cX8_best 0 = .ok (.aload_n 0, 1) := by decide +kernel
theorem dX8_best_1 : decode cX8_best 1 = .ok (.iconst 0, 1) := by decide +kernel
theorem dX8_best_2 : decode cX8_best 2 = .ok (.putfield 59, 3) := by decide +kernel
theorem dX8_best_5 : decode cX8_best 5 = .ok (.iload_n 1, 1) := by decide +kernel
theorem dX8_best_6 : decode cX8_best 6 = .ok (.i2l, 1) := by decide +kernel
theorem dX8_best_7 : decode cX8_best 7 = .ok (.lconst 0, 1) := by decide +kernel
theorem dX8_best_8 : decode cX8_best 8 = .ok (.lconst 1, 1) := by decide +kernel
theorem dX8_best_9 : decode cX8_best 9 = .ok (.invokestatic 63, 3) := by decide +kernel
theorem dX8_best_12 : decode cX8_best 12 = .ok (.ifCond .ne 6, 3) := by decide +kernel
theorem dX8_best_15 : decode cX8_best 15 = .ok (.bipush (-2), 2) := by decide +kernel
theorem dX8_best_17 : decode cX8_best 17 = .ok (.ireturn, 1) := by decide +kernel
theorem dX8_best_18 : decode cX8_best 18 = .ok (.bipush (-9), 2) := by decide +kernel
theorem dX8_best_20 : decode cX8_best 20 = .ok (.istore_n 2, 1) := by decide +kernel
theorem dX8_best_21 : decode cX8_best 21 = .ok (.iconst 0, 1) := by decide +kernel
theorem dX8_best_22 : decode cX8_best 22 = .ok (.istore_n 3, 1) := by decide +kernel
theorem dX8_best_23 : decode cX8_best 23 = .ok (.iconst 0, 1) := by decide +kernel
theorem dX8_best_24 : decode cX8_best 24 = .ok (.istore 4, 2) := by decide +kernel
theorem dX8_best_26 : decode cX8_best 26 = .ok (.iload 4, 2) := by decide +kernel
theorem dX8_best_28 : decode cX8_best 28 = .ok (.bipush 36, 2) := by decide +kernel
theorem dX8_best_30 : decode cX8_best 30 = .ok (.if_icmp .ge 123, 3) := by decide +kernel
theorem dX8_best_33 : decode cX8_best 33 = .ok (.aload_n 0, 1) := by decide +kernel
theorem dX8_best_34 : decode cX8_best 34 = .ok (.getfield 16, 3) := by decide +kernel
theorem dX8_best_37 : decode cX8_best 37 = .ok (.iconst 1, 1) := by decide +kernel
theorem dX8_best_38 : decode cX8_best 38 = .ok (.iload 4, 2) := by decide +kernel
theorem dX8_best_40 : decode cX8_best 40 = .ok (.iadd, 1) := by decide +kernel
theorem dX8_best_41 : decode cX8_best 41 = .ok (.iaload, 1) := by decide +kernel
theorem dX8_best_42 : decode cX8_best 42 = .ok (.iconst 1, 1) := by decide +kernel
theorem dX8_best_43 : decode cX8_best 43 = .ok (.iload_n 1, 1) := by decide +kernel
theorem dX8_best_44 : decode cX8_best 44 = .ok (.isub, 1) := by decide +kernel
theorem dX8_best_45 : decode cX8_best 45 = .ok (.if_icmp .le 102, 3) := by decide +kernel
theorem dX8_best_48 : decode cX8_best 48 = .ok (.aload_n 0, 1) := by decide +kernel
theorem dX8_best_49 : decode cX8_best 49 = .ok (.invokevirtual 204, 3) := by decide +kernel
theorem dX8_best_52 : decode cX8_best 52 = .ok (.aload_n 0, 1) := by decide +kernel
theorem dX8_best_53 : decode cX8_best 53 = .ok (.getfield 19, 3) := by decide +kernel
theorem dX8_best_56 : decode cX8_best 56 = .ok (.iconst 1, 1) := by decide +kernel
theorem dX8_best_57 : decode cX8_best 57 = .ok (.iload 4, 2) := by decide +kernel
theorem dX8_best_59 : decode cX8_best 59 = .ok (.iadd, 1) := by decide +kernel
theorem dX8_best_60 : decode cX8_best 60 = .ok (.iload_n 1, 1) := by decide +kernel
theorem dX8_best_61 : decode cX8_best 61 = .ok (.ifCond .ne 17, 3) := by decide +kernel
theorem dX8_best_64 : decode cX8_best 64 = .ok (.aload_n 0, 1) := by decide +kernel
theorem dX8_best_65 : decode cX8_best 65 = .ok (.getfield 19, 3) := by decide +kernel
theorem dX8_best_68 : decode cX8_best 68 = .ok (.iconst 1, 1) := by decide +kernel
theorem dX8_best_69 : decode cX8_best 69 = .ok (.iload 4, 2) := by decide +kernel
theorem dX8_best_71 : decode cX8_best 71 = .ok (.iadd, 1) := by decide +kernel
theorem dX8_best_72 : decode cX8_best 72 = .ok (.iaload, 1) := by decide +kernel
theorem dX8_best_73 : decode cX8_best 73 = .ok (.iconst 1, 1) := by decide +kernel
theorem dX8_best_74 : decode cX8_best 74 = .ok (.isub, 1) := by decide +kernel
theorem dX8_best_75 : decode cX8_best 75 = .ok (.goto 4, 3) := by decide +kernel
theorem dX8_best_78 : decode cX8_best 78 = .ok (.iconst 0, 1) := by decide +kernel
theorem dX8_best_79 : decode cX8_best 79 = .ok (.iastore, 1) := by decide +kernel
theorem dX8_best_80 : decode cX8_best 80 = .ok (.aload_n 0, 1) := by decide +kernel
theorem dX8_best_81 : decode cX8_best 81 = .ok (.aload_n 0, 1) := by decide +kernel
theorem dX8_best_82 : decode cX8_best 82 = .ok (.getfield 19, 3) := by decide +kernel
theorem dX8_best_85 : decode cX8_best 85 = .ok (.bipush 63, 2) := by decide +kernel
theorem dX8_best_87 : decode cX8_best 87 = .ok (.invokevirtual 207, 3) := by decide +kernel
theorem dX8_best_90 : decode cX8_best 90 = .ok (.istore 5, 2) := by decide +kernel
theorem dX8_best_92 : decode cX8_best 92 = .ok (.iload_n 2, 1) := by decide +kernel
theorem dX8_best_93 : decode cX8_best 93 = .ok (.bipush (-9), 2) := by decide +kernel
theorem dX8_best_95 : decode cX8_best 95 = .ok (.if_icmp .eq 9, 3) := by decide +kernel
theorem dX8_best_98 : decode cX8_best 98 = .ok (.iload 5, 2) := by decide +kernel
theorem dX8_best_100 : decode cX8_best 100 = .ok (.iload_n 3, 1) := by decide +kernel
theorem dX8_best_101 : decode cX8_best 101 = .ok (.if_icmp .ge 7, 3) := by decide +kernel
theorem dX8_best_104 : decode cX8_best 104 = .ok (.iconst 1, 1) := by decide +kernel
theorem dX8_best_105 : decode cX8_best 105 = .ok (.goto 4, 3) := by decide +kernel
theorem dX8_best_108 : decode cX8_best 108 = .ok (.iconst 0, 1) := by decide +kernel
theorem dX8_best_109 : decode cX8_best 109 = .ok (.istore 6, 2) := by decide +kernel
theorem dX8_best_111 : decode cX8_best 111 = .ok (.iload 6, 2) := by decide +kernel
theorem dX8_best_113 : decode cX8_best 113 = .ok (.ifCond .eq 20, 3) := by decide +kernel
theorem dX8_best_116 : decode cX8_best 116 = .ok (.bipush 10, 2) := by decide +kernel
theorem dX8_best_118 : decode cX8_best 118 = .ok (.iload 4, 2) := by decide +kernel
theorem dX8_best_120 : decode cX8_best 120 = .ok (.bipush 6, 2) := by decide +kernel
theorem dX8_best_122 : decode cX8_best 122 = .ok (.idiv, 1) := by decide +kernel
theorem dX8_best_123 : decode cX8_best 123 = .ok (.imul, 1) := by decide +kernel
theorem dX8_best_124 : decode cX8_best 124 = .ok (.iload 4, 2) := by decide +kernel
theorem dX8_best_126 : decode cX8_best 126 = .ok (.bipush 6, 2) := by decide +kernel
theorem dX8_best_128 : decode cX8_best 128 = .ok (.irem, 1) := by decide +kernel
theorem dX8_best_129 : decode cX8_best 129 = .ok (.iadd, 1) := by decide +kernel
theorem dX8_best_130 : decode cX8_best 130 = .ok (.goto 4, 3) := by decide +kernel
theorem dX8_best_133 : decode cX8_best 133 = .ok (.iload_n 2, 1) := by decide +kernel
theorem dX8_best_134 : decode cX8_best 134 = .ok (.istore_n 2, 1) := by decide +kernel
theorem dX8_best_135 : decode cX8_best 135 = .ok (.iload 6, 2) := by decide +kernel
theorem dX8_best_137 : decode cX8_best 137 = .ok (.ifCond .eq 8, 3) := by decide +kernel
theorem dX8_best_140 : decode cX8_best 140 = .ok (.iload 5, 2) := by decide +kernel
theorem dX8_best_142 : decode cX8_best 142 = .ok (.goto 4, 3) := by decide +kernel
theorem dX8_best_145 : decode cX8_best 145 = .ok (.iload_n 3, 1) := by decide +kernel
theorem dX8_best_146 : decode cX8_best 146 = .ok (.istore_n 3, 1) := by decide +kernel
theorem dX8_best_147 : decode cX8_best 147 = .ok (.iinc 4 1, 3) := by decide +kernel
theorem dX8_best_150 : decode cX8_best 150 = .ok (.goto (-124), 3) := by decide +kernel
theorem dX8_best_153 : decode cX8_best 153 = .ok (.iload_n 2, 1) := by decide +kernel
theorem dX8_best_154 : decode cX8_best 154 = .ok (.ireturn, 1) := by decide +kernel
theorem dX8_longPower_0 : decode cX8_longPower 0 = .ok (.lconst 1, 1) := by decide +kernel
theorem dX8_longPower_1 : decode cX8_longPower 1 = .ok (.lstore_n 3, 1) := by decide +kernel
theorem dX8_longPower_2 : decode cX8_longPower 2 = .ok (.iconst 0, 1) := by decide +kernel
theorem dX8_longPower_3 : decode cX8_longPower 3 = .ok (.istore 5, 2) := by decide +kernel
theorem dX8_longPower_5 : decode cX8_longPower 5 = .ok (.iload 5, 2) := by decide +kernel
theorem dX8_longPower_7 : decode cX8_longPower 7 = .ok (.iload_n 2, 1) := by decide +kernel
theorem dX8_longPower_8 : decode cX8_longPower 8 = .ok (.if_icmp .ge 13, 3) := by decide +kernel
theorem dX8_longPower_11 : decode cX8_longPower 11 = .ok (.lload_n 3, 1) := by decide +kernel
theorem dX8_longPower_12 : decode cX8_longPower 12 = .ok (.lload_n 0, 1) := by decide +kernel
theorem dX8_longPower_13 : decode cX8_longPower 13 = .ok (.lmul, 1) := by decide +kernel
theorem dX8_longPower_14 : decode cX8_longPower 14 = .ok (.lstore_n 3, 1) := by decide +kernel
theorem dX8_longPower_15 : decode cX8_longPower 15 = .ok (.iinc 5 1, 3) := by decide +kernel
theorem dX8_longPower_18 : decode cX8_longPower 18 = .ok (.goto (-13), 3) := by decide +kernel
theorem dX8_longPower_21 : decode cX8_longPower 21 = .ok (.lload_n 3, 1) := by decide +kernel
theorem dX8_longPower_22 : decode cX8_longPower 22 = .ok (.lreturn, 1) := by decide +kernel
theorem dX8_sets_0 : decode cX8_sets 0 = .ok (.iload_n 1, 1) := by decide +kernel
theorem dX8_sets_1 : decode cX8_sets 1 = .ok (.aload_n 0, 1) := by decide +kernel
theorem dX8_sets_2 : decode cX8_sets 2 = .ok (.getfield 19, 3) := by decide +kernel
theorem dX8_sets_5 : decode cX8_sets 5 = .ok (.iconst 0, 1) := by decide +kernel
theorem dX8_sets_6 : decode cX8_sets 6 = .ok (.iaload, 1) := by decide +kernel
theorem dX8_sets_7 : decode cX8_sets 7 = .ok (.if_icmp .ge 30, 3) := by decide +kernel
theorem dX8_sets_10 : decode cX8_sets 10 = .ok (.iload_n 2, 1) := by decide +kernel
theorem dX8_sets_11 : decode cX8_sets 11 = .ok (.aload_n 0, 1) := by decide +kernel
theorem dX8_sets_12 : decode cX8_sets 12 = .ok (.getfield 19, 3) := by decide +kernel
theorem dX8_sets_15 : decode cX8_sets 15 = .ok (.iconst 0, 1) := by decide +kernel
theorem dX8_sets_16 : decode cX8_sets 16 = .ok (.iaload, 1) := by decide +kernel
theorem dX8_sets_17 : decode cX8_sets 17 = .ok (.if_icmp .ge 20, 3) := by decide +kernel
theorem dX8_sets_20 : decode cX8_sets 20 = .ok (.aload_n 0, 1) := by decide +kernel
theorem dX8_sets_21 : decode cX8_sets 21 = .ok (.getfield 19, 3) := by decide +kernel
theorem dX8_sets_24 : decode cX8_sets 24 = .ok (.iload_n 1, 1) := by decide +kernel
theorem dX8_sets_25 : decode cX8_sets 25 = .ok (.iload_n 2, 1) := by decide +kernel
theorem dX8_sets_26 : decode cX8_sets 26 = .ok (.invokestatic 79, 3) := by decide +kernel
theorem dX8_sets_29 : decode cX8_sets 29 = .ok (.iload_n 3, 1) := by decide +kernel
theorem dX8_sets_30 : decode cX8_sets 30 = .ok (.if_icmp .ne 7, 3) := by decide +kernel
theorem dX8_sets_33 : decode cX8_sets 33 = .ok (.iconst 1, 1) := by decide +kernel
theorem dX8_sets_34 : decode cX8_sets 34 = .ok (.goto 4, 3) := by decide +kernel
theorem dX8_sets_37 : decode cX8_sets 37 = .ok (.iconst 0, 1) := by decide +kernel
theorem dX8_sets_38 : decode cX8_sets 38 = .ok (.istore 5, 2) := by decide +kernel
theorem dX8_sets_40 : decode cX8_sets 40 = .ok (.iload 5, 2) := by decide +kernel
theorem dX8_sets_42 : decode cX8_sets 42 = .ok (.ifCond .eq 18, 3) := by decide +kernel
theorem dX8_sets_45 : decode cX8_sets 45 = .ok (.aload_n 0, 1) := by decide +kernel
theorem dX8_sets_46 : decode cX8_sets 46 = .ok (.getfield 19, 3) := by decide +kernel
theorem dX8_sets_49 : decode cX8_sets 49 = .ok (.iconst 1, 1) := by decide +kernel
theorem dX8_sets_50 : decode cX8_sets 50 = .ok (.bipush 6, 2) := by decide +kernel
theorem dX8_sets_52 : decode cX8_sets 52 = .ok (.iload_n 1, 1) := by decide +kernel
theorem dX8_sets_53 : decode cX8_sets 53 = .ok (.imul, 1) := by decide +kernel
theorem dX8_sets_54 : decode cX8_sets 54 = .ok (.iadd, 1) := by decide +kernel
theorem dX8_sets_55 : decode cX8_sets 55 = .ok (.iload_n 2, 1) := by decide +kernel
theorem dX8_sets_56 : decode cX8_sets 56 = .ok (.iadd, 1) := by decide +kernel
theorem dX8_sets_57 : decode cX8_sets 57 = .ok (.iload 4, 2) := by decide +kernel
theorem dX8_sets_59 : decode cX8_sets 59 = .ok (.iastore, 1) := by decide +kernel
theorem dX8_sets_60 : decode cX8_sets 60 = .ok (.iload 5, 2) := by decide +kernel
theorem dX8_sets_62 : decode cX8_sets 62 = .ok (.ireturn, 1) := by decide +kernel
theorem dX8_isCritical_0 : decode cX8_isCritical 0 = .ok (.aload_n 0, 1) := by decide +kernel
theorem dX8_isCritical_1 : decode cX8_isCritical 1 = .ok (.aload_n 0, 1) := by decide +kernel
theorem dX8_isCritical_2 : decode cX8_isCritical 2 = .ok (.getfield 19, 3) := by decide +kernel
theorem dX8_isCritical_5 : decode cX8_isCritical 5 = .ok (.invokevirtual 146, 3) := by decide +kernel
theorem dX8_isCritical_8 : decode cX8_isCritical 8 = .ok (.iload_n 1, 1) := by decide +kernel
theorem dX8_isCritical_9 : decode cX8_isCritical 9 = .ok (.aload_n 0, 1) := by decide +kernel
theorem dX8_isCritical_10 : decode cX8_isCritical 10 = .ok (.getfield 19, 3) := by decide +kernel
theorem dX8_isCritical_13 : decode cX8_isCritical 13 = .ok (.iconst 0, 1) := by decide +kernel
theorem dX8_isCritical_14 : decode cX8_isCritical 14 = .ok (.iaload, 1) := by decide +kernel
theorem dX8_isCritical_15 : decode cX8_isCritical 15 = .ok (.if_icmp .ge 35, 3) := by decide +kernel
theorem dX8_isCritical_18 : decode cX8_isCritical 18 = .ok (.iload_n 2, 1) := by decide +kernel
theorem dX8_isCritical_19 : decode cX8_isCritical 19 = .ok (.aload_n 0, 1) := by decide +kernel
theorem dX8_isCritical_20 : decode cX8_isCritical 20 = .ok (.getfield 19, 3) := by decide +kernel
theorem dX8_isCritical_23 : decode cX8_isCritical 23 = .ok (.iconst 0, 1) := by decide +kernel
theorem dX8_isCritical_24 : decode cX8_isCritical 24 = .ok (.iaload, 1) := by decide +kernel
theorem dX8_isCritical_25 : decode cX8_isCritical 25 = .ok (.if_icmp .ge 25, 3) := by decide +kernel
theorem dX8_isCritical_28 : decode cX8_isCritical 28 = .ok (.aload_n 0, 1) := by decide +kernel
theorem dX8_isCritical_29 : decode cX8_isCritical 29 = .ok (.getfield 122, 3) := by decide +kernel
theorem dX8_isCritical_32 : decode cX8_isCritical 32 = .ok (.bipush 6, 2) := by decide +kernel
theorem dX8_isCritical_34 : decode cX8_isCritical 34 = .ok (.iload_n 1, 1) := by decide +kernel
theorem dX8_isCritical_35 : decode cX8_isCritical 35 = .ok (.imul, 1) := by decide +kernel
theorem dX8_isCritical_36 : decode cX8_isCritical 36 = .ok (.iload_n 2, 1) := by decide +kernel
theorem dX8_isCritical_37 : decode cX8_isCritical 37 = .ok (.iadd, 1) := by decide +kernel
theorem dX8_isCritical_38 : decode cX8_isCritical 38 = .ok (.lshr, 1) := by decide +kernel
theorem dX8_isCritical_39 : decode cX8_isCritical 39 = .ok (.lconst 1, 1) := by decide +kernel
theorem dX8_isCritical_40 : decode cX8_isCritical 40 = .ok (.land, 1) := by decide +kernel
theorem dX8_isCritical_41 : decode cX8_isCritical 41 = .ok (.lconst 1, 1) := by decide +kernel
theorem dX8_isCritical_42 : decode cX8_isCritical 42 = .ok (.lcmp, 1) := by decide +kernel
theorem dX8_isCritical_43 : decode cX8_isCritical 43 = .ok (.ifCond .ne 7, 3) := by decide +kernel
theorem dX8_isCritical_46 : decode cX8_isCritical 46 = .ok (.iconst 1, 1) := by decide +kernel
theorem dX8_isCritical_47 : decode cX8_isCritical 47 = .ok (.goto 4, 3) := by decide +kernel
theorem dX8_isCritical_50 : decode cX8_isCritical 50 = .ok (.iconst 0, 1) := by decide +kernel
theorem dX8_isCritical_51 : decode cX8_isCritical 51 = .ok (.ireturn, 1) := by decide +kernel
theorem dX8_isTime_0 : decode cX8_isTime 0 = .ok (.aload_n 0, 1) := by decide +kernel
theorem dX8_isTime_1 : decode cX8_isTime 1 = .ok (.aload_n 0, 1) := by decide +kernel
theorem dX8_isTime_2 : decode cX8_isTime 2 = .ok (.getfield 19, 3) := by decide +kernel
theorem dX8_isTime_5 : decode cX8_isTime 5 = .ok (.bipush 10, 2) := by decide +kernel
theorem dX8_isTime_7 : decode cX8_isTime 7 = .ok (.invokevirtual 183, 3) := by decide +kernel
theorem dX8_isTime_10 : decode cX8_isTime 10 = .ok (.iload_n 1, 1) := by decide +kernel
theorem dX8_isTime_11 : decode cX8_isTime 11 = .ok (.aload_n 0, 1) := by decide +kernel
theorem dX8_isTime_12 : decode cX8_isTime 12 = .ok (.getfield 19, 3) := by decide +kernel
theorem dX8_isTime_15 : decode cX8_isTime 15 = .ok (.iconst 0, 1) := by decide +kernel
theorem dX8_isTime_16 : decode cX8_isTime 16 = .ok (.iaload, 1) := by decide +kernel
theorem dX8_isTime_17 : decode cX8_isTime 17 = .ok (.if_icmp .ge 17, 3) := by decide +kernel
theorem dX8_isTime_20 : decode cX8_isTime 20 = .ok (.aload_n 0, 1) := by decide +kernel
theorem dX8_isTime_21 : decode cX8_isTime 21 = .ok (.getfield 47, 3) := by decide +kernel
theorem dX8_isTime_24 : decode cX8_isTime 24 = .ok (.iload_n 1, 1) := by decide +kernel
theorem dX8_isTime_25 : decode cX8_isTime 25 = .ok (.iaload, 1) := by decide +kernel
theorem dX8_isTime_26 : decode cX8_isTime 26 = .ok (.iload_n 2, 1) := by decide +kernel
theorem dX8_isTime_27 : decode cX8_isTime 27 = .ok (.if_icmp .ne 7, 3) := by decide +kernel
theorem dX8_isTime_30 : decode cX8_isTime 30 = .ok (.iconst 1, 1) := by decide +kernel
theorem dX8_isTime_31 : decode cX8_isTime 31 = .ok (.goto 4, 3) := by decide +kernel
theorem dX8_isTime_34 : decode cX8_isTime 34 = .ok (.iconst 0, 1) := by decide +kernel
theorem dX8_isTime_35 : decode cX8_isTime 35 = .ok (.ireturn, 1) := by decide +kernel
theorem dX8_does_0 : decode cX8_does 0 = .ok (.iload_n 1, 1) := by decide +kernel
theorem dX8_does_1 : decode cX8_does 1 = .ok (.bipush 100, 2) := by decide +kernel
theorem dX8_does_3 : decode cX8_does 3 = .ok (.idiv, 1) := by decide +kernel
theorem dX8_does_4 : decode cX8_does 4 = .ok (.bipush 10, 2) := by decide +kernel
theorem dX8_does_6 : decode cX8_does 6 = .ok (.irem, 1) := by decide +kernel
theorem dX8_does_7 : decode cX8_does 7 = .ok (.istore_n 2, 1) := by decide +kernel
theorem dX8_does_8 : decode cX8_does 8 = .ok (.iload_n 1, 1) := by decide +kernel
theorem dX8_does_9 : decode cX8_does 9 = .ok (.bipush 10, 2) := by decide +kernel
theorem dX8_does_11 : decode cX8_does 11 = .ok (.idiv, 1) := by decide +kernel
theorem dX8_does_12 : decode cX8_does 12 = .ok (.bipush 10, 2) := by decide +kernel
theorem dX8_does_14 : decode cX8_does 14 = .ok (.irem, 1) := by decide +kernel
theorem dX8_does_15 : decode cX8_does 15 = .ok (.istore_n 3, 1) := by decide +kernel
theorem dX8_does_16 : decode cX8_does 16 = .ok (.iload_n 1, 1) := by decide +kernel
theorem dX8_does_17 : decode cX8_does 17 = .ok (.bipush 10, 2) := by decide +kernel
theorem dX8_does_19 : decode cX8_does 19 = .ok (.irem, 1) := by decide +kernel
theorem dX8_does_20 : decode cX8_does 20 = .ok (.istore 4, 2) := by decide +kernel
theorem dX8_does_22 : decode cX8_does 22 = .ok (.iload_n 1, 1) := by decide +kernel
theorem dX8_does_23 : decode cX8_does 23 = .ok (.bipush 100, 2) := by decide +kernel
theorem dX8_does_25 : decode cX8_does 25 = .ok (.irem, 1) := by decide +kernel
theorem dX8_does_26 : decode cX8_does 26 = .ok (.istore 5, 2) := by decide +kernel
theorem dX8_does_28 : decode cX8_does 28 = .ok (.iload_n 1, 1) := by decide +kernel
theorem dX8_does_29 : decode cX8_does 29 = .ok (.sipush 1000, 3) := by decide +kernel
theorem dX8_does_32 : decode cX8_does 32 = .ok (.idiv, 1) := by decide +kernel
theorem dX8_does_33 : decode cX8_does 33 = .ok (.tableswitch 194 1 7 #[43, 55, 77, 89, 119, 139, 147], 43) := by decide +kernel
theorem dX8_does_76 : decode cX8_does 76 = .ok (.aload_n 0, 1) := by decide +kernel
theorem dX8_does_77 : decode cX8_does 77 = .ok (.iload_n 2, 1) := by decide +kernel
theorem dX8_does_78 : decode cX8_does 78 = .ok (.iload_n 3, 1) := by decide +kernel
theorem dX8_does_79 : decode cX8_does 79 = .ok (.iconst 0, 1) := by decide +kernel
theorem dX8_does_80 : decode cX8_does 80 = .ok (.iload 4, 2) := by decide +kernel
theorem dX8_does_82 : decode cX8_does 82 = .ok (.iconst 1, 1) := by decide +kernel
theorem dX8_does_83 : decode cX8_does 83 = .ok (.iadd, 1) := by decide +kernel
theorem dX8_does_84 : decode cX8_does 84 = .ok (.invokevirtual 210, 3) := by decide +kernel
theorem dX8_does_87 : decode cX8_does 87 = .ok (.ireturn, 1) := by decide +kernel
theorem dX8_does_88 : decode cX8_does 88 = .ok (.iload 4, 2) := by decide +kernel
theorem dX8_does_90 : decode cX8_does 90 = .ok (.ifCond .ne 18, 3) := by decide +kernel
theorem dX8_does_93 : decode cX8_does 93 = .ok (.aload_n 0, 1) := by decide +kernel
theorem dX8_does_94 : decode cX8_does 94 = .ok (.iload_n 2, 1) := by decide +kernel
theorem dX8_does_95 : decode cX8_does 95 = .ok (.iload_n 3, 1) := by decide +kernel
theorem dX8_does_96 : decode cX8_does 96 = .ok (.iconst 1, 1) := by decide +kernel
theorem dX8_does_97 : decode cX8_does 97 = .ok (.iconst 0, 1) := by decide +kernel
theorem dX8_does_98 : decode cX8_does 98 = .ok (.invokevirtual 210, 3) := by decide +kernel
theorem dX8_does_101 : decode cX8_does 101 = .ok (.ifCond .eq 7, 3) := by decide +kernel
theorem dX8_does_104 : decode cX8_does 104 = .ok (.iconst 1, 1) := by decide +kernel
theorem dX8_does_105 : decode cX8_does 105 = .ok (.goto 4, 3) := by decide +kernel
theorem dX8_does_108 : decode cX8_does 108 = .ok (.iconst 0, 1) := by decide +kernel
theorem dX8_does_109 : decode cX8_does 109 = .ok (.ireturn, 1) := by decide +kernel
theorem dX8_does_110 : decode cX8_does 110 = .ok (.aload_n 0, 1) := by decide +kernel
theorem dX8_does_111 : decode cX8_does 111 = .ok (.iload_n 2, 1) := by decide +kernel
theorem dX8_does_112 : decode cX8_does 112 = .ok (.iload_n 3, 1) := by decide +kernel
theorem dX8_does_113 : decode cX8_does 113 = .ok (.iconst 1, 1) := by decide +kernel
theorem dX8_does_114 : decode cX8_does 114 = .ok (.iload 4, 2) := by decide +kernel
theorem dX8_does_116 : decode cX8_does 116 = .ok (.iconst 1, 1) := by decide +kernel
theorem dX8_does_117 : decode cX8_does 117 = .ok (.iadd, 1) := by decide +kernel
theorem dX8_does_118 : decode cX8_does 118 = .ok (.invokevirtual 210, 3) := by decide +kernel
theorem dX8_does_121 : decode cX8_does 121 = .ok (.ireturn, 1) := by decide +kernel
theorem dX8_does_122 : decode cX8_does 122 = .ok (.iload_n 2, 1) := by decide +kernel
theorem dX8_does_123 : decode cX8_does 123 = .ok (.ifCond .ne 27, 3) := by decide +kernel
theorem dX8_does_126 : decode cX8_does 126 = .ok (.iload 5, 2) := by decide +kernel
theorem dX8_does_128 : decode cX8_does 128 = .ok (.bipush 20, 2) := by decide +kernel
theorem dX8_does_130 : decode cX8_does 130 = .ok (.if_icmp .gt 20, 3) := by decide +kernel
theorem dX8_does_133 : decode cX8_does 133 = .ok (.aload_n 0, 1) := by decide +kernel
theorem dX8_does_134 : decode cX8_does 134 = .ok (.aload_n 0, 1) := by decide +kernel
theorem dX8_does_135 : decode cX8_does 135 = .ok (.getfield 19, 3) := by decide +kernel
theorem dX8_does_138 : decode cX8_does 138 = .ok (.iload 5, 2) := by decide +kernel
theorem dX8_does_140 : decode cX8_does 140 = .ok (.invokevirtual 150, 3) := by decide +kernel
theorem dX8_does_143 : decode cX8_does 143 = .ok (.ifCond .eq 7, 3) := by decide +kernel
theorem dX8_does_146 : decode cX8_does 146 = .ok (.iconst 1, 1) := by decide +kernel
theorem dX8_does_147 : decode cX8_does 147 = .ok (.goto 4, 3) := by decide +kernel
theorem dX8_does_150 : decode cX8_does 150 = .ok (.iconst 0, 1) := by decide +kernel
theorem dX8_does_151 : decode cX8_does 151 = .ok (.ireturn, 1) := by decide +kernel
theorem dX8_does_152 : decode cX8_does 152 = .ok (.iload 4, 2) := by decide +kernel
theorem dX8_does_154 : decode cX8_does 154 = .ok (.ifCond .ne 16, 3) := by decide +kernel
theorem dX8_does_157 : decode cX8_does 157 = .ok (.aload_n 0, 1) := by decide +kernel
theorem dX8_does_158 : decode cX8_does 158 = .ok (.iload_n 2, 1) := by decide +kernel
theorem dX8_does_159 : decode cX8_does 159 = .ok (.iload_n 3, 1) := by decide +kernel
theorem dX8_does_160 : decode cX8_does 160 = .ok (.invokevirtual 214, 3) := by decide +kernel
theorem dX8_does_163 : decode cX8_does 163 = .ok (.ifCond .eq 7, 3) := by decide +kernel
theorem dX8_does_166 : decode cX8_does 166 = .ok (.iconst 1, 1) := by decide +kernel
theorem dX8_does_167 : decode cX8_does 167 = .ok (.goto 4, 3) := by decide +kernel
theorem dX8_does_170 : decode cX8_does 170 = .ok (.iconst 0, 1) := by decide +kernel
theorem dX8_does_171 : decode cX8_does 171 = .ok (.ireturn, 1) := by decide +kernel
theorem dX8_does_172 : decode cX8_does 172 = .ok (.aload_n 0, 1) := by decide +kernel
theorem dX8_does_173 : decode cX8_does 173 = .ok (.iload_n 2, 1) := by decide +kernel
theorem dX8_does_174 : decode cX8_does 174 = .ok (.iload 5, 2) := by decide +kernel
theorem dX8_does_176 : decode cX8_does 176 = .ok (.invokevirtual 217, 3) := by decide +kernel
theorem dX8_does_179 : decode cX8_does 179 = .ok (.ireturn, 1) := by decide +kernel
theorem dX8_does_180 : decode cX8_does 180 = .ok (.iload_n 2, 1) := by decide +kernel
theorem dX8_does_181 : decode cX8_does 181 = .ok (.aload_n 0, 1) := by decide +kernel
theorem dX8_does_182 : decode cX8_does 182 = .ok (.getfield 19, 3) := by decide +kernel
theorem dX8_does_185 : decode cX8_does 185 = .ok (.iconst 0, 1) := by decide +kernel
theorem dX8_does_186 : decode cX8_does 186 = .ok (.iaload, 1) := by decide +kernel
theorem dX8_does_187 : decode cX8_does 187 = .ok (.if_icmp .ge 38, 3) := by decide +kernel
theorem dX8_does_190 : decode cX8_does 190 = .ok (.iload 5, 2) := by decide +kernel
theorem dX8_does_192 : decode cX8_does 192 = .ok (.i2l, 1) := by decide +kernel
theorem dX8_does_193 : decode cX8_does 193 = .ok (.lconst 1, 1) := by decide +kernel
theorem dX8_does_194 : decode cX8_does 194 = .ok (.ldc2_w 190, 3) := by decide +kernel
theorem dX8_does_197 : decode cX8_does 197 = .ok (.invokestatic 63, 3) := by decide +kernel
theorem dX8_does_200 : decode cX8_does 200 = .ok (.ifCond .eq 25, 3) := by decide +kernel
theorem dX8_does_203 : decode cX8_does 203 = .ok (.aload_n 0, 1) := by decide +kernel
theorem dX8_does_204 : decode cX8_does 204 = .ok (.aload_n 0, 1) := by decide +kernel
theorem dX8_does_205 : decode cX8_does 205 = .ok (.getfield 19, 3) := by decide +kernel
theorem dX8_does_208 : decode cX8_does 208 = .ok (.iload_n 2, 1) := by decide +kernel
theorem dX8_does_209 : decode cX8_does 209 = .ok (.iload 5, 2) := by decide +kernel
theorem dX8_does_211 : decode cX8_does 211 = .ok (.bipush 10, 2) := by decide +kernel
theorem dX8_does_213 : decode cX8_does 213 = .ok (.invokevirtual 201, 3) := by decide +kernel
theorem dX8_does_216 : decode cX8_does 216 = .ok (.bipush (-9), 2) := by decide +kernel
theorem dX8_does_218 : decode cX8_does 218 = .ok (.if_icmp .eq 7, 3) := by decide +kernel
theorem dX8_does_221 : decode cX8_does 221 = .ok (.iconst 1, 1) := by decide +kernel
theorem dX8_does_222 : decode cX8_does 222 = .ok (.goto 4, 3) := by decide +kernel
theorem dX8_does_225 : decode cX8_does 225 = .ok (.iconst 0, 1) := by decide +kernel
theorem dX8_does_226 : decode cX8_does 226 = .ok (.ireturn, 1) := by decide +kernel
theorem dX8_does_227 : decode cX8_does 227 = .ok (.iconst 0, 1) := by decide +kernel
theorem dX8_does_228 : decode cX8_does 228 = .ok (.ireturn, 1) := by decide +kernel
theorem dX8_judge_0 : decode cX8_judge 0 = .ok (.aload_n 0, 1) := by decide +kernel
theorem dX8_judge_1 : decode cX8_judge 1 = .ok (.iconst 0, 1) := by decide +kernel
theorem dX8_judge_2 : decode cX8_judge 2 = .ok (.putfield 59, 3) := by decide +kernel
theorem dX8_judge_5 : decode cX8_judge 5 = .ok (.iload_n 1, 1) := by decide +kernel
theorem dX8_judge_6 : decode cX8_judge 6 = .ok (.i2l, 1) := by decide +kernel
theorem dX8_judge_7 : decode cX8_judge 7 = .ok (.lconst 1, 1) := by decide +kernel
theorem dX8_judge_8 : decode cX8_judge 8 = .ok (.ldc2_w 220, 3) := by decide +kernel
theorem dX8_judge_11 : decode cX8_judge 11 = .ok (.invokestatic 63, 3) := by decide +kernel
theorem dX8_judge_14 : decode cX8_judge 14 = .ok (.ifCond .eq 20, 3) := by decide +kernel
theorem dX8_judge_17 : decode cX8_judge 17 = .ok (.lload_n 2, 1) := by decide +kernel
theorem dX8_judge_18 : decode cX8_judge 18 = .ok (.lconst 0, 1) := by decide +kernel
theorem dX8_judge_19 : decode cX8_judge 19 = .ok (.ldc2_w 222, 3) := by decide +kernel
theorem dX8_judge_22 : decode cX8_judge 22 = .ok (.iload_n 1, 1) := by decide +kernel
theorem dX8_judge_23 : decode cX8_judge 23 = .ok (.invokestatic 224, 3) := by decide +kernel
theorem dX8_judge_26 : decode cX8_judge 26 = .ok (.lconst 1, 1) := by decide +kernel
theorem dX8_judge_27 : decode cX8_judge 27 = .ok (.lsub, 1) := by decide +kernel
theorem dX8_judge_28 : decode cX8_judge 28 = .ok (.invokestatic 63, 3) := by decide +kernel
theorem dX8_judge_31 : decode cX8_judge 31 = .ok (.ifCond .ne 6, 3) := by decide +kernel
theorem dX8_judge_34 : decode cX8_judge 34 = .ok (.bipush (-2), 2) := by decide +kernel
theorem dX8_judge_36 : decode cX8_judge 36 = .ok (.ireturn, 1) := by decide +kernel
theorem dX8_judge_37 : decode cX8_judge 37 = .ok (.aload_n 0, 1) := by decide +kernel
theorem dX8_judge_38 : decode cX8_judge 38 = .ok (.invokevirtual 204, 3) := by decide +kernel
theorem dX8_judge_41 : decode cX8_judge 41 = .ok (.iconst 0, 1) := by decide +kernel
theorem dX8_judge_42 : decode cX8_judge 42 = .ok (.istore 4, 2) := by decide +kernel
theorem dX8_judge_44 : decode cX8_judge 44 = .ok (.iload 4, 2) := by decide +kernel
theorem dX8_judge_46 : decode cX8_judge 46 = .ok (.iload_n 1, 1) := by decide +kernel
theorem dX8_judge_47 : decode cX8_judge 47 = .ok (.if_icmp .ge 38, 3) := by decide +kernel
theorem dX8_judge_50 : decode cX8_judge 50 = .ok (.aload_n 0, 1) := by decide +kernel
theorem dX8_judge_51 : decode cX8_judge 51 = .ok (.lload_n 2, 1) := by decide +kernel
theorem dX8_judge_52 : decode cX8_judge 52 = .ok (.ldc2_w 222, 3) := by decide +kernel
theorem dX8_judge_55 : decode cX8_judge 55 = .ok (.iload_n 1, 1) := by decide +kernel
theorem dX8_judge_56 : decode cX8_judge 56 = .ok (.iconst 1, 1) := by decide +kernel
theorem dX8_judge_57 : decode cX8_judge 57 = .ok (.isub, 1) := by decide +kernel
theorem dX8_judge_58 : decode cX8_judge 58 = .ok (.iload 4, 2) := by decide +kernel
theorem dX8_judge_60 : decode cX8_judge 60 = .ok (.isub, 1) := by decide +kernel
theorem dX8_judge_61 : decode cX8_judge 61 = .ok (.invokestatic 224, 3) := by decide +kernel
theorem dX8_judge_64 : decode cX8_judge 64 = .ok (.ldiv, 1) := by decide +kernel
theorem dX8_judge_65 : decode cX8_judge 65 = .ok (.ldc2_w 222, 3) := by decide +kernel
theorem dX8_judge_68 : decode cX8_judge 68 = .ok (.lrem, 1) := by decide +kernel
theorem dX8_judge_69 : decode cX8_judge 69 = .ok (.l2i, 1) := by decide +kernel
theorem dX8_judge_70 : decode cX8_judge 70 = .ok (.invokevirtual 228, 3) := by decide +kernel
theorem dX8_judge_73 : decode cX8_judge 73 = .ok (.ifCond .ne 6, 3) := by decide +kernel
theorem dX8_judge_76 : decode cX8_judge 76 = .ok (.iload 4, 2) := by decide +kernel
theorem dX8_judge_78 : decode cX8_judge 78 = .ok (.ireturn, 1) := by decide +kernel
theorem dX8_judge_79 : decode cX8_judge 79 = .ok (.iinc 4 1, 3) := by decide +kernel
theorem dX8_judge_82 : decode cX8_judge 82 = .ok (.goto (-38), 3) := by decide +kernel
theorem dX8_judge_85 : decode cX8_judge 85 = .ok (.bipush (-9), 2) := by decide +kernel
theorem dX8_judge_87 : decode cX8_judge 87 = .ok (.ireturn, 1) := by decide +kernel
theorem dX8_orders_0 : decode cX8_orders 0 = .ok (.iconst 1, 1) := by decide +kernel
theorem dX8_orders_1 : decode cX8_orders 1 = .ok (.istore_n 2, 1) := by decide +kernel
theorem dX8_orders_2 : decode cX8_orders 2 = .ok (.iconst 2, 1) := by decide +kernel
theorem dX8_orders_3 : decode cX8_orders 3 = .ok (.istore_n 3, 1) := by decide +kernel
theorem dX8_orders_4 : decode cX8_orders 4 = .ok (.iload_n 3, 1) := by decide +kernel
theorem dX8_orders_5 : decode cX8_orders 5 = .ok (.iload_n 1, 1) := by decide +kernel
theorem dX8_orders_6 : decode cX8_orders 6 = .ok (.if_icmp .gt 13, 3) := by decide +kernel
theorem dX8_orders_9 : decode cX8_orders 9 = .ok (.iload_n 2, 1) := by decide +kernel
theorem dX8_orders_10 : decode cX8_orders 10 = .ok (.iload_n 3, 1) := by decide +kernel
theorem dX8_orders_11 : decode cX8_orders 11 = .ok (.imul, 1) := by decide +kernel
theorem dX8_orders_12 : decode cX8_orders 12 = .ok (.istore_n 2, 1) := by decide +kernel
theorem dX8_orders_13 : decode cX8_orders 13 = .ok (.iinc 3 1, 3) := by decide +kernel
theorem dX8_orders_16 : decode cX8_orders 16 = .ok (.goto (-12), 3) := by decide +kernel
theorem dX8_orders_19 : decode cX8_orders 19 = .ok (.iconst 2, 1) := by decide +kernel
theorem dX8_orders_20 : decode cX8_orders 20 = .ok (.istore_n 3, 1) := by decide +kernel
theorem dX8_orders_21 : decode cX8_orders 21 = .ok (.iload_n 3, 1) := by decide +kernel
theorem dX8_orders_22 : decode cX8_orders 22 = .ok (.iload_n 0, 1) := by decide +kernel
theorem dX8_orders_23 : decode cX8_orders 23 = .ok (.iconst 1, 1) := by decide +kernel
theorem dX8_orders_24 : decode cX8_orders 24 = .ok (.isub, 1) := by decide +kernel
theorem dX8_orders_25 : decode cX8_orders 25 = .ok (.iload_n 1, 1) := by decide +kernel
theorem dX8_orders_26 : decode cX8_orders 26 = .ok (.isub, 1) := by decide +kernel
theorem dX8_orders_27 : decode cX8_orders 27 = .ok (.if_icmp .gt 13, 3) := by decide +kernel
theorem dX8_orders_30 : decode cX8_orders 30 = .ok (.iload_n 2, 1) := by decide +kernel
theorem dX8_orders_31 : decode cX8_orders 31 = .ok (.iload_n 3, 1) := by decide +kernel
theorem dX8_orders_32 : decode cX8_orders 32 = .ok (.imul, 1) := by decide +kernel
theorem dX8_orders_33 : decode cX8_orders 33 = .ok (.istore_n 2, 1) := by decide +kernel
theorem dX8_orders_34 : decode cX8_orders 34 = .ok (.iinc 3 1, 3) := by decide +kernel
theorem dX8_orders_37 : decode cX8_orders 37 = .ok (.goto (-16), 3) := by decide +kernel
theorem dX8_orders_40 : decode cX8_orders 40 = .ok (.iload_n 2, 1) := by decide +kernel
theorem dX8_orders_41 : decode cX8_orders 41 = .ok (.ireturn, 1) := by decide +kernel
theorem dX8_share_0 : decode cX8_share 0 = .ok (.aload_n 0, 1) := by decide +kernel
theorem dX8_share_1 : decode cX8_share 1 = .ok (.iconst 0, 1) := by decide +kernel
theorem dX8_share_2 : decode cX8_share 2 = .ok (.putfield 59, 3) := by decide +kernel
theorem dX8_share_5 : decode cX8_share 5 = .ok (.aload_n 0, 1) := by decide +kernel
theorem dX8_share_6 : decode cX8_share 6 = .ok (.getfield 16, 3) := by decide +kernel
theorem dX8_share_9 : decode cX8_share 9 = .ok (.iconst 0, 1) := by decide +kernel
theorem dX8_share_10 : decode cX8_share 10 = .ok (.iaload, 1) := by decide +kernel
theorem dX8_share_11 : decode cX8_share 11 = .ok (.istore_n 3, 1) := by decide +kernel
theorem dX8_share_12 : decode cX8_share 12 = .ok (.aload_n 0, 1) := by decide +kernel
theorem dX8_share_13 : decode cX8_share 13 = .ok (.iload_n 1, 1) := by decide +kernel
theorem dX8_share_14 : decode cX8_share 14 = .ok (.invokevirtual 164, 3) := by decide +kernel
theorem dX8_share_17 : decode cX8_share 17 = .ok (.ifCond .eq 5, 3) := by decide +kernel
theorem dX8_share_20 : decode cX8_share 20 = .ok (.iconst (-1), 1) := by decide +kernel
theorem dX8_share_21 : decode cX8_share 21 = .ok (.ireturn, 1) := by decide +kernel
theorem dX8_share_22 : decode cX8_share 22 = .ok (.iconst 0, 1) := by decide +kernel
theorem dX8_share_23 : decode cX8_share 23 = .ok (.istore 4, 2) := by decide +kernel
theorem dX8_share_25 : decode cX8_share 25 = .ok (.iload 4, 2) := by decide +kernel
theorem dX8_share_27 : decode cX8_share 27 = .ok (.iconst 1, 1) := by decide +kernel
theorem dX8_share_28 : decode cX8_share 28 = .ok (.iload_n 3, 1) := by decide +kernel
theorem dX8_share_29 : decode cX8_share 29 = .ok (.ishl, 1) := by decide +kernel
theorem dX8_share_30 : decode cX8_share 30 = .ok (.if_icmp .ge 39, 3) := by decide +kernel
theorem dX8_share_33 : decode cX8_share 33 = .ok (.aload_n 0, 1) := by decide +kernel
theorem dX8_share_34 : decode cX8_share 34 = .ok (.aload_n 0, 1) := by decide +kernel
theorem dX8_share_35 : decode cX8_share 35 = .ok (.getfield 16, 3) := by decide +kernel
theorem dX8_share_38 : decode cX8_share 38 = .ok (.iload 4, 2) := by decide +kernel
theorem dX8_share_40 : decode cX8_share 40 = .ok (.invokevirtual 207, 3) := by decide +kernel
theorem dX8_share_43 : decode cX8_share 43 = .ok (.istore 5, 2) := by decide +kernel
theorem dX8_share_45 : decode cX8_share 45 = .ok (.aload_n 0, 1) := by decide +kernel
theorem dX8_share_46 : decode cX8_share 46 = .ok (.getfield 56, 3) := by decide +kernel
theorem dX8_share_49 : decode cX8_share 49 = .ok (.iload 4, 2) := by decide +kernel
theorem dX8_share_51 : decode cX8_share 51 = .ok (.iload 5, 2) := by decide +kernel
theorem dX8_share_53 : decode cX8_share 53 = .ok (.ifCond .ge 7, 3) := by decide +kernel
theorem dX8_share_56 : decode cX8_share 56 = .ok (.iconst 0, 1) := by decide +kernel
theorem dX8_share_57 : decode cX8_share 57 = .ok (.goto 5, 3) := by decide +kernel
theorem dX8_share_60 : decode cX8_share 60 = .ok (.iload 5, 2) := by decide +kernel
theorem dX8_share_62 : decode cX8_share 62 = .ok (.iastore, 1) := by decide +kernel
theorem dX8_share_63 : decode cX8_share 63 = .ok (.iinc 4 1, 3) := by decide +kernel
theorem dX8_share_66 : decode cX8_share 66 = .ok (.goto (-41), 3) := by decide +kernel
theorem dX8_share_69 : decode cX8_share 69 = .ok (.iconst 0, 1) := by decide +kernel
theorem dX8_share_70 : decode cX8_share 70 = .ok (.istore 4, 2) := by decide +kernel
theorem dX8_share_72 : decode cX8_share 72 = .ok (.iconst 0, 1) := by decide +kernel
theorem dX8_share_73 : decode cX8_share 73 = .ok (.istore 5, 2) := by decide +kernel
theorem dX8_share_75 : decode cX8_share 75 = .ok (.iconst 0, 1) := by decide +kernel
theorem dX8_share_76 : decode cX8_share 76 = .ok (.istore 6, 2) := by decide +kernel
theorem dX8_share_78 : decode cX8_share 78 = .ok (.iload 6, 2) := by decide +kernel
theorem dX8_share_80 : decode cX8_share 80 = .ok (.iconst 1, 1) := by decide +kernel
theorem dX8_share_81 : decode cX8_share 81 = .ok (.iload_n 3, 1) := by decide +kernel
theorem dX8_share_82 : decode cX8_share 82 = .ok (.ishl, 1) := by decide +kernel
theorem dX8_share_83 : decode cX8_share 83 = .ok (.if_icmp .ge 64, 3) := by decide +kernel
theorem dX8_share_86 : decode cX8_share 86 = .ok (.iload 6, 2) := by decide +kernel
theorem dX8_share_88 : decode cX8_share 88 = .ok (.iload_n 1, 1) := by decide +kernel
theorem dX8_share_89 : decode cX8_share 89 = .ok (.invokestatic 132, 3) := by decide +kernel
theorem dX8_share_92 : decode cX8_share 92 = .ok (.ifCond .ne 49, 3) := by decide +kernel
theorem dX8_share_95 : decode cX8_share 95 = .ok (.iload_n 3, 1) := by decide +kernel
theorem dX8_share_96 : decode cX8_share 96 = .ok (.iload 6, 2) := by decide +kernel
theorem dX8_share_98 : decode cX8_share 98 = .ok (.i2l, 1) := by decide +kernel
theorem dX8_share_99 : decode cX8_share 99 = .ok (.invokestatic 154, 3) := by decide +kernel
theorem dX8_share_102 : decode cX8_share 102 = .ok (.invokestatic 231, 3) := by decide +kernel
theorem dX8_share_105 : decode cX8_share 105 = .ok (.istore 7, 2) := by decide +kernel
theorem dX8_share_107 : decode cX8_share 107 = .ok (.iload 5, 2) := by decide +kernel
theorem dX8_share_109 : decode cX8_share 109 = .ok (.iload 7, 2) := by decide +kernel
theorem dX8_share_111 : decode cX8_share 111 = .ok (.iadd, 1) := by decide +kernel
theorem dX8_share_112 : decode cX8_share 112 = .ok (.istore 5, 2) := by decide +kernel
theorem dX8_share_114 : decode cX8_share 114 = .ok (.iload 4, 2) := by decide +kernel
theorem dX8_share_116 : decode cX8_share 116 = .ok (.iload 7, 2) := by decide +kernel
theorem dX8_share_118 : decode cX8_share 118 = .ok (.aload_n 0, 1) := by decide +kernel
theorem dX8_share_119 : decode cX8_share 119 = .ok (.getfield 56, 3) := by decide +kernel
theorem dX8_share_122 : decode cX8_share 122 = .ok (.iload 6, 2) := by decide +kernel
theorem dX8_share_124 : decode cX8_share 124 = .ok (.iconst 1, 1) := by decide +kernel
theorem dX8_share_125 : decode cX8_share 125 = .ok (.iload_n 1, 1) := by decide +kernel
theorem dX8_share_126 : decode cX8_share 126 = .ok (.ishl, 1) := by decide +kernel
theorem dX8_share_127 : decode cX8_share 127 = .ok (.ior, 1) := by decide +kernel
theorem dX8_share_128 : decode cX8_share 128 = .ok (.iaload, 1) := by decide +kernel
theorem dX8_share_129 : decode cX8_share 129 = .ok (.aload_n 0, 1) := by decide +kernel
theorem dX8_share_130 : decode cX8_share 130 = .ok (.getfield 56, 3) := by decide +kernel
theorem dX8_share_133 : decode cX8_share 133 = .ok (.iload 6, 2) := by decide +kernel
theorem dX8_share_135 : decode cX8_share 135 = .ok (.iaload, 1) := by decide +kernel
theorem dX8_share_136 : decode cX8_share 136 = .ok (.isub, 1) := by decide +kernel
theorem dX8_share_137 : decode cX8_share 137 = .ok (.imul, 1) := by decide +kernel
theorem dX8_share_138 : decode cX8_share 138 = .ok (.iadd, 1) := by decide +kernel
theorem dX8_share_139 : decode cX8_share 139 = .ok (.istore 4, 2) := by decide +kernel
theorem dX8_share_141 : decode cX8_share 141 = .ok (.iinc 6 1, 3) := by decide +kernel
theorem dX8_share_144 : decode cX8_share 144 = .ok (.goto (-66), 3) := by decide +kernel
theorem dX8_share_147 : decode cX8_share 147 = .ok (.iload 4, 2) := by decide +kernel
theorem dX8_share_149 : decode cX8_share 149 = .ok (.bipush 60, 2) := by decide +kernel
theorem dX8_share_151 : decode cX8_share 151 = .ok (.iload 5, 2) := by decide +kernel
theorem dX8_share_153 : decode cX8_share 153 = .ok (.imul, 1) := by decide +kernel
theorem dX8_share_154 : decode cX8_share 154 = .ok (.iload_n 2, 1) := by decide +kernel
theorem dX8_share_155 : decode cX8_share 155 = .ok (.invokestatic 177, 3) := by decide +kernel
theorem dX8_share_158 : decode cX8_share 158 = .ok (.ireturn, 1) := by decide +kernel
theorem dX8_see_0 : decode cX8_see 0 = .ok (.aload_n 0, 1) := by decide +kernel
theorem dX8_see_1 : decode cX8_see 1 = .ok (.iconst 0, 1) := by decide +kernel
theorem dX8_see_2 : decode cX8_see 2 = .ok (.putfield 59, 3) := by decide +kernel
theorem dX8_see_5 : decode cX8_see 5 = .ok (.aload_n 0, 1) := by decide +kernel
theorem dX8_see_6 : decode cX8_see 6 = .ok (.iload_n 1, 1) := by decide +kernel
theorem dX8_see_7 : decode cX8_see 7 = .ok (.invokevirtual 164, 3) := by decide +kernel
theorem dX8_see_10 : decode cX8_see 10 = .ok (.ifCond .eq 5, 3) := by decide +kernel
theorem dX8_see_13 : decode cX8_see 13 = .ok (.iconst (-1), 1) := by decide +kernel
theorem dX8_see_14 : decode cX8_see 14 = .ok (.ireturn, 1) := by decide +kernel
theorem dX8_see_15 : decode cX8_see 15 = .ok (.iload_n 2, 1) := by decide +kernel
theorem dX8_see_16 : decode cX8_see 16 = .ok (.i2l, 1) := by decide +kernel
theorem dX8_see_17 : decode cX8_see 17 = .ok (.lconst 1, 1) := by decide +kernel
theorem dX8_see_18 : decode cX8_see 18 = .ok (.ldc2_w 168, 3) := by decide +kernel
theorem dX8_see_21 : decode cX8_see 21 = .ok (.invokestatic 63, 3) := by decide +kernel
theorem dX8_see_24 : decode cX8_see 24 = .ok (.ifCond .eq 13, 3) := by decide +kernel
theorem dX8_see_27 : decode cX8_see 27 = .ok (.iload_n 3, 1) := by decide +kernel
theorem dX8_see_28 : decode cX8_see 28 = .ok (.i2l, 1) := by decide +kernel
theorem dX8_see_29 : decode cX8_see 29 = .ok (.lconst 0, 1) := by decide +kernel
theorem dX8_see_30 : decode cX8_see 30 = .ok (.lconst 1, 1) := by decide +kernel
theorem dX8_see_31 : decode cX8_see 31 = .ok (.invokestatic 63, 3) := by decide +kernel
theorem dX8_see_34 : decode cX8_see 34 = .ok (.ifCond .ne 6, 3) := by decide +kernel
theorem dX8_see_37 : decode cX8_see 37 = .ok (.bipush (-2), 2) := by decide +kernel
theorem dX8_see_39 : decode cX8_see 39 = .ok (.ireturn, 1) := by decide +kernel
theorem dX8_see_40 : decode cX8_see 40 = .ok (.aload_n 0, 1) := by decide +kernel
theorem dX8_see_41 : decode cX8_see 41 = .ok (.getfield 161, 3) := by decide +kernel
theorem dX8_see_44 : decode cX8_see 44 = .ok (.bipush 6, 2) := by decide +kernel
theorem dX8_see_46 : decode cX8_see 46 = .ok (.if_icmp .ne 6, 3) := by decide +kernel
theorem dX8_see_49 : decode cX8_see 49 = .ok (.bipush (-4), 2) := by decide +kernel
theorem dX8_see_51 : decode cX8_see 51 = .ok (.ireturn, 1) := by decide +kernel
theorem dX8_see_52 : decode cX8_see 52 = .ok (.aload_n 0, 1) := by decide +kernel
theorem dX8_see_53 : decode cX8_see 53 = .ok (.getfield 32, 3) := by decide +kernel
theorem dX8_see_56 : decode cX8_see 56 = .ok (.aload_n 0, 1) := by decide +kernel
theorem dX8_see_57 : decode cX8_see 57 = .ok (.getfield 161, 3) := by decide +kernel
theorem dX8_see_60 : decode cX8_see 60 = .ok (.iload_n 1, 1) := by decide +kernel
theorem dX8_see_61 : decode cX8_see 61 = .ok (.iastore, 1) := by decide +kernel
theorem dX8_see_62 : decode cX8_see 62 = .ok (.aload_n 0, 1) := by decide +kernel
theorem dX8_see_63 : decode cX8_see 63 = .ok (.getfield 35, 3) := by decide +kernel
theorem dX8_see_66 : decode cX8_see 66 = .ok (.aload_n 0, 1) := by decide +kernel
theorem dX8_see_67 : decode cX8_see 67 = .ok (.getfield 161, 3) := by decide +kernel
theorem dX8_see_70 : decode cX8_see 70 = .ok (.iload_n 2, 1) := by decide +kernel
theorem dX8_see_71 : decode cX8_see 71 = .ok (.iastore, 1) := by decide +kernel
theorem dX8_see_72 : decode cX8_see 72 = .ok (.aload_n 0, 1) := by decide +kernel
theorem dX8_see_73 : decode cX8_see 73 = .ok (.getfield 38, 3) := by decide +kernel
theorem dX8_see_76 : decode cX8_see 76 = .ok (.aload_n 0, 1) := by decide +kernel
theorem dX8_see_77 : decode cX8_see 77 = .ok (.getfield 161, 3) := by decide +kernel
theorem dX8_see_80 : decode cX8_see 80 = .ok (.iload_n 3, 1) := by decide +kernel
theorem dX8_see_81 : decode cX8_see 81 = .ok (.iastore, 1) := by decide +kernel
theorem dX8_see_82 : decode cX8_see 82 = .ok (.aload_n 0, 1) := by decide +kernel
theorem dX8_see_83 : decode cX8_see 83 = .ok (.dup, 1) := by decide +kernel
theorem dX8_see_84 : decode cX8_see 84 = .ok (.getfield 161, 3) := by decide +kernel
theorem dX8_see_87 : decode cX8_see 87 = .ok (.iconst 1, 1) := by decide +kernel
theorem dX8_see_88 : decode cX8_see 88 = .ok (.iadd, 1) := by decide +kernel
theorem dX8_see_89 : decode cX8_see 89 = .ok (.putfield 161, 3) := by decide +kernel
theorem dX8_see_92 : decode cX8_see 92 = .ok (.aload_n 0, 1) := by decide +kernel
theorem dX8_see_93 : decode cX8_see 93 = .ok (.getfield 161, 3) := by decide +kernel
theorem dX8_see_96 : decode cX8_see 96 = .ok (.ireturn, 1) := by decide +kernel
theorem dX8_unsee_0 : decode cX8_unsee 0 = .ok (.aload_n 0, 1) := by decide +kernel
theorem dX8_unsee_1 : decode cX8_unsee 1 = .ok (.iconst 0, 1) := by decide +kernel
theorem dX8_unsee_2 : decode cX8_unsee 2 = .ok (.putfield 59, 3) := by decide +kernel
theorem dX8_unsee_5 : decode cX8_unsee 5 = .ok (.aload_n 0, 1) := by decide +kernel
theorem dX8_unsee_6 : decode cX8_unsee 6 = .ok (.getfield 161, 3) := by decide +kernel
theorem dX8_unsee_9 : decode cX8_unsee 9 = .ok (.istore_n 1, 1) := by decide +kernel
theorem dX8_unsee_10 : decode cX8_unsee 10 = .ok (.aload_n 0, 1) := by decide +kernel
theorem dX8_unsee_11 : decode cX8_unsee 11 = .ok (.iconst 0, 1) := by decide +kernel
theorem dX8_unsee_12 : decode cX8_unsee 12 = .ok (.putfield 161, 3) := by decide +kernel
theorem dX8_unsee_15 : decode cX8_unsee 15 = .ok (.iload_n 1, 1) := by decide +kernel
theorem dX8_unsee_16 : decode cX8_unsee 16 = .ok (.ireturn, 1) := by decide +kernel
theorem dX8_explains_0 : decode cX8_explains 0 = .ok (.aload_n 0, 1) := by decide +kernel
theorem dX8_explains_1 : decode cX8_explains 1 = .ok (.iload_n 1, 1) := by decide +kernel
theorem dX8_explains_2 : decode cX8_explains 2 = .ok (.iload_n 2, 1) := by decide +kernel
theorem dX8_explains_3 : decode cX8_explains 3 = .ok (.invokevirtual 194, 3) := by decide +kernel
theorem dX8_explains_6 : decode cX8_explains 6 = .ok (.iconst 1, 1) := by decide +kernel
theorem dX8_explains_7 : decode cX8_explains 7 = .ok (.istore_n 3, 1) := by decide +kernel
theorem dX8_explains_8 : decode cX8_explains 8 = .ok (.iconst 1, 1) := by decide +kernel
theorem dX8_explains_9 : decode cX8_explains 9 = .ok (.istore 4, 2) := by decide +kernel
theorem dX8_explains_11 : decode cX8_explains 11 = .ok (.iload 4, 2) := by decide +kernel
theorem dX8_explains_13 : decode cX8_explains 13 = .ok (.bipush 10, 2) := by decide +kernel
theorem dX8_explains_15 : decode cX8_explains 15 = .ok (.if_icmp .ge 99, 3) := by decide +kernel
theorem dX8_explains_18 : decode cX8_explains 18 = .ok (.aload_n 0, 1) := by decide +kernel
theorem dX8_explains_19 : decode cX8_explains 19 = .ok (.aload_n 0, 1) := by decide +kernel
theorem dX8_explains_20 : decode cX8_explains 20 = .ok (.getfield 16, 3) := by decide +kernel
theorem dX8_explains_23 : decode cX8_explains 23 = .ok (.bipush 10, 2) := by decide +kernel
theorem dX8_explains_25 : decode cX8_explains 25 = .ok (.invokevirtual 198, 3) := by decide +kernel
theorem dX8_explains_28 : decode cX8_explains 28 = .ok (.pop, 1) := by decide +kernel
theorem dX8_explains_29 : decode cX8_explains 29 = .ok (.iconst 0, 1) := by decide +kernel
theorem dX8_explains_30 : decode cX8_explains 30 = .ok (.istore 5, 2) := by decide +kernel
theorem dX8_explains_32 : decode cX8_explains 32 = .ok (.iload 5, 2) := by decide +kernel
theorem dX8_explains_34 : decode cX8_explains 34 = .ok (.aload_n 0, 1) := by decide +kernel
theorem dX8_explains_35 : decode cX8_explains 35 = .ok (.getfield 161, 3) := by decide +kernel
theorem dX8_explains_38 : decode cX8_explains 38 = .ok (.if_icmp .ge 70, 3) := by decide +kernel
theorem dX8_explains_41 : decode cX8_explains 41 = .ok (.iload_n 3, 1) := by decide +kernel
theorem dX8_explains_42 : decode cX8_explains 42 = .ok (.ifCond .eq 58, 3) := by decide +kernel
theorem dX8_explains_45 : decode cX8_explains 45 = .ok (.aload_n 0, 1) := by decide +kernel
theorem dX8_explains_46 : decode cX8_explains 46 = .ok (.getfield 35, 3) := by decide +kernel
theorem dX8_explains_49 : decode cX8_explains 49 = .ok (.iload 5, 2) := by decide +kernel
theorem dX8_explains_51 : decode cX8_explains 51 = .ok (.iaload, 1) := by decide +kernel
theorem dX8_explains_52 : decode cX8_explains 52 = .ok (.iload 4, 2) := by decide +kernel
theorem dX8_explains_54 : decode cX8_explains 54 = .ok (.if_icmp .ne 42, 3) := by decide +kernel
theorem dX8_explains_57 : decode cX8_explains 57 = .ok (.aload_n 0, 1) := by decide +kernel
theorem dX8_explains_58 : decode cX8_explains 58 = .ok (.getfield 50, 3) := by decide +kernel
theorem dX8_explains_61 : decode cX8_explains 61 = .ok (.aload_n 0, 1) := by decide +kernel
theorem dX8_explains_62 : decode cX8_explains 62 = .ok (.getfield 32, 3) := by decide +kernel
theorem dX8_explains_65 : decode cX8_explains 65 = .ok (.iload 5, 2) := by decide +kernel
theorem dX8_explains_67 : decode cX8_explains 67 = .ok (.iaload, 1) := by decide +kernel
theorem dX8_explains_68 : decode cX8_explains 68 = .ok (.iaload, 1) := by decide +kernel
theorem dX8_explains_69 : decode cX8_explains 69 = .ok (.ifCond .le 7, 3) := by decide +kernel
theorem dX8_explains_72 : decode cX8_explains 72 = .ok (.iconst 1, 1) := by decide +kernel
theorem dX8_explains_73 : decode cX8_explains 73 = .ok (.goto 4, 3) := by decide +kernel
theorem dX8_explains_76 : decode cX8_explains 76 = .ok (.iconst 0, 1) := by decide +kernel
theorem dX8_explains_77 : decode cX8_explains 77 = .ok (.aload_n 0, 1) := by decide +kernel
theorem dX8_explains_78 : decode cX8_explains 78 = .ok (.getfield 38, 3) := by decide +kernel
theorem dX8_explains_81 : decode cX8_explains 81 = .ok (.iload 5, 2) := by decide +kernel
theorem dX8_explains_83 : decode cX8_explains 83 = .ok (.iaload, 1) := by decide +kernel
theorem dX8_explains_84 : decode cX8_explains 84 = .ok (.iconst 1, 1) := by decide +kernel
theorem dX8_explains_85 : decode cX8_explains 85 = .ok (.if_icmp .ne 7, 3) := by decide +kernel
theorem dX8_explains_88 : decode cX8_explains 88 = .ok (.iconst 1, 1) := by decide +kernel
theorem dX8_explains_89 : decode cX8_explains 89 = .ok (.goto 4, 3) := by decide +kernel
theorem dX8_explains_92 : decode cX8_explains 92 = .ok (.iconst 0, 1) := by decide +kernel
theorem dX8_explains_93 : decode cX8_explains 93 = .ok (.if_icmp .ne 7, 3) := by decide +kernel
theorem dX8_explains_96 : decode cX8_explains 96 = .ok (.iconst 1, 1) := by decide +kernel
theorem dX8_explains_97 : decode cX8_explains 97 = .ok (.goto 4, 3) := by decide +kernel
theorem dX8_explains_100 : decode cX8_explains 100 = .ok (.iconst 0, 1) := by decide +kernel
theorem dX8_explains_101 : decode cX8_explains 101 = .ok (.istore_n 3, 1) := by decide +kernel
theorem dX8_explains_102 : decode cX8_explains 102 = .ok (.iinc 5 1, 3) := by decide +kernel
theorem dX8_explains_105 : decode cX8_explains 105 = .ok (.goto (-73), 3) := by decide +kernel
theorem dX8_explains_108 : decode cX8_explains 108 = .ok (.iinc 4 1, 3) := by decide +kernel
theorem dX8_explains_111 : decode cX8_explains 111 = .ok (.goto (-100), 3) := by decide +kernel
theorem dX8_explains_114 : decode cX8_explains 114 = .ok (.iload_n 3, 1) := by decide +kernel
theorem dX8_explains_115 : decode cX8_explains 115 = .ok (.ireturn, 1) := by decide +kernel
theorem dX8_began_0 : decode cX8_began 0 = .ok (.aload_n 0, 1) := by decide +kernel
theorem dX8_began_1 : decode cX8_began 1 = .ok (.iconst 0, 1) := by decide +kernel
theorem dX8_began_2 : decode cX8_began 2 = .ok (.putfield 59, 3) := by decide +kernel
theorem dX8_began_5 : decode cX8_began 5 = .ok (.iload_n 1, 1) := by decide +kernel
theorem dX8_began_6 : decode cX8_began 6 = .ok (.i2l, 1) := by decide +kernel
theorem dX8_began_7 : decode cX8_began 7 = .ok (.lconst 0, 1) := by decide +kernel
theorem dX8_began_8 : decode cX8_began 8 = .ok (.lconst 1, 1) := by decide +kernel
theorem dX8_began_9 : decode cX8_began 9 = .ok (.invokestatic 63, 3) := by decide +kernel
theorem dX8_began_12 : decode cX8_began 12 = .ok (.ifCond .ne 6, 3) := by decide +kernel
theorem dX8_began_15 : decode cX8_began 15 = .ok (.bipush (-2), 2) := by decide +kernel
theorem dX8_began_17 : decode cX8_began 17 = .ok (.ireturn, 1) := by decide +kernel
theorem dX8_began_18 : decode cX8_began 18 = .ok (.aload_n 0, 1) := by decide +kernel
theorem dX8_began_19 : decode cX8_began 19 = .ok (.iconst 0, 1) := by decide +kernel
theorem dX8_began_20 : decode cX8_began 20 = .ok (.putfield 234, 3) := by decide +kernel
theorem dX8_began_23 : decode cX8_began 23 = .ok (.aload_n 0, 1) := by decide +kernel
theorem dX8_began_24 : decode cX8_began 24 = .ok (.bipush (-9), 2) := by decide +kernel
theorem dX8_began_26 : decode cX8_began 26 = .ok (.putfield 237, 3) := by decide +kernel
theorem dX8_began_29 : decode cX8_began 29 = .ok (.aload_n 0, 1) := by decide +kernel
theorem dX8_began_30 : decode cX8_began 30 = .ok (.aload_n 0, 1) := by decide +kernel
theorem dX8_began_31 : decode cX8_began 31 = .ok (.getfield 16, 3) := by decide +kernel
theorem dX8_began_34 : decode cX8_began 34 = .ok (.bipush 10, 2) := by decide +kernel
theorem dX8_began_36 : decode cX8_began 36 = .ok (.invokevirtual 183, 3) := by decide +kernel
theorem dX8_began_39 : decode cX8_began 39 = .ok (.iconst 0, 1) := by decide +kernel
theorem dX8_began_40 : decode cX8_began 40 = .ok (.istore_n 2, 1) := by decide +kernel
theorem dX8_began_41 : decode cX8_began 41 = .ok (.iload_n 2, 1) := by decide +kernel
theorem dX8_began_42 : decode cX8_began 42 = .ok (.aload_n 0, 1) := by decide +kernel
theorem dX8_began_43 : decode cX8_began 43 = .ok (.getfield 16, 3) := by decide +kernel
theorem dX8_began_46 : decode cX8_began 46 = .ok (.iconst 0, 1) := by decide +kernel
theorem dX8_began_47 : decode cX8_began 47 = .ok (.iaload, 1) := by decide +kernel
theorem dX8_began_48 : decode cX8_began 48 = .ok (.if_icmp .ge 79, 3) := by decide +kernel
theorem dX8_began_51 : decode cX8_began 51 = .ok (.iconst 1, 1) := by decide +kernel
theorem dX8_began_52 : decode cX8_began 52 = .ok (.istore_n 3, 1) := by decide +kernel
theorem dX8_began_53 : decode cX8_began 53 = .ok (.iload_n 3, 1) := by decide +kernel
theorem dX8_began_54 : decode cX8_began 54 = .ok (.bipush 30, 2) := by decide +kernel
theorem dX8_began_56 : decode cX8_began 56 = .ok (.if_icmp .gt 65, 3) := by decide +kernel
theorem dX8_began_59 : decode cX8_began 59 = .ok (.aload_n 0, 1) := by decide +kernel
theorem dX8_began_60 : decode cX8_began 60 = .ok (.iload_n 2, 1) := by decide +kernel
theorem dX8_began_61 : decode cX8_began 61 = .ok (.iload_n 3, 1) := by decide +kernel
theorem dX8_began_62 : decode cX8_began 62 = .ok (.invokevirtual 240, 3) := by decide +kernel
theorem dX8_began_65 : decode cX8_began 65 = .ok (.istore 4, 2) := by decide +kernel
theorem dX8_began_67 : decode cX8_began 67 = .ok (.aload_n 0, 1) := by decide +kernel
theorem dX8_began_68 : decode cX8_began 68 = .ok (.iload 4, 2) := by decide +kernel
theorem dX8_began_70 : decode cX8_began 70 = .ok (.ifCond .eq 19, 3) := by decide +kernel
theorem dX8_began_73 : decode cX8_began 73 = .ok (.aload_n 0, 1) := by decide +kernel
theorem dX8_began_74 : decode cX8_began 74 = .ok (.getfield 234, 3) := by decide +kernel
theorem dX8_began_77 : decode cX8_began 77 = .ok (.ifCond .ne 12, 3) := by decide +kernel
theorem dX8_began_80 : decode cX8_began 80 = .ok (.bipush 100, 2) := by decide +kernel
theorem dX8_began_82 : decode cX8_began 82 = .ok (.iload_n 2, 1) := by decide +kernel
theorem dX8_began_83 : decode cX8_began 83 = .ok (.imul, 1) := by decide +kernel
theorem dX8_began_84 : decode cX8_began 84 = .ok (.iload_n 3, 1) := by decide +kernel
theorem dX8_began_85 : decode cX8_began 85 = .ok (.iadd, 1) := by decide +kernel
theorem dX8_began_86 : decode cX8_began 86 = .ok (.goto 7, 3) := by decide +kernel
theorem dX8_began_89 : decode cX8_began 89 = .ok (.aload_n 0, 1) := by decide +kernel
theorem dX8_began_90 : decode cX8_began 90 = .ok (.getfield 237, 3) := by decide +kernel
theorem dX8_began_93 : decode cX8_began 93 = .ok (.putfield 237, 3) := by decide +kernel
theorem dX8_began_96 : decode cX8_began 96 = .ok (.aload_n 0, 1) := by decide +kernel
theorem dX8_began_97 : decode cX8_began 97 = .ok (.dup, 1) := by decide +kernel
theorem dX8_began_98 : decode cX8_began 98 = .ok (.getfield 234, 3) := by decide +kernel
theorem dX8_began_101 : decode cX8_began 101 = .ok (.iload 4, 2) := by decide +kernel
theorem dX8_began_103 : decode cX8_began 103 = .ok (.ifCond .eq 7, 3) := by decide +kernel
theorem dX8_began_106 : decode cX8_began 106 = .ok (.iconst 1, 1) := by decide +kernel
theorem dX8_began_107 : decode cX8_began 107 = .ok (.goto 4, 3) := by decide +kernel
theorem dX8_began_110 : decode cX8_began 110 = .ok (.iconst 0, 1) := by decide +kernel
theorem dX8_began_111 : decode cX8_began 111 = .ok (.iadd, 1) := by decide +kernel
theorem dX8_began_112 : decode cX8_began 112 = .ok (.putfield 234, 3) := by decide +kernel
theorem dX8_began_115 : decode cX8_began 115 = .ok (.iinc 3 1, 3) := by decide +kernel
theorem dX8_began_118 : decode cX8_began 118 = .ok (.goto (-65), 3) := by decide +kernel
theorem dX8_began_121 : decode cX8_began 121 = .ok (.iinc 2 1, 3) := by decide +kernel
theorem dX8_began_124 : decode cX8_began 124 = .ok (.goto (-83), 3) := by decide +kernel
theorem dX8_began_127 : decode cX8_began 127 = .ok (.iload_n 1, 1) := by decide +kernel
theorem dX8_began_128 : decode cX8_began 128 = .ok (.ifCond .ne 10, 3) := by decide +kernel
theorem dX8_began_131 : decode cX8_began 131 = .ok (.aload_n 0, 1) := by decide +kernel
theorem dX8_began_132 : decode cX8_began 132 = .ok (.getfield 234, 3) := by decide +kernel
theorem dX8_began_135 : decode cX8_began 135 = .ok (.goto 7, 3) := by decide +kernel
theorem dX8_began_138 : decode cX8_began 138 = .ok (.aload_n 0, 1) := by decide +kernel
theorem dX8_began_139 : decode cX8_began 139 = .ok (.getfield 237, 3) := by decide +kernel
theorem dX8_began_142 : decode cX8_began 142 = .ok (.ireturn, 1) := by decide +kernel
theorem dX8_drops_0 : decode cX8_drops 0 = .ok (.aload_n 0, 1) := by decide +kernel
theorem dX8_drops_1 : decode cX8_drops 1 = .ok (.invokevirtual 204, 3) := by decide +kernel
theorem dX8_drops_4 : decode cX8_drops 4 = .ok (.iconst 0, 1) := by decide +kernel
theorem dX8_drops_5 : decode cX8_drops 5 = .ok (.istore_n 3, 1) := by decide +kernel
theorem dX8_drops_6 : decode cX8_drops 6 = .ok (.iconst 0, 1) := by decide +kernel
theorem dX8_drops_7 : decode cX8_drops 7 = .ok (.istore 4, 2) := by decide +kernel
theorem dX8_drops_9 : decode cX8_drops 9 = .ok (.iload 4, 2) := by decide +kernel
theorem dX8_drops_11 : decode cX8_drops 11 = .ok (.aload_n 0, 1) := by decide +kernel
theorem dX8_drops_12 : decode cX8_drops 12 = .ok (.getfield 16, 3) := by decide +kernel
theorem dX8_drops_15 : decode cX8_drops 15 = .ok (.iconst 0, 1) := by decide +kernel
theorem dX8_drops_16 : decode cX8_drops 16 = .ok (.iaload, 1) := by decide +kernel
theorem dX8_drops_17 : decode cX8_drops 17 = .ok (.if_icmp .ge 65, 3) := by decide +kernel
theorem dX8_drops_20 : decode cX8_drops 20 = .ok (.aload_n 0, 1) := by decide +kernel
theorem dX8_drops_21 : decode cX8_drops 21 = .ok (.getfield 16, 3) := by decide +kernel
theorem dX8_drops_24 : decode cX8_drops 24 = .ok (.iload_n 1, 1) := by decide +kernel
theorem dX8_drops_25 : decode cX8_drops 25 = .ok (.iload 4, 2) := by decide +kernel
theorem dX8_drops_27 : decode cX8_drops 27 = .ok (.invokestatic 79, 3) := by decide +kernel
theorem dX8_drops_30 : decode cX8_drops 30 = .ok (.ifCond .eq 46, 3) := by decide +kernel
theorem dX8_drops_33 : decode cX8_drops 33 = .ok (.aload_n 0, 1) := by decide +kernel
theorem dX8_drops_34 : decode cX8_drops 34 = .ok (.getfield 19, 3) := by decide +kernel
theorem dX8_drops_37 : decode cX8_drops 37 = .ok (.iconst 1, 1) := by decide +kernel
theorem dX8_drops_38 : decode cX8_drops 38 = .ok (.bipush 6, 2) := by decide +kernel
theorem dX8_drops_40 : decode cX8_drops 40 = .ok (.iload_n 1, 1) := by decide +kernel
theorem dX8_drops_41 : decode cX8_drops 41 = .ok (.imul, 1) := by decide +kernel
theorem dX8_drops_42 : decode cX8_drops 42 = .ok (.iadd, 1) := by decide +kernel
theorem dX8_drops_43 : decode cX8_drops 43 = .ok (.iload 4, 2) := by decide +kernel
theorem dX8_drops_45 : decode cX8_drops 45 = .ok (.iadd, 1) := by decide +kernel
theorem dX8_drops_46 : decode cX8_drops 46 = .ok (.iload_n 2, 1) := by decide +kernel
theorem dX8_drops_47 : decode cX8_drops 47 = .ok (.iload_n 3, 1) := by decide +kernel
theorem dX8_drops_48 : decode cX8_drops 48 = .ok (.invokestatic 132, 3) := by decide +kernel
theorem dX8_drops_51 : decode cX8_drops 51 = .ok (.ifCond .eq 7, 3) := by decide +kernel
theorem dX8_drops_54 : decode cX8_drops 54 = .ok (.iconst 0, 1) := by decide +kernel
theorem dX8_drops_55 : decode cX8_drops 55 = .ok (.goto 17, 3) := by decide +kernel
theorem dX8_drops_58 : decode cX8_drops 58 = .ok (.aload_n 0, 1) := by decide +kernel
theorem dX8_drops_59 : decode cX8_drops 59 = .ok (.getfield 16, 3) := by decide +kernel
theorem dX8_drops_62 : decode cX8_drops 62 = .ok (.iconst 1, 1) := by decide +kernel
theorem dX8_drops_63 : decode cX8_drops 63 = .ok (.bipush 6, 2) := by decide +kernel
theorem dX8_drops_65 : decode cX8_drops 65 = .ok (.iload_n 1, 1) := by decide +kernel
theorem dX8_drops_66 : decode cX8_drops 66 = .ok (.imul, 1) := by decide +kernel
theorem dX8_drops_67 : decode cX8_drops 67 = .ok (.iadd, 1) := by decide +kernel
theorem dX8_drops_68 : decode cX8_drops 68 = .ok (.iload 4, 2) := by decide +kernel
theorem dX8_drops_70 : decode cX8_drops 70 = .ok (.iadd, 1) := by decide +kernel
theorem dX8_drops_71 : decode cX8_drops 71 = .ok (.iaload, 1) := by decide +kernel
theorem dX8_drops_72 : decode cX8_drops 72 = .ok (.iastore, 1) := by decide +kernel
theorem dX8_drops_73 : decode cX8_drops 73 = .ok (.iinc 3 1, 3) := by decide +kernel
theorem dX8_drops_76 : decode cX8_drops 76 = .ok (.iinc 4 1, 3) := by decide +kernel
theorem dX8_drops_79 : decode cX8_drops 79 = .ok (.goto (-70), 3) := by decide +kernel
theorem dX8_drops_82 : decode cX8_drops 82 = .ok (.iload_n 3, 1) := by decide +kernel
theorem dX8_drops_83 : decode cX8_drops 83 = .ok (.ireturn, 1) := by decide +kernel
theorem dX8_dropped_0 : decode cX8_dropped 0 = .ok (.aload_n 0, 1) := by decide +kernel
theorem dX8_dropped_1 : decode cX8_dropped 1 = .ok (.iconst 0, 1) := by decide +kernel
theorem dX8_dropped_2 : decode cX8_dropped 2 = .ok (.putfield 59, 3) := by decide +kernel
theorem dX8_dropped_5 : decode cX8_dropped 5 = .ok (.aload_n 0, 1) := by decide +kernel
theorem dX8_dropped_6 : decode cX8_dropped 6 = .ok (.iload_n 1, 1) := by decide +kernel
theorem dX8_dropped_7 : decode cX8_dropped 7 = .ok (.invokevirtual 164, 3) := by decide +kernel
theorem dX8_dropped_10 : decode cX8_dropped 10 = .ok (.ifCond .eq 5, 3) := by decide +kernel
theorem dX8_dropped_13 : decode cX8_dropped 13 = .ok (.iconst (-1), 1) := by decide +kernel
theorem dX8_dropped_14 : decode cX8_dropped 14 = .ok (.ireturn, 1) := by decide +kernel
theorem dX8_dropped_15 : decode cX8_dropped 15 = .ok (.iload_n 2, 1) := by decide +kernel
theorem dX8_dropped_16 : decode cX8_dropped 16 = .ok (.i2l, 1) := by decide +kernel
theorem dX8_dropped_17 : decode cX8_dropped 17 = .ok (.lconst 0, 1) := by decide +kernel
theorem dX8_dropped_18 : decode cX8_dropped 18 = .ok (.ldc2_w 181, 3) := by decide +kernel
theorem dX8_dropped_21 : decode cX8_dropped 21 = .ok (.invokestatic 63, 3) := by decide +kernel
theorem dX8_dropped_24 : decode cX8_dropped 24 = .ok (.ifCond .eq 15, 3) := by decide +kernel
theorem dX8_dropped_27 : decode cX8_dropped 27 = .ok (.iload_n 3, 1) := by decide +kernel
theorem dX8_dropped_28 : decode cX8_dropped 28 = .ok (.i2l, 1) := by decide +kernel
theorem dX8_dropped_29 : decode cX8_dropped 29 = .ok (.lconst 0, 1) := by decide +kernel
theorem dX8_dropped_30 : decode cX8_dropped 30 = .ok (.ldc2_w 243, 3) := by decide +kernel
theorem dX8_dropped_33 : decode cX8_dropped 33 = .ok (.invokestatic 63, 3) := by decide +kernel
theorem dX8_dropped_36 : decode cX8_dropped 36 = .ok (.ifCond .ne 6, 3) := by decide +kernel
theorem dX8_dropped_39 : decode cX8_dropped 39 = .ok (.bipush (-2), 2) := by decide +kernel
theorem dX8_dropped_41 : decode cX8_dropped 41 = .ok (.ireturn, 1) := by decide +kernel
theorem dX8_dropped_42 : decode cX8_dropped 42 = .ok (.aload_n 0, 1) := by decide +kernel
theorem dX8_dropped_43 : decode cX8_dropped 43 = .ok (.iload_n 1, 1) := by decide +kernel
theorem dX8_dropped_44 : decode cX8_dropped 44 = .ok (.iconst 0, 1) := by decide +kernel
theorem dX8_dropped_45 : decode cX8_dropped 45 = .ok (.invokevirtual 245, 3) := by decide +kernel
theorem dX8_dropped_48 : decode cX8_dropped 48 = .ok (.istore 5, 2) := by decide +kernel
theorem dX8_dropped_50 : decode cX8_dropped 50 = .ok (.iconst 0, 1) := by decide +kernel
theorem dX8_dropped_51 : decode cX8_dropped 51 = .ok (.istore 6, 2) := by decide +kernel
theorem dX8_dropped_53 : decode cX8_dropped 53 = .ok (.iconst 0, 1) := by decide +kernel
theorem dX8_dropped_54 : decode cX8_dropped 54 = .ok (.istore 7, 2) := by decide +kernel
theorem dX8_dropped_56 : decode cX8_dropped 56 = .ok (.iload 7, 2) := by decide +kernel
theorem dX8_dropped_58 : decode cX8_dropped 58 = .ok (.iconst 1, 1) := by decide +kernel
theorem dX8_dropped_59 : decode cX8_dropped 59 = .ok (.iload 5, 2) := by decide +kernel
theorem dX8_dropped_61 : decode cX8_dropped 61 = .ok (.ishl, 1) := by decide +kernel
theorem dX8_dropped_62 : decode cX8_dropped 62 = .ok (.if_icmp .ge 65, 3) := by decide +kernel
theorem dX8_dropped_65 : decode cX8_dropped 65 = .ok (.aload_n 0, 1) := by decide +kernel
theorem dX8_dropped_66 : decode cX8_dropped 66 = .ok (.iload_n 1, 1) := by decide +kernel
theorem dX8_dropped_67 : decode cX8_dropped 67 = .ok (.iload 7, 2) := by decide +kernel
theorem dX8_dropped_69 : decode cX8_dropped 69 = .ok (.invokevirtual 245, 3) := by decide +kernel
theorem dX8_dropped_72 : decode cX8_dropped 72 = .ok (.pop, 1) := by decide +kernel
theorem dX8_dropped_73 : decode cX8_dropped 73 = .ok (.iload 7, 2) := by decide +kernel
theorem dX8_dropped_75 : decode cX8_dropped 75 = .ok (.i2l, 1) := by decide +kernel
theorem dX8_dropped_76 : decode cX8_dropped 76 = .ok (.invokestatic 154, 3) := by decide +kernel
theorem dX8_dropped_79 : decode cX8_dropped 79 = .ok (.istore 8, 2) := by decide +kernel
theorem dX8_dropped_81 : decode cX8_dropped 81 = .ok (.iload 6, 2) := by decide +kernel
theorem dX8_dropped_83 : decode cX8_dropped 83 = .ok (.aload_n 0, 1) := by decide +kernel
theorem dX8_dropped_84 : decode cX8_dropped 84 = .ok (.aload_n 0, 1) := by decide +kernel
theorem dX8_dropped_85 : decode cX8_dropped 85 = .ok (.getfield 19, 3) := by decide +kernel
theorem dX8_dropped_88 : decode cX8_dropped 88 = .ok (.iload_n 2, 1) := by decide +kernel
theorem dX8_dropped_89 : decode cX8_dropped 89 = .ok (.invokevirtual 150, 3) := by decide +kernel
theorem dX8_dropped_92 : decode cX8_dropped 92 = .ok (.ifCond .eq 25, 3) := by decide +kernel
theorem dX8_dropped_95 : decode cX8_dropped 95 = .ok (.iload_n 3, 1) := by decide +kernel
theorem dX8_dropped_96 : decode cX8_dropped 96 = .ok (.iload 8, 2) := by decide +kernel
theorem dX8_dropped_98 : decode cX8_dropped 98 = .ok (.invokestatic 248, 3) := by decide +kernel
theorem dX8_dropped_101 : decode cX8_dropped 101 = .ok (.bipush 10, 2) := by decide +kernel
theorem dX8_dropped_103 : decode cX8_dropped 103 = .ok (.iload_n 3, 1) := by decide +kernel
theorem dX8_dropped_104 : decode cX8_dropped 104 = .ok (.isub, 1) := by decide +kernel
theorem dX8_dropped_105 : decode cX8_dropped 105 = .ok (.iload 5, 2) := by decide +kernel
theorem dX8_dropped_107 : decode cX8_dropped 107 = .ok (.iload 8, 2) := by decide +kernel
theorem dX8_dropped_109 : decode cX8_dropped 109 = .ok (.isub, 1) := by decide +kernel
theorem dX8_dropped_110 : decode cX8_dropped 110 = .ok (.invokestatic 248, 3) := by decide +kernel
theorem dX8_dropped_113 : decode cX8_dropped 113 = .ok (.imul, 1) := by decide +kernel
theorem dX8_dropped_114 : decode cX8_dropped 114 = .ok (.goto 4, 3) := by decide +kernel
theorem dX8_dropped_117 : decode cX8_dropped 117 = .ok (.iconst 0, 1) := by decide +kernel
theorem dX8_dropped_118 : decode cX8_dropped 118 = .ok (.iadd, 1) := by decide +kernel
theorem dX8_dropped_119 : decode cX8_dropped 119 = .ok (.istore 6, 2) := by decide +kernel
theorem dX8_dropped_121 : decode cX8_dropped 121 = .ok (.iinc 7 1, 3) := by decide +kernel
theorem dX8_dropped_124 : decode cX8_dropped 124 = .ok (.goto (-68), 3) := by decide +kernel
theorem dX8_dropped_127 : decode cX8_dropped 127 = .ok (.iload 6, 2) := by decide +kernel
theorem dX8_dropped_129 : decode cX8_dropped 129 = .ok (.bipush 10, 2) := by decide +kernel
theorem dX8_dropped_131 : decode cX8_dropped 131 = .ok (.iload 5, 2) := by decide +kernel
theorem dX8_dropped_133 : decode cX8_dropped 133 = .ok (.invokestatic 248, 3) := by decide +kernel
theorem dX8_dropped_136 : decode cX8_dropped 136 = .ok (.iload 4, 2) := by decide +kernel
theorem dX8_dropped_138 : decode cX8_dropped 138 = .ok (.invokestatic 177, 3) := by decide +kernel
theorem dX8_dropped_141 : decode cX8_dropped 141 = .ok (.ireturn, 1) := by decide +kernel
theorem dX8_seed_0 : decode cX8_seed 0 = .ok (.aload_n 0, 1) := by decide +kernel
theorem dX8_seed_1 : decode cX8_seed 1 = .ok (.iconst 0, 1) := by decide +kernel
theorem dX8_seed_2 : decode cX8_seed 2 = .ok (.putfield 59, 3) := by decide +kernel
theorem dX8_seed_5 : decode cX8_seed 5 = .ok (.aload_n 0, 1) := by decide +kernel
theorem dX8_seed_6 : decode cX8_seed 6 = .ok (.getfield 251, 3) := by decide +kernel
theorem dX8_seed_9 : decode cX8_seed 9 = .ok (.lstore_n 3, 1) := by decide +kernel
theorem dX8_seed_10 : decode cX8_seed 10 = .ok (.aload_n 0, 1) := by decide +kernel
theorem dX8_seed_11 : decode cX8_seed 11 = .ok (.lload_n 1, 1) := by decide +kernel
theorem dX8_seed_12 : decode cX8_seed 12 = .ok (.putfield 251, 3) := by decide +kernel
theorem dX8_seed_15 : decode cX8_seed 15 = .ok (.lload_n 3, 1) := by decide +kernel
theorem dX8_seed_16 : decode cX8_seed 16 = .ok (.lreturn, 1) := by decide +kernel
theorem dX8_draw_0 : decode cX8_draw 0 = .ok (.iload_n 1, 1) := by decide +kernel
theorem dX8_draw_1 : decode cX8_draw 1 = .ok (.aload_n 0, 1) := by decide +kernel
theorem dX8_draw_2 : decode cX8_draw 2 = .ok (.getfield 19, 3) := by decide +kernel
theorem dX8_draw_5 : decode cX8_draw 5 = .ok (.iconst 0, 1) := by decide +kernel
theorem dX8_draw_6 : decode cX8_draw 6 = .ok (.iaload, 1) := by decide +kernel
theorem dX8_draw_7 : decode cX8_draw 7 = .ok (.if_icmp .ge 39, 3) := by decide +kernel
theorem dX8_draw_10 : decode cX8_draw 10 = .ok (.iload_n 2, 1) := by decide +kernel
theorem dX8_draw_11 : decode cX8_draw 11 = .ok (.aload_n 0, 1) := by decide +kernel
theorem dX8_draw_12 : decode cX8_draw 12 = .ok (.getfield 19, 3) := by decide +kernel
theorem dX8_draw_15 : decode cX8_draw 15 = .ok (.iconst 0, 1) := by decide +kernel
theorem dX8_draw_16 : decode cX8_draw 16 = .ok (.iaload, 1) := by decide +kernel
theorem dX8_draw_17 : decode cX8_draw 17 = .ok (.if_icmp .ge 29, 3) := by decide +kernel
theorem dX8_draw_20 : decode cX8_draw 20 = .ok (.aload_n 0, 1) := by decide +kernel
theorem dX8_draw_21 : decode cX8_draw 21 = .ok (.getfield 19, 3) := by decide +kernel
theorem dX8_draw_24 : decode cX8_draw 24 = .ok (.iconst 1, 1) := by decide +kernel
theorem dX8_draw_25 : decode cX8_draw 25 = .ok (.bipush 6, 2) := by decide +kernel
theorem dX8_draw_27 : decode cX8_draw 27 = .ok (.iload_n 1, 1) := by decide +kernel
theorem dX8_draw_28 : decode cX8_draw 28 = .ok (.imul, 1) := by decide +kernel
theorem dX8_draw_29 : decode cX8_draw 29 = .ok (.iadd, 1) := by decide +kernel
theorem dX8_draw_30 : decode cX8_draw 30 = .ok (.iload_n 2, 1) := by decide +kernel
theorem dX8_draw_31 : decode cX8_draw 31 = .ok (.iadd, 1) := by decide +kernel
theorem dX8_draw_32 : decode cX8_draw 32 = .ok (.iload_n 3, 1) := by decide +kernel
theorem dX8_draw_33 : decode cX8_draw 33 = .ok (.bipush 10, 2) := by decide +kernel
theorem dX8_draw_35 : decode cX8_draw 35 = .ok (.if_icmp .ne 7, 3) := by decide +kernel
theorem dX8_draw_38 : decode cX8_draw 38 = .ok (.iconst 0, 1) := by decide +kernel
theorem dX8_draw_39 : decode cX8_draw 39 = .ok (.goto 6, 3) := by decide +kernel
theorem dX8_draw_42 : decode cX8_draw 42 = .ok (.iload_n 3, 1) := by decide +kernel
theorem dX8_draw_43 : decode cX8_draw 43 = .ok (.iconst 1, 1) := by decide +kernel
theorem dX8_draw_44 : decode cX8_draw 44 = .ok (.iadd, 1) := by decide +kernel
theorem dX8_draw_45 : decode cX8_draw 45 = .ok (.iastore, 1) := by decide +kernel
theorem dX8_draw_46 : decode cX8_draw 46 = .ok (.return_, 1) := by decide +kernel
theorem dX8_drawn_0 : decode cX8_drawn 0 = .ok (.aload_n 0, 1) := by decide +kernel
theorem dX8_drawn_1 : decode cX8_drawn 1 = .ok (.iconst 0, 1) := by decide +kernel
theorem dX8_drawn_2 : decode cX8_drawn 2 = .ok (.putfield 59, 3) := by decide +kernel
theorem dX8_drawn_5 : decode cX8_drawn 5 = .ok (.iload_n 1, 1) := by decide +kernel
theorem dX8_drawn_6 : decode cX8_drawn 6 = .ok (.i2l, 1) := by decide +kernel
theorem dX8_drawn_7 : decode cX8_drawn 7 = .ok (.lconst 1, 1) := by decide +kernel
theorem dX8_drawn_8 : decode cX8_drawn 8 = .ok (.ldc2_w 181, 3) := by decide +kernel
theorem dX8_drawn_11 : decode cX8_drawn 11 = .ok (.invokestatic 63, 3) := by decide +kernel
theorem dX8_drawn_14 : decode cX8_drawn 14 = .ok (.ifCond .ne 6, 3) := by decide +kernel
theorem dX8_drawn_17 : decode cX8_drawn 17 = .ok (.bipush (-2), 2) := by decide +kernel
theorem dX8_drawn_19 : decode cX8_drawn 19 = .ok (.ireturn, 1) := by decide +kernel
theorem dX8_drawn_20 : decode cX8_drawn 20 = .ok (.aload_n 0, 1) := by decide +kernel
theorem dX8_drawn_21 : decode cX8_drawn 21 = .ok (.invokevirtual 204, 3) := by decide +kernel
theorem dX8_drawn_24 : decode cX8_drawn 24 = .ok (.iconst 0, 1) := by decide +kernel
theorem dX8_drawn_25 : decode cX8_drawn 25 = .ok (.istore_n 2, 1) := by decide +kernel
theorem dX8_drawn_26 : decode cX8_drawn 26 = .ok (.iconst 0, 1) := by decide +kernel
theorem dX8_drawn_27 : decode cX8_drawn 27 = .ok (.istore_n 3, 1) := by decide +kernel
theorem dX8_drawn_28 : decode cX8_drawn 28 = .ok (.iload_n 3, 1) := by decide +kernel
theorem dX8_drawn_29 : decode cX8_drawn 29 = .ok (.iload_n 1, 1) := by decide +kernel
theorem dX8_drawn_30 : decode cX8_drawn 30 = .ok (.if_icmp .ge 91, 3) := by decide +kernel
theorem dX8_drawn_33 : decode cX8_drawn 33 = .ok (.aload_n 0, 1) := by decide +kernel
theorem dX8_drawn_34 : decode cX8_drawn 34 = .ok (.aload_n 0, 1) := by decide +kernel
theorem dX8_drawn_35 : decode cX8_drawn 35 = .ok (.getfield 251, 3) := by decide +kernel
theorem dX8_drawn_38 : decode cX8_drawn 38 = .ok (.ldc2_w 254, 3) := by decide +kernel
theorem dX8_drawn_41 : decode cX8_drawn 41 = .ok (.lmul, 1) := by decide +kernel
theorem dX8_drawn_42 : decode cX8_drawn 42 = .ok (.ldc2_w 256, 3) := by decide +kernel
theorem dX8_drawn_45 : decode cX8_drawn 45 = .ok (.ladd, 1) := by decide +kernel
theorem dX8_drawn_46 : decode cX8_drawn 46 = .ok (.putfield 251, 3) := by decide +kernel
theorem dX8_drawn_49 : decode cX8_drawn 49 = .ok (.aload_n 0, 1) := by decide +kernel
theorem dX8_drawn_50 : decode cX8_drawn 50 = .ok (.getfield 251, 3) := by decide +kernel
theorem dX8_drawn_53 : decode cX8_drawn 53 = .ok (.bipush 33, 2) := by decide +kernel
theorem dX8_drawn_55 : decode cX8_drawn 55 = .ok (.lushr, 1) := by decide +kernel
theorem dX8_drawn_56 : decode cX8_drawn 56 = .ok (.l2i, 1) := by decide +kernel
theorem dX8_drawn_57 : decode cX8_drawn 57 = .ok (.istore 4, 2) := by decide +kernel
theorem dX8_drawn_59 : decode cX8_drawn 59 = .ok (.aload_n 0, 1) := by decide +kernel
theorem dX8_drawn_60 : decode cX8_drawn 60 = .ok (.iload 4, 2) := by decide +kernel
theorem dX8_drawn_62 : decode cX8_drawn 62 = .ok (.bipush 6, 2) := by decide +kernel
theorem dX8_drawn_64 : decode cX8_drawn 64 = .ok (.irem, 1) := by decide +kernel
theorem dX8_drawn_65 : decode cX8_drawn 65 = .ok (.iload 4, 2) := by decide +kernel
theorem dX8_drawn_67 : decode cX8_drawn 67 = .ok (.bipush 8, 2) := by decide +kernel
theorem dX8_drawn_69 : decode cX8_drawn 69 = .ok (.idiv, 1) := by decide +kernel
theorem dX8_drawn_70 : decode cX8_drawn 70 = .ok (.bipush 6, 2) := by decide +kernel
theorem dX8_drawn_72 : decode cX8_drawn 72 = .ok (.irem, 1) := by decide +kernel
theorem dX8_drawn_73 : decode cX8_drawn 73 = .ok (.iload 4, 2) := by decide +kernel
theorem dX8_drawn_75 : decode cX8_drawn 75 = .ok (.bipush 64, 2) := by decide +kernel
theorem dX8_drawn_77 : decode cX8_drawn 77 = .ok (.idiv, 1) := by decide +kernel
theorem dX8_drawn_78 : decode cX8_drawn 78 = .ok (.bipush 11, 2) := by decide +kernel
theorem dX8_drawn_80 : decode cX8_drawn 80 = .ok (.irem, 1) := by decide +kernel
theorem dX8_drawn_81 : decode cX8_drawn 81 = .ok (.invokevirtual 258, 3) := by decide +kernel
theorem dX8_drawn_84 : decode cX8_drawn 84 = .ok (.aload_n 0, 1) := by decide +kernel
theorem dX8_drawn_85 : decode cX8_drawn 85 = .ok (.aload_n 0, 1) := by decide +kernel
theorem dX8_drawn_86 : decode cX8_drawn 86 = .ok (.getfield 19, 3) := by decide +kernel
theorem dX8_drawn_89 : decode cX8_drawn 89 = .ok (.invokevirtual 146, 3) := by decide +kernel
theorem dX8_drawn_92 : decode cX8_drawn 92 = .ok (.iload_n 2, 1) := by decide +kernel
theorem dX8_drawn_93 : decode cX8_drawn 93 = .ok (.aload_n 0, 1) := by decide +kernel
theorem dX8_drawn_94 : decode cX8_drawn 94 = .ok (.getfield 116, 3) := by decide +kernel
theorem dX8_drawn_97 : decode cX8_drawn 97 = .ok (.ifCond .ne 7, 3) := by decide +kernel
theorem dX8_drawn_100 : decode cX8_drawn 100 = .ok (.iconst 0, 1) := by decide +kernel
theorem dX8_drawn_101 : decode cX8_drawn 101 = .ok (.goto 12, 3) := by decide +kernel
theorem dX8_drawn_104 : decode cX8_drawn 104 = .ok (.aload_n 0, 1) := by decide +kernel
theorem dX8_drawn_105 : decode cX8_drawn 105 = .ok (.getfield 119, 3) := by decide +kernel
theorem dX8_drawn_108 : decode cX8_drawn 108 = .ok (.aload_n 0, 1) := by decide +kernel
theorem dX8_drawn_109 : decode cX8_drawn 109 = .ok (.getfield 116, 3) := by decide +kernel
theorem dX8_drawn_112 : decode cX8_drawn 112 = .ok (.idiv, 1) := by decide +kernel
theorem dX8_drawn_113 : decode cX8_drawn 113 = .ok (.iadd, 1) := by decide +kernel
theorem dX8_drawn_114 : decode cX8_drawn 114 = .ok (.istore_n 2, 1) := by decide +kernel
theorem dX8_drawn_115 : decode cX8_drawn 115 = .ok (.iinc 3 1, 3) := by decide +kernel
theorem dX8_drawn_118 : decode cX8_drawn 118 = .ok (.goto (-90), 3) := by decide +kernel
theorem dX8_drawn_121 : decode cX8_drawn 121 = .ok (.iload_n 2, 1) := by decide +kernel
theorem dX8_drawn_122 : decode cX8_drawn 122 = .ok (.ireturn, 1) := by decide +kernel
theorem dX8_keep_0 : decode cX8_keep 0 = .ok (.aload_n 0, 1) := by decide +kernel
theorem dX8_keep_1 : decode cX8_keep 1 = .ok (.iconst 0, 1) := by decide +kernel
theorem dX8_keep_2 : decode cX8_keep 2 = .ok (.putfield 59, 3) := by decide +kernel
theorem dX8_keep_5 : decode cX8_keep 5 = .ok (.iload_n 1, 1) := by decide +kernel
theorem dX8_keep_6 : decode cX8_keep 6 = .ok (.i2l, 1) := by decide +kernel
theorem dX8_keep_7 : decode cX8_keep 7 = .ok (.lconst 0, 1) := by decide +kernel
theorem dX8_keep_8 : decode cX8_keep 8 = .ok (.lconst 1, 1) := by decide +kernel
theorem dX8_keep_9 : decode cX8_keep 9 = .ok (.invokestatic 63, 3) := by decide +kernel
theorem dX8_keep_12 : decode cX8_keep 12 = .ok (.ifCond .ne 5, 3) := by decide +kernel
theorem dX8_keep_15 : decode cX8_keep 15 = .ok (.iconst (-1), 1) := by decide +kernel
theorem dX8_keep_16 : decode cX8_keep 16 = .ok (.ireturn, 1) := by decide +kernel
theorem dX8_keep_17 : decode cX8_keep 17 = .ok (.aload_n 0, 1) := by decide +kernel
theorem dX8_keep_18 : decode cX8_keep 18 = .ok (.getfield 28, 3) := by decide +kernel
theorem dX8_keep_21 : decode cX8_keep 21 = .ok (.iload_n 1, 1) := by decide +kernel
theorem dX8_keep_22 : decode cX8_keep 22 = .ok (.iconst 1, 1) := by decide +kernel
theorem dX8_keep_23 : decode cX8_keep 23 = .ok (.bastore, 1) := by decide +kernel
theorem dX8_keep_24 : decode cX8_keep 24 = .ok (.iconst 0, 1) := by decide +kernel
theorem dX8_keep_25 : decode cX8_keep 25 = .ok (.istore_n 2, 1) := by decide +kernel
theorem dX8_keep_26 : decode cX8_keep 26 = .ok (.iload_n 2, 1) := by decide +kernel
theorem dX8_keep_27 : decode cX8_keep 27 = .ok (.bipush 37, 2) := by decide +kernel
theorem dX8_keep_29 : decode cX8_keep 29 = .ok (.if_icmp .ge 26, 3) := by decide +kernel
theorem dX8_keep_32 : decode cX8_keep 32 = .ok (.aload_n 0, 1) := by decide +kernel
theorem dX8_keep_33 : decode cX8_keep 33 = .ok (.getfield 25, 3) := by decide +kernel
theorem dX8_keep_36 : decode cX8_keep 36 = .ok (.bipush 37, 2) := by decide +kernel
theorem dX8_keep_38 : decode cX8_keep 38 = .ok (.iload_n 1, 1) := by decide +kernel
theorem dX8_keep_39 : decode cX8_keep 39 = .ok (.imul, 1) := by decide +kernel
theorem dX8_keep_40 : decode cX8_keep 40 = .ok (.iload_n 2, 1) := by decide +kernel
theorem dX8_keep_41 : decode cX8_keep 41 = .ok (.iadd, 1) := by decide +kernel
theorem dX8_keep_42 : decode cX8_keep 42 = .ok (.aload_n 0, 1) := by decide +kernel
theorem dX8_keep_43 : decode cX8_keep 43 = .ok (.getfield 16, 3) := by decide +kernel
theorem dX8_keep_46 : decode cX8_keep 46 = .ok (.iload_n 2, 1) := by decide +kernel
theorem dX8_keep_47 : decode cX8_keep 47 = .ok (.iaload, 1) := by decide +kernel
theorem dX8_keep_48 : decode cX8_keep 48 = .ok (.iastore, 1) := by decide +kernel
theorem dX8_keep_49 : decode cX8_keep 49 = .ok (.iinc 2 1, 3) := by decide +kernel
theorem dX8_keep_52 : decode cX8_keep 52 = .ok (.goto (-26), 3) := by decide +kernel
theorem dX8_keep_55 : decode cX8_keep 55 = .ok (.aload_n 0, 1) := by decide +kernel
theorem dX8_keep_56 : decode cX8_keep 56 = .ok (.getfield 16, 3) := by decide +kernel
theorem dX8_keep_59 : decode cX8_keep 59 = .ok (.invokestatic 105, 3) := by decide +kernel
theorem dX8_keep_62 : decode cX8_keep 62 = .ok (.ireturn, 1) := by decide +kernel
theorem dX8_again_0 : decode cX8_again 0 = .ok (.aload_n 0, 1) := by decide +kernel
theorem dX8_again_1 : decode cX8_again 1 = .ok (.iconst 0, 1) := by decide +kernel
theorem dX8_again_2 : decode cX8_again 2 = .ok (.putfield 59, 3) := by decide +kernel
theorem dX8_again_5 : decode cX8_again 5 = .ok (.iload_n 1, 1) := by decide +kernel
theorem dX8_again_6 : decode cX8_again 6 = .ok (.i2l, 1) := by decide +kernel
theorem dX8_again_7 : decode cX8_again 7 = .ok (.lconst 0, 1) := by decide +kernel
theorem dX8_again_8 : decode cX8_again 8 = .ok (.lconst 1, 1) := by decide +kernel
theorem dX8_again_9 : decode cX8_again 9 = .ok (.invokestatic 63, 3) := by decide +kernel
theorem dX8_again_12 : decode cX8_again 12 = .ok (.ifCond .ne 5, 3) := by decide +kernel
theorem dX8_again_15 : decode cX8_again 15 = .ok (.iconst (-1), 1) := by decide +kernel
theorem dX8_again_16 : decode cX8_again 16 = .ok (.ireturn, 1) := by decide +kernel
theorem dX8_again_17 : decode cX8_again 17 = .ok (.aload_n 0, 1) := by decide +kernel
theorem dX8_again_18 : decode cX8_again 18 = .ok (.getfield 28, 3) := by decide +kernel
theorem dX8_again_21 : decode cX8_again 21 = .ok (.iload_n 1, 1) := by decide +kernel
theorem dX8_again_22 : decode cX8_again 22 = .ok (.baload, 1) := by decide +kernel
theorem dX8_again_23 : decode cX8_again 23 = .ok (.ifCond .ne 6, 3) := by decide +kernel
theorem dX8_again_26 : decode cX8_again 26 = .ok (.bipush (-3), 2) := by decide +kernel
theorem dX8_again_28 : decode cX8_again 28 = .ok (.ireturn, 1) := by decide +kernel
theorem dX8_again_29 : decode cX8_again 29 = .ok (.iconst 0, 1) := by decide +kernel
theorem dX8_again_30 : decode cX8_again 30 = .ok (.istore_n 2, 1) := by decide +kernel
theorem dX8_again_31 : decode cX8_again 31 = .ok (.iload_n 2, 1) := by decide +kernel
theorem dX8_again_32 : decode cX8_again 32 = .ok (.bipush 37, 2) := by decide +kernel
theorem dX8_again_34 : decode cX8_again 34 = .ok (.if_icmp .ge 26, 3) := by decide +kernel
theorem dX8_again_37 : decode cX8_again 37 = .ok (.aload_n 0, 1) := by decide +kernel
theorem dX8_again_38 : decode cX8_again 38 = .ok (.getfield 16, 3) := by decide +kernel
theorem dX8_again_41 : decode cX8_again 41 = .ok (.iload_n 2, 1) := by decide +kernel
theorem dX8_again_42 : decode cX8_again 42 = .ok (.aload_n 0, 1) := by decide +kernel
theorem dX8_again_43 : decode cX8_again 43 = .ok (.getfield 25, 3) := by decide +kernel
theorem dX8_again_46 : decode cX8_again 46 = .ok (.bipush 37, 2) := by decide +kernel
theorem dX8_again_48 : decode cX8_again 48 = .ok (.iload_n 1, 1) := by decide +kernel
theorem dX8_again_49 : decode cX8_again 49 = .ok (.imul, 1) := by decide +kernel
theorem dX8_again_50 : decode cX8_again 50 = .ok (.iload_n 2, 1) := by decide +kernel
theorem dX8_again_51 : decode cX8_again 51 = .ok (.iadd, 1) := by decide +kernel
theorem dX8_again_52 : decode cX8_again 52 = .ok (.iaload, 1) := by decide +kernel
theorem dX8_again_53 : decode cX8_again 53 = .ok (.iastore, 1) := by decide +kernel
theorem dX8_again_54 : decode cX8_again 54 = .ok (.iinc 2 1, 3) := by decide +kernel
theorem dX8_again_57 : decode cX8_again 57 = .ok (.goto (-26), 3) := by decide +kernel
theorem dX8_again_60 : decode cX8_again 60 = .ok (.aload_n 0, 1) := by decide +kernel
theorem dX8_again_61 : decode cX8_again 61 = .ok (.iconst 0, 1) := by decide +kernel
theorem dX8_again_62 : decode cX8_again 62 = .ok (.putfield 102, 3) := by decide +kernel
theorem dX8_again_65 : decode cX8_again 65 = .ok (.aload_n 0, 1) := by decide +kernel
theorem dX8_again_66 : decode cX8_again 66 = .ok (.getfield 16, 3) := by decide +kernel
theorem dX8_again_69 : decode cX8_again 69 = .ok (.invokestatic 105, 3) := by decide +kernel
theorem dX8_again_72 : decode cX8_again 72 = .ok (.ireturn, 1) := by decide +kernel
theorem dJ6_bitCount_0f7a4_0 : decode cJ6_bitCount_0f7a4 0 = .ok (.iload_n 0, 1) := by decide +kernel
theorem dJ6_bitCount_0f7a4_1 : decode cJ6_bitCount_0f7a4 1 = .ok (.iload_n 0, 1) := by decide +kernel
theorem dJ6_bitCount_0f7a4_2 : decode cJ6_bitCount_0f7a4 2 = .ok (.iconst 1, 1) := by decide +kernel
theorem dJ6_bitCount_0f7a4_3 : decode cJ6_bitCount_0f7a4 3 = .ok (.iushr, 1) := by decide +kernel
theorem dJ6_bitCount_0f7a4_4 : decode cJ6_bitCount_0f7a4 4 = .ok (.ldc_w 265, 3) := by decide +kernel
theorem dJ6_bitCount_0f7a4_7 : decode cJ6_bitCount_0f7a4 7 = .ok (.iand, 1) := by decide +kernel
theorem dJ6_bitCount_0f7a4_8 : decode cJ6_bitCount_0f7a4 8 = .ok (.isub, 1) := by decide +kernel
theorem dJ6_bitCount_0f7a4_9 : decode cJ6_bitCount_0f7a4 9 = .ok (.istore_n 0, 1) := by decide +kernel
theorem dJ6_bitCount_0f7a4_10 : decode cJ6_bitCount_0f7a4 10 = .ok (.iload_n 0, 1) := by decide +kernel
theorem dJ6_bitCount_0f7a4_11 : decode cJ6_bitCount_0f7a4 11 = .ok (.ldc_w 266, 3) := by decide +kernel
theorem dJ6_bitCount_0f7a4_14 : decode cJ6_bitCount_0f7a4 14 = .ok (.iand, 1) := by decide +kernel
theorem dJ6_bitCount_0f7a4_15 : decode cJ6_bitCount_0f7a4 15 = .ok (.iload_n 0, 1) := by decide +kernel
theorem dJ6_bitCount_0f7a4_16 : decode cJ6_bitCount_0f7a4 16 = .ok (.iconst 2, 1) := by decide +kernel
theorem dJ6_bitCount_0f7a4_17 : decode cJ6_bitCount_0f7a4 17 = .ok (.iushr, 1) := by decide +kernel
theorem dJ6_bitCount_0f7a4_18 : decode cJ6_bitCount_0f7a4 18 = .ok (.ldc_w 266, 3) := by decide +kernel
theorem dJ6_bitCount_0f7a4_21 : decode cJ6_bitCount_0f7a4 21 = .ok (.iand, 1) := by decide +kernel
theorem dJ6_bitCount_0f7a4_22 : decode cJ6_bitCount_0f7a4 22 = .ok (.iadd, 1) := by decide +kernel
theorem dJ6_bitCount_0f7a4_23 : decode cJ6_bitCount_0f7a4 23 = .ok (.istore_n 0, 1) := by decide +kernel
theorem dJ6_bitCount_0f7a4_24 : decode cJ6_bitCount_0f7a4 24 = .ok (.iload_n 0, 1) := by decide +kernel
theorem dJ6_bitCount_0f7a4_25 : decode cJ6_bitCount_0f7a4 25 = .ok (.iload_n 0, 1) := by decide +kernel
theorem dJ6_bitCount_0f7a4_26 : decode cJ6_bitCount_0f7a4 26 = .ok (.iconst 4, 1) := by decide +kernel
theorem dJ6_bitCount_0f7a4_27 : decode cJ6_bitCount_0f7a4 27 = .ok (.iushr, 1) := by decide +kernel
theorem dJ6_bitCount_0f7a4_28 : decode cJ6_bitCount_0f7a4 28 = .ok (.iadd, 1) := by decide +kernel
theorem dJ6_bitCount_0f7a4_29 : decode cJ6_bitCount_0f7a4 29 = .ok (.ldc_w 267, 3) := by decide +kernel
theorem dJ6_bitCount_0f7a4_32 : decode cJ6_bitCount_0f7a4 32 = .ok (.iand, 1) := by decide +kernel
theorem dJ6_bitCount_0f7a4_33 : decode cJ6_bitCount_0f7a4 33 = .ok (.istore_n 0, 1) := by decide +kernel
theorem dJ6_bitCount_0f7a4_34 : decode cJ6_bitCount_0f7a4 34 = .ok (.iload_n 0, 1) := by decide +kernel
theorem dJ6_bitCount_0f7a4_35 : decode cJ6_bitCount_0f7a4 35 = .ok (.iload_n 0, 1) := by decide +kernel
theorem dJ6_bitCount_0f7a4_36 : decode cJ6_bitCount_0f7a4 36 = .ok (.bipush 8, 2) := by decide +kernel
theorem dJ6_bitCount_0f7a4_38 : decode cJ6_bitCount_0f7a4 38 = .ok (.iushr, 1) := by decide +kernel
theorem dJ6_bitCount_0f7a4_39 : decode cJ6_bitCount_0f7a4 39 = .ok (.iadd, 1) := by decide +kernel
theorem dJ6_bitCount_0f7a4_40 : decode cJ6_bitCount_0f7a4 40 = .ok (.istore_n 0, 1) := by decide +kernel
theorem dJ6_bitCount_0f7a4_41 : decode cJ6_bitCount_0f7a4 41 = .ok (.iload_n 0, 1) := by decide +kernel
theorem dJ6_bitCount_0f7a4_42 : decode cJ6_bitCount_0f7a4 42 = .ok (.iload_n 0, 1) := by decide +kernel
theorem dJ6_bitCount_0f7a4_43 : decode cJ6_bitCount_0f7a4 43 = .ok (.bipush 16, 2) := by decide +kernel
theorem dJ6_bitCount_0f7a4_45 : decode cJ6_bitCount_0f7a4 45 = .ok (.iushr, 1) := by decide +kernel
theorem dJ6_bitCount_0f7a4_46 : decode cJ6_bitCount_0f7a4 46 = .ok (.iadd, 1) := by decide +kernel
theorem dJ6_bitCount_0f7a4_47 : decode cJ6_bitCount_0f7a4 47 = .ok (.istore_n 0, 1) := by decide +kernel
theorem dJ6_bitCount_0f7a4_48 : decode cJ6_bitCount_0f7a4 48 = .ok (.iload_n 0, 1) := by decide +kernel
theorem dJ6_bitCount_0f7a4_49 : decode cJ6_bitCount_0f7a4 49 = .ok (.bipush 63, 2) := by decide +kernel
theorem dJ6_bitCount_0f7a4_51 : decode cJ6_bitCount_0f7a4 51 = .ok (.iand, 1) := by decide +kernel
theorem dJ6_bitCount_0f7a4_52 : decode cJ6_bitCount_0f7a4 52 = .ok (.ireturn, 1) := by decide +kernel
theorem dJ9_max_7cf53_0 : decode cJ9_max_7cf53 0 = .ok (.iload_n 0, 1) := by decide +kernel
theorem dJ9_max_7cf53_1 : decode cJ9_max_7cf53 1 = .ok (.iload_n 1, 1) := by decide +kernel
theorem dJ9_max_7cf53_2 : decode cJ9_max_7cf53 2 = .ok (.if_icmp .lt 7, 3) := by decide +kernel
theorem dJ9_max_7cf53_5 : decode cJ9_max_7cf53 5 = .ok (.iload_n 0, 1) := by decide +kernel
theorem dJ9_max_7cf53_6 : decode cJ9_max_7cf53 6 = .ok (.goto 4, 3) := by decide +kernel
theorem dJ9_max_7cf53_9 : decode cJ9_max_7cf53 9 = .ok (.iload_n 1, 1) := by decide +kernel
theorem dJ9_max_7cf53_10 : decode cJ9_max_7cf53 10 = .ok (.ireturn, 1) := by decide +kernel
theorem dJ9_min_7cf53_0 : decode cJ9_min_7cf53 0 = .ok (.iload_n 0, 1) := by decide +kernel
theorem dJ9_min_7cf53_1 : decode cJ9_min_7cf53 1 = .ok (.iload_n 1, 1) := by decide +kernel
theorem dJ9_min_7cf53_2 : decode cJ9_min_7cf53 2 = .ok (.if_icmp .gt 7, 3) := by decide +kernel
theorem dJ9_min_7cf53_5 : decode cJ9_min_7cf53 5 = .ok (.iload_n 0, 1) := by decide +kernel
theorem dJ9_min_7cf53_6 : decode cJ9_min_7cf53 6 = .ok (.goto 4, 3) := by decide +kernel
theorem dJ9_min_7cf53_9 : decode cJ9_min_7cf53 9 = .ok (.iload_n 1, 1) := by decide +kernel
theorem dJ9_min_7cf53_10 : decode cJ9_min_7cf53 10 = .ok (.ireturn, 1) := by decide +kernel
theorem dJ7_fill_53178_0 : decode cJ7_fill_53178 0 = .ok (.iconst 0, 1) := by decide +kernel
theorem dJ7_fill_53178_1 : decode cJ7_fill_53178 1 = .ok (.istore_n 2, 1) := by decide +kernel
theorem dJ7_fill_53178_2 : decode cJ7_fill_53178 2 = .ok (.aload_n 0, 1) := by decide +kernel
theorem dJ7_fill_53178_3 : decode cJ7_fill_53178 3 = .ok (.arraylength, 1) := by decide +kernel
theorem dJ7_fill_53178_4 : decode cJ7_fill_53178 4 = .ok (.istore_n 3, 1) := by decide +kernel
theorem dJ7_fill_53178_5 : decode cJ7_fill_53178 5 = .ok (.iload_n 2, 1) := by decide +kernel
theorem dJ7_fill_53178_6 : decode cJ7_fill_53178 6 = .ok (.iload_n 3, 1) := by decide +kernel
theorem dJ7_fill_53178_7 : decode cJ7_fill_53178 7 = .ok (.if_icmp .ge 13, 3) := by decide +kernel
theorem dJ7_fill_53178_10 : decode cJ7_fill_53178 10 = .ok (.aload_n 0, 1) := by decide +kernel
theorem dJ7_fill_53178_11 : decode cJ7_fill_53178 11 = .ok (.iload_n 2, 1) := by decide +kernel
theorem dJ7_fill_53178_12 : decode cJ7_fill_53178 12 = .ok (.iload_n 1, 1) := by decide +kernel
theorem dJ7_fill_53178_13 : decode cJ7_fill_53178 13 = .ok (.iastore, 1) := by decide +kernel
theorem dJ7_fill_53178_14 : decode cJ7_fill_53178 14 = .ok (.iinc 2 1, 3) := by decide +kernel
theorem dJ7_fill_53178_17 : decode cJ7_fill_53178 17 = .ok (.goto (-12), 3) := by decide +kernel
theorem dJ7_fill_53178_20 : decode cJ7_fill_53178 20 = .ok (.return_, 1) := by decide +kernel
theorem dL_law_0 : decode cL_law 0 = .ok (.new 7, 3) := by decide +kernel
theorem dL_law_3 : decode cL_law 3 = .ok (.dup, 1) := by decide +kernel
theorem dL_law_4 : decode cL_law 4 = .ok (.invokespecial 9, 3) := by decide +kernel
theorem dL_law_7 : decode cL_law 7 = .ok (.astore_n 1, 1) := by decide +kernel
theorem dL_law_8 : decode cL_law 8 = .ok (.new 10, 3) := by decide +kernel
theorem dL_law_11 : decode cL_law 11 = .ok (.dup, 1) := by decide +kernel
theorem dL_law_12 : decode cL_law 12 = .ok (.invokespecial 12, 3) := by decide +kernel
theorem dL_law_15 : decode cL_law 15 = .ok (.astore_n 2, 1) := by decide +kernel
theorem dL_law_16 : decode cL_law 16 = .ok (.iconst 0, 1) := by decide +kernel
theorem dL_law_17 : decode cL_law 17 = .ok (.istore_n 3, 1) := by decide +kernel
theorem dL_law_18 : decode cL_law 18 = .ok (.iload_n 3, 1) := by decide +kernel
theorem dL_law_19 : decode cL_law 19 = .ok (.aload_n 0, 1) := by decide +kernel
theorem dL_law_20 : decode cL_law 20 = .ok (.arraylength, 1) := by decide +kernel
theorem dL_law_21 : decode cL_law 21 = .ok (.bipush 6, 2) := by decide +kernel
theorem dL_law_23 : decode cL_law 23 = .ok (.isub, 1) := by decide +kernel
theorem dL_law_24 : decode cL_law 24 = .ok (.if_icmp .gt 1048, 3) := by decide +kernel
theorem dL_law_27 : decode cL_law 27 = .ok (.aload_n 0, 1) := by decide +kernel
theorem dL_law_28 : decode cL_law 28 = .ok (.iload_n 3, 1) := by decide +kernel
theorem dL_law_29 : decode cL_law 29 = .ok (.iaload, 1) := by decide +kernel
theorem dL_law_30 : decode cL_law 30 = .ok (.bipush 31, 2) := by decide +kernel
theorem dL_law_32 : decode cL_law 32 = .ok (.iand, 1) := by decide +kernel
theorem dL_law_33 : decode cL_law 33 = .ok (.tableswitch 1033 0 26 #[123, 146, 159, 172, 185, 208, 241, 284, 317, 360, 373, 412, 445, 478, 521, 584, 627, 650, 713, 762, 805, 818, 841, 910, 964, 987, 1010], 123) := by decide +kernel
theorem dL_law_156 : decode cL_law 156 = .ok (.aload_n 1, 1) := by decide +kernel
theorem dL_law_157 : decode cL_law 157 = .ok (.aload_n 0, 1) := by decide +kernel
theorem dL_law_158 : decode cL_law 158 = .ok (.iload_n 3, 1) := by decide +kernel
theorem dL_law_159 : decode cL_law 159 = .ok (.iconst 1, 1) := by decide +kernel
theorem dL_law_160 : decode cL_law 160 = .ok (.iadd, 1) := by decide +kernel
theorem dL_law_161 : decode cL_law 161 = .ok (.iaload, 1) := by decide +kernel
theorem dL_law_162 : decode cL_law 162 = .ok (.invokevirtual 13, 3) := by decide +kernel
theorem dL_law_165 : decode cL_law 165 = .ok (.aload_n 2, 1) := by decide +kernel
theorem dL_law_166 : decode cL_law 166 = .ok (.aload_n 0, 1) := by decide +kernel
theorem dL_law_167 : decode cL_law 167 = .ok (.iload_n 3, 1) := by decide +kernel
theorem dL_law_168 : decode cL_law 168 = .ok (.iconst 1, 1) := by decide +kernel
theorem dL_law_169 : decode cL_law 169 = .ok (.iadd, 1) := by decide +kernel
theorem dL_law_170 : decode cL_law 170 = .ok (.iaload, 1) := by decide +kernel
theorem dL_law_171 : decode cL_law 171 = .ok (.invokevirtual 17, 3) := by decide +kernel
theorem dL_law_174 : decode cL_law 174 = .ok (.if_icmp .eq 892, 3) := by decide +kernel
theorem dL_law_177 : decode cL_law 177 = .ok (.iconst 0, 1) := by decide +kernel
theorem dL_law_178 : decode cL_law 178 = .ok (.ireturn, 1) := by decide +kernel
theorem dL_law_179 : decode cL_law 179 = .ok (.aload_n 1, 1) := by decide +kernel
theorem dL_law_180 : decode cL_law 180 = .ok (.invokevirtual 18, 3) := by decide +kernel
theorem dL_law_183 : decode cL_law 183 = .ok (.aload_n 2, 1) := by decide +kernel
theorem dL_law_184 : decode cL_law 184 = .ok (.invokevirtual 22, 3) := by decide +kernel
theorem dL_law_187 : decode cL_law 187 = .ok (.if_icmp .eq 879, 3) := by decide +kernel
theorem dL_law_190 : decode cL_law 190 = .ok (.iconst 0, 1) := by decide +kernel
theorem dL_law_191 : decode cL_law 191 = .ok (.ireturn, 1) := by decide +kernel
theorem dL_law_192 : decode cL_law 192 = .ok (.aload_n 1, 1) := by decide +kernel
theorem dL_law_193 : decode cL_law 193 = .ok (.invokevirtual 23, 3) := by decide +kernel
theorem dL_law_196 : decode cL_law 196 = .ok (.aload_n 2, 1) := by decide +kernel
theorem dL_law_197 : decode cL_law 197 = .ok (.invokevirtual 26, 3) := by decide +kernel
theorem dL_law_200 : decode cL_law 200 = .ok (.if_icmp .eq 866, 3) := by decide +kernel
theorem dL_law_203 : decode cL_law 203 = .ok (.iconst 0, 1) := by decide +kernel
theorem dL_law_204 : decode cL_law 204 = .ok (.ireturn, 1) := by decide +kernel
theorem dL_law_205 : decode cL_law 205 = .ok (.aload_n 1, 1) := by decide +kernel
theorem dL_law_206 : decode cL_law 206 = .ok (.invokevirtual 27, 3) := by decide +kernel
theorem dL_law_209 : decode cL_law 209 = .ok (.aload_n 2, 1) := by decide +kernel
theorem dL_law_210 : decode cL_law 210 = .ok (.invokevirtual 30, 3) := by decide +kernel
theorem dL_law_213 : decode cL_law 213 = .ok (.if_icmp .eq 853, 3) := by decide +kernel
theorem dL_law_216 : decode cL_law 216 = .ok (.iconst 0, 1) := by decide +kernel
theorem dL_law_217 : decode cL_law 217 = .ok (.ireturn, 1) := by decide +kernel
theorem dL_law_218 : decode cL_law 218 = .ok (.aload_n 1, 1) := by decide +kernel
theorem dL_law_219 : decode cL_law 219 = .ok (.aload_n 0, 1) := by decide +kernel
theorem dL_law_220 : decode cL_law 220 = .ok (.iload_n 3, 1) := by decide +kernel
theorem dL_law_221 : decode cL_law 221 = .ok (.iconst 1, 1) := by decide +kernel
theorem dL_law_222 : decode cL_law 222 = .ok (.iadd, 1) := by decide +kernel
theorem dL_law_223 : decode cL_law 223 = .ok (.iaload, 1) := by decide +kernel
theorem dL_law_224 : decode cL_law 224 = .ok (.invokevirtual 31, 3) := by decide +kernel
theorem dL_law_227 : decode cL_law 227 = .ok (.aload_n 2, 1) := by decide +kernel
theorem dL_law_228 : decode cL_law 228 = .ok (.aload_n 0, 1) := by decide +kernel
theorem dL_law_229 : decode cL_law 229 = .ok (.iload_n 3, 1) := by decide +kernel
theorem dL_law_230 : decode cL_law 230 = .ok (.iconst 1, 1) := by decide +kernel
theorem dL_law_231 : decode cL_law 231 = .ok (.iadd, 1) := by decide +kernel
theorem dL_law_232 : decode cL_law 232 = .ok (.iaload, 1) := by decide +kernel
theorem dL_law_233 : decode cL_law 233 = .ok (.invokevirtual 34, 3) := by decide +kernel
theorem dL_law_236 : decode cL_law 236 = .ok (.if_icmp .eq 830, 3) := by decide +kernel
theorem dL_law_239 : decode cL_law 239 = .ok (.iconst 0, 1) := by decide +kernel
theorem dL_law_240 : decode cL_law 240 = .ok (.ireturn, 1) := by decide +kernel
theorem dL_law_241 : decode cL_law 241 = .ok (.aload_n 1, 1) := by decide +kernel
theorem dL_law_242 : decode cL_law 242 = .ok (.aload_n 0, 1) := by decide +kernel
theorem dL_law_243 : decode cL_law 243 = .ok (.iload_n 3, 1) := by decide +kernel
theorem dL_law_244 : decode cL_law 244 = .ok (.iconst 1, 1) := by decide +kernel
theorem dL_law_245 : decode cL_law 245 = .ok (.iadd, 1) := by decide +kernel
theorem dL_law_246 : decode cL_law 246 = .ok (.iaload, 1) := by decide +kernel
theorem dL_law_247 : decode cL_law 247 = .ok (.aload_n 0, 1) := by decide +kernel
theorem dL_law_248 : decode cL_law 248 = .ok (.iload_n 3, 1) := by decide +kernel
theorem dL_law_249 : decode cL_law 249 = .ok (.iconst 2, 1) := by decide +kernel
theorem dL_law_250 : decode cL_law 250 = .ok (.iadd, 1) := by decide +kernel
theorem dL_law_251 : decode cL_law 251 = .ok (.iaload, 1) := by decide +kernel
theorem dL_law_252 : decode cL_law 252 = .ok (.invokevirtual 35, 3) := by decide +kernel
theorem dL_law_255 : decode cL_law 255 = .ok (.aload_n 2, 1) := by decide +kernel
theorem dL_law_256 : decode cL_law 256 = .ok (.aload_n 0, 1) := by decide +kernel
theorem dL_law_257 : decode cL_law 257 = .ok (.iload_n 3, 1) := by decide +kernel
theorem dL_law_258 : decode cL_law 258 = .ok (.iconst 1, 1) := by decide +kernel
theorem dL_law_259 : decode cL_law 259 = .ok (.iadd, 1) := by decide +kernel
theorem dL_law_260 : decode cL_law 260 = .ok (.iaload, 1) := by decide +kernel
theorem dL_law_261 : decode cL_law 261 = .ok (.aload_n 0, 1) := by decide +kernel
theorem dL_law_262 : decode cL_law 262 = .ok (.iload_n 3, 1) := by decide +kernel
theorem dL_law_263 : decode cL_law 263 = .ok (.iconst 2, 1) := by decide +kernel
theorem dL_law_264 : decode cL_law 264 = .ok (.iadd, 1) := by decide +kernel
theorem dL_law_265 : decode cL_law 265 = .ok (.iaload, 1) := by decide +kernel
theorem dL_law_266 : decode cL_law 266 = .ok (.invokevirtual 39, 3) := by decide +kernel
theorem dL_law_269 : decode cL_law 269 = .ok (.if_icmp .eq 797, 3) := by decide +kernel
theorem dL_law_272 : decode cL_law 272 = .ok (.iconst 0, 1) := by decide +kernel
theorem dL_law_273 : decode cL_law 273 = .ok (.ireturn, 1) := by decide +kernel
theorem dL_law_274 : decode cL_law 274 = .ok (.aload_n 1, 1) := by decide +kernel
theorem dL_law_275 : decode cL_law 275 = .ok (.aload_n 0, 1) := by decide +kernel
theorem dL_law_276 : decode cL_law 276 = .ok (.iload_n 3, 1) := by decide +kernel
theorem dL_law_277 : decode cL_law 277 = .ok (.iconst 1, 1) := by decide +kernel
theorem dL_law_278 : decode cL_law 278 = .ok (.iadd, 1) := by decide +kernel
theorem dL_law_279 : decode cL_law 279 = .ok (.iaload, 1) := by decide +kernel
theorem dL_law_280 : decode cL_law 280 = .ok (.aload_n 0, 1) := by decide +kernel
theorem dL_law_281 : decode cL_law 281 = .ok (.iload_n 3, 1) := by decide +kernel
theorem dL_law_282 : decode cL_law 282 = .ok (.iconst 2, 1) := by decide +kernel
theorem dL_law_283 : decode cL_law 283 = .ok (.iadd, 1) := by decide +kernel
theorem dL_law_284 : decode cL_law 284 = .ok (.iaload, 1) := by decide +kernel
theorem dL_law_285 : decode cL_law 285 = .ok (.aload_n 0, 1) := by decide +kernel
theorem dL_law_286 : decode cL_law 286 = .ok (.iload_n 3, 1) := by decide +kernel
theorem dL_law_287 : decode cL_law 287 = .ok (.iconst 3, 1) := by decide +kernel
theorem dL_law_288 : decode cL_law 288 = .ok (.iadd, 1) := by decide +kernel
theorem dL_law_289 : decode cL_law 289 = .ok (.iaload, 1) := by decide +kernel
theorem dL_law_290 : decode cL_law 290 = .ok (.invokevirtual 40, 3) := by decide +kernel
theorem dL_law_293 : decode cL_law 293 = .ok (.aload_n 2, 1) := by decide +kernel
theorem dL_law_294 : decode cL_law 294 = .ok (.aload_n 0, 1) := by decide +kernel
theorem dL_law_295 : decode cL_law 295 = .ok (.iload_n 3, 1) := by decide +kernel
theorem dL_law_296 : decode cL_law 296 = .ok (.iconst 1, 1) := by decide +kernel
theorem dL_law_297 : decode cL_law 297 = .ok (.iadd, 1) := by decide +kernel
theorem dL_law_298 : decode cL_law 298 = .ok (.iaload, 1) := by decide +kernel
theorem dL_law_299 : decode cL_law 299 = .ok (.aload_n 0, 1) := by decide +kernel
theorem dL_law_300 : decode cL_law 300 = .ok (.iload_n 3, 1) := by decide +kernel
theorem dL_law_301 : decode cL_law 301 = .ok (.iconst 2, 1) := by decide +kernel
theorem dL_law_302 : decode cL_law 302 = .ok (.iadd, 1) := by decide +kernel
theorem dL_law_303 : decode cL_law 303 = .ok (.iaload, 1) := by decide +kernel
theorem dL_law_304 : decode cL_law 304 = .ok (.aload_n 0, 1) := by decide +kernel
theorem dL_law_305 : decode cL_law 305 = .ok (.iload_n 3, 1) := by decide +kernel
theorem dL_law_306 : decode cL_law 306 = .ok (.iconst 3, 1) := by decide +kernel
theorem dL_law_307 : decode cL_law 307 = .ok (.iadd, 1) := by decide +kernel
theorem dL_law_308 : decode cL_law 308 = .ok (.iaload, 1) := by decide +kernel
theorem dL_law_309 : decode cL_law 309 = .ok (.invokevirtual 44, 3) := by decide +kernel
theorem dL_law_312 : decode cL_law 312 = .ok (.if_icmp .eq 754, 3) := by decide +kernel
theorem dL_law_315 : decode cL_law 315 = .ok (.iconst 0, 1) := by decide +kernel
theorem dL_law_316 : decode cL_law 316 = .ok (.ireturn, 1) := by decide +kernel
theorem dL_law_317 : decode cL_law 317 = .ok (.aload_n 1, 1) := by decide +kernel
theorem dL_law_318 : decode cL_law 318 = .ok (.aload_n 0, 1) := by decide +kernel
theorem dL_law_319 : decode cL_law 319 = .ok (.iload_n 3, 1) := by decide +kernel
theorem dL_law_320 : decode cL_law 320 = .ok (.iconst 1, 1) := by decide +kernel
theorem dL_law_321 : decode cL_law 321 = .ok (.iadd, 1) := by decide +kernel
theorem dL_law_322 : decode cL_law 322 = .ok (.iaload, 1) := by decide +kernel
theorem dL_law_323 : decode cL_law 323 = .ok (.aload_n 0, 1) := by decide +kernel
theorem dL_law_324 : decode cL_law 324 = .ok (.iload_n 3, 1) := by decide +kernel
theorem dL_law_325 : decode cL_law 325 = .ok (.iconst 2, 1) := by decide +kernel
theorem dL_law_326 : decode cL_law 326 = .ok (.iadd, 1) := by decide +kernel
theorem dL_law_327 : decode cL_law 327 = .ok (.iaload, 1) := by decide +kernel
theorem dL_law_328 : decode cL_law 328 = .ok (.invokevirtual 45, 3) := by decide +kernel
theorem dL_law_331 : decode cL_law 331 = .ok (.aload_n 2, 1) := by decide +kernel
theorem dL_law_332 : decode cL_law 332 = .ok (.aload_n 0, 1) := by decide +kernel
theorem dL_law_333 : decode cL_law 333 = .ok (.iload_n 3, 1) := by decide +kernel
theorem dL_law_334 : decode cL_law 334 = .ok (.iconst 1, 1) := by decide +kernel
theorem dL_law_335 : decode cL_law 335 = .ok (.iadd, 1) := by decide +kernel
theorem dL_law_336 : decode cL_law 336 = .ok (.iaload, 1) := by decide +kernel
theorem dL_law_337 : decode cL_law 337 = .ok (.aload_n 0, 1) := by decide +kernel
theorem dL_law_338 : decode cL_law 338 = .ok (.iload_n 3, 1) := by decide +kernel
theorem dL_law_339 : decode cL_law 339 = .ok (.iconst 2, 1) := by decide +kernel
theorem dL_law_340 : decode cL_law 340 = .ok (.iadd, 1) := by decide +kernel
theorem dL_law_341 : decode cL_law 341 = .ok (.iaload, 1) := by decide +kernel
theorem dL_law_342 : decode cL_law 342 = .ok (.invokevirtual 48, 3) := by decide +kernel
theorem dL_law_345 : decode cL_law 345 = .ok (.if_icmp .eq 721, 3) := by decide +kernel
theorem dL_law_348 : decode cL_law 348 = .ok (.iconst 0, 1) := by decide +kernel
theorem dL_law_349 : decode cL_law 349 = .ok (.ireturn, 1) := by decide +kernel
theorem dL_law_350 : decode cL_law 350 = .ok (.aload_n 1, 1) := by decide +kernel
theorem dL_law_351 : decode cL_law 351 = .ok (.aload_n 0, 1) := by decide +kernel
theorem dL_law_352 : decode cL_law 352 = .ok (.iload_n 3, 1) := by decide +kernel
theorem dL_law_353 : decode cL_law 353 = .ok (.iconst 1, 1) := by decide +kernel
theorem dL_law_354 : decode cL_law 354 = .ok (.iadd, 1) := by decide +kernel
theorem dL_law_355 : decode cL_law 355 = .ok (.iaload, 1) := by decide +kernel
theorem dL_law_356 : decode cL_law 356 = .ok (.aload_n 0, 1) := by decide +kernel
theorem dL_law_357 : decode cL_law 357 = .ok (.iload_n 3, 1) := by decide +kernel
theorem dL_law_358 : decode cL_law 358 = .ok (.iconst 2, 1) := by decide +kernel
theorem dL_law_359 : decode cL_law 359 = .ok (.iadd, 1) := by decide +kernel
theorem dL_law_360 : decode cL_law 360 = .ok (.iaload, 1) := by decide +kernel
theorem dL_law_361 : decode cL_law 361 = .ok (.aload_n 0, 1) := by decide +kernel
theorem dL_law_362 : decode cL_law 362 = .ok (.iload_n 3, 1) := by decide +kernel
theorem dL_law_363 : decode cL_law 363 = .ok (.iconst 3, 1) := by decide +kernel
theorem dL_law_364 : decode cL_law 364 = .ok (.iadd, 1) := by decide +kernel
theorem dL_law_365 : decode cL_law 365 = .ok (.iaload, 1) := by decide +kernel
theorem dL_law_366 : decode cL_law 366 = .ok (.invokevirtual 49, 3) := by decide +kernel
theorem dL_law_369 : decode cL_law 369 = .ok (.aload_n 2, 1) := by decide +kernel
theorem dL_law_370 : decode cL_law 370 = .ok (.aload_n 0, 1) := by decide +kernel
theorem dL_law_371 : decode cL_law 371 = .ok (.iload_n 3, 1) := by decide +kernel
theorem dL_law_372 : decode cL_law 372 = .ok (.iconst 1, 1) := by decide +kernel
theorem dL_law_373 : decode cL_law 373 = .ok (.iadd, 1) := by decide +kernel
theorem dL_law_374 : decode cL_law 374 = .ok (.iaload, 1) := by decide +kernel
theorem dL_law_375 : decode cL_law 375 = .ok (.aload_n 0, 1) := by decide +kernel
theorem dL_law_376 : decode cL_law 376 = .ok (.iload_n 3, 1) := by decide +kernel
theorem dL_law_377 : decode cL_law 377 = .ok (.iconst 2, 1) := by decide +kernel
theorem dL_law_378 : decode cL_law 378 = .ok (.iadd, 1) := by decide +kernel
theorem dL_law_379 : decode cL_law 379 = .ok (.iaload, 1) := by decide +kernel
theorem dL_law_380 : decode cL_law 380 = .ok (.aload_n 0, 1) := by decide +kernel
theorem dL_law_381 : decode cL_law 381 = .ok (.iload_n 3, 1) := by decide +kernel
theorem dL_law_382 : decode cL_law 382 = .ok (.iconst 3, 1) := by decide +kernel
theorem dL_law_383 : decode cL_law 383 = .ok (.iadd, 1) := by decide +kernel
theorem dL_law_384 : decode cL_law 384 = .ok (.iaload, 1) := by decide +kernel
theorem dL_law_385 : decode cL_law 385 = .ok (.invokevirtual 52, 3) := by decide +kernel
theorem dL_law_388 : decode cL_law 388 = .ok (.if_icmp .eq 678, 3) := by decide +kernel
theorem dL_law_391 : decode cL_law 391 = .ok (.iconst 0, 1) := by decide +kernel
theorem dL_law_392 : decode cL_law 392 = .ok (.ireturn, 1) := by decide +kernel
theorem dL_law_393 : decode cL_law 393 = .ok (.aload_n 1, 1) := by decide +kernel
theorem dL_law_394 : decode cL_law 394 = .ok (.invokevirtual 53, 3) := by decide +kernel
theorem dL_law_397 : decode cL_law 397 = .ok (.aload_n 2, 1) := by decide +kernel
theorem dL_law_398 : decode cL_law 398 = .ok (.invokevirtual 56, 3) := by decide +kernel
theorem dL_law_401 : decode cL_law 401 = .ok (.if_icmp .eq 665, 3) := by decide +kernel
theorem dL_law_404 : decode cL_law 404 = .ok (.iconst 0, 1) := by decide +kernel
theorem dL_law_405 : decode cL_law 405 = .ok (.ireturn, 1) := by decide +kernel
theorem dL_law_406 : decode cL_law 406 = .ok (.aload_n 1, 1) := by decide +kernel
theorem dL_law_407 : decode cL_law 407 = .ok (.aload_n 0, 1) := by decide +kernel
theorem dL_law_408 : decode cL_law 408 = .ok (.iload_n 3, 1) := by decide +kernel
theorem dL_law_409 : decode cL_law 409 = .ok (.iconst 1, 1) := by decide +kernel
theorem dL_law_410 : decode cL_law 410 = .ok (.iadd, 1) := by decide +kernel
theorem dL_law_411 : decode cL_law 411 = .ok (.iaload, 1) := by decide +kernel
theorem dL_law_412 : decode cL_law 412 = .ok (.ifCond .eq 7, 3) := by decide +kernel
theorem dL_law_415 : decode cL_law 415 = .ok (.iconst 1, 1) := by decide +kernel
theorem dL_law_416 : decode cL_law 416 = .ok (.goto 4, 3) := by decide +kernel
theorem dL_law_419 : decode cL_law 419 = .ok (.iconst 0, 1) := by decide +kernel
theorem dL_law_420 : decode cL_law 420 = .ok (.invokevirtual 57, 3) := by decide +kernel
theorem dL_law_423 : decode cL_law 423 = .ok (.aload_n 2, 1) := by decide +kernel
theorem dL_law_424 : decode cL_law 424 = .ok (.aload_n 0, 1) := by decide +kernel
theorem dL_law_425 : decode cL_law 425 = .ok (.iload_n 3, 1) := by decide +kernel
theorem dL_law_426 : decode cL_law 426 = .ok (.iconst 1, 1) := by decide +kernel
theorem dL_law_427 : decode cL_law 427 = .ok (.iadd, 1) := by decide +kernel
theorem dL_law_428 : decode cL_law 428 = .ok (.iaload, 1) := by decide +kernel
theorem dL_law_429 : decode cL_law 429 = .ok (.ifCond .eq 7, 3) := by decide +kernel
theorem dL_law_432 : decode cL_law 432 = .ok (.iconst 1, 1) := by decide +kernel
theorem dL_law_433 : decode cL_law 433 = .ok (.goto 4, 3) := by decide +kernel
theorem dL_law_436 : decode cL_law 436 = .ok (.iconst 0, 1) := by decide +kernel
theorem dL_law_437 : decode cL_law 437 = .ok (.invokevirtual 61, 3) := by decide +kernel
theorem dL_law_440 : decode cL_law 440 = .ok (.if_icmp .eq 626, 3) := by decide +kernel
theorem dL_law_443 : decode cL_law 443 = .ok (.iconst 0, 1) := by decide +kernel
theorem dL_law_444 : decode cL_law 444 = .ok (.ireturn, 1) := by decide +kernel
theorem dL_law_445 : decode cL_law 445 = .ok (.aload_n 1, 1) := by decide +kernel
theorem dL_law_446 : decode cL_law 446 = .ok (.aload_n 0, 1) := by decide +kernel
theorem dL_law_447 : decode cL_law 447 = .ok (.iload_n 3, 1) := by decide +kernel
theorem dL_law_448 : decode cL_law 448 = .ok (.iconst 1, 1) := by decide +kernel
theorem dL_law_449 : decode cL_law 449 = .ok (.iadd, 1) := by decide +kernel
theorem dL_law_450 : decode cL_law 450 = .ok (.iaload, 1) := by decide +kernel
theorem dL_law_451 : decode cL_law 451 = .ok (.aload_n 0, 1) := by decide +kernel
theorem dL_law_452 : decode cL_law 452 = .ok (.iload_n 3, 1) := by decide +kernel
theorem dL_law_453 : decode cL_law 453 = .ok (.iconst 2, 1) := by decide +kernel
theorem dL_law_454 : decode cL_law 454 = .ok (.iadd, 1) := by decide +kernel
theorem dL_law_455 : decode cL_law 455 = .ok (.iaload, 1) := by decide +kernel
theorem dL_law_456 : decode cL_law 456 = .ok (.invokevirtual 62, 3) := by decide +kernel
theorem dL_law_459 : decode cL_law 459 = .ok (.aload_n 2, 1) := by decide +kernel
theorem dL_law_460 : decode cL_law 460 = .ok (.aload_n 0, 1) := by decide +kernel
theorem dL_law_461 : decode cL_law 461 = .ok (.iload_n 3, 1) := by decide +kernel
theorem dL_law_462 : decode cL_law 462 = .ok (.iconst 1, 1) := by decide +kernel
theorem dL_law_463 : decode cL_law 463 = .ok (.iadd, 1) := by decide +kernel
theorem dL_law_464 : decode cL_law 464 = .ok (.iaload, 1) := by decide +kernel
theorem dL_law_465 : decode cL_law 465 = .ok (.aload_n 0, 1) := by decide +kernel
theorem dL_law_466 : decode cL_law 466 = .ok (.iload_n 3, 1) := by decide +kernel
theorem dL_law_467 : decode cL_law 467 = .ok (.iconst 2, 1) := by decide +kernel
theorem dL_law_468 : decode cL_law 468 = .ok (.iadd, 1) := by decide +kernel
theorem dL_law_469 : decode cL_law 469 = .ok (.iaload, 1) := by decide +kernel
theorem dL_law_470 : decode cL_law 470 = .ok (.invokevirtual 65, 3) := by decide +kernel
theorem dL_law_473 : decode cL_law 473 = .ok (.if_icmp .eq 593, 3) := by decide +kernel
theorem dL_law_476 : decode cL_law 476 = .ok (.iconst 0, 1) := by decide +kernel
theorem dL_law_477 : decode cL_law 477 = .ok (.ireturn, 1) := by decide +kernel
theorem dL_law_478 : decode cL_law 478 = .ok (.aload_n 1, 1) := by decide +kernel
theorem dL_law_479 : decode cL_law 479 = .ok (.aload_n 0, 1) := by decide +kernel
theorem dL_law_480 : decode cL_law 480 = .ok (.iload_n 3, 1) := by decide +kernel
theorem dL_law_481 : decode cL_law 481 = .ok (.iconst 1, 1) := by decide +kernel
theorem dL_law_482 : decode cL_law 482 = .ok (.iadd, 1) := by decide +kernel
theorem dL_law_483 : decode cL_law 483 = .ok (.iaload, 1) := by decide +kernel
theorem dL_law_484 : decode cL_law 484 = .ok (.aload_n 0, 1) := by decide +kernel
theorem dL_law_485 : decode cL_law 485 = .ok (.iload_n 3, 1) := by decide +kernel
theorem dL_law_486 : decode cL_law 486 = .ok (.iconst 2, 1) := by decide +kernel
theorem dL_law_487 : decode cL_law 487 = .ok (.iadd, 1) := by decide +kernel
theorem dL_law_488 : decode cL_law 488 = .ok (.iaload, 1) := by decide +kernel
theorem dL_law_489 : decode cL_law 489 = .ok (.invokevirtual 66, 3) := by decide +kernel
theorem dL_law_492 : decode cL_law 492 = .ok (.aload_n 2, 1) := by decide +kernel
theorem dL_law_493 : decode cL_law 493 = .ok (.aload_n 0, 1) := by decide +kernel
theorem dL_law_494 : decode cL_law 494 = .ok (.iload_n 3, 1) := by decide +kernel
theorem dL_law_495 : decode cL_law 495 = .ok (.iconst 1, 1) := by decide +kernel
theorem dL_law_496 : decode cL_law 496 = .ok (.iadd, 1) := by decide +kernel
theorem dL_law_497 : decode cL_law 497 = .ok (.iaload, 1) := by decide +kernel
theorem dL_law_498 : decode cL_law 498 = .ok (.aload_n 0, 1) := by decide +kernel
theorem dL_law_499 : decode cL_law 499 = .ok (.iload_n 3, 1) := by decide +kernel
theorem dL_law_500 : decode cL_law 500 = .ok (.iconst 2, 1) := by decide +kernel
theorem dL_law_501 : decode cL_law 501 = .ok (.iadd, 1) := by decide +kernel
theorem dL_law_502 : decode cL_law 502 = .ok (.iaload, 1) := by decide +kernel
theorem dL_law_503 : decode cL_law 503 = .ok (.invokevirtual 69, 3) := by decide +kernel
theorem dL_law_506 : decode cL_law 506 = .ok (.if_icmp .eq 560, 3) := by decide +kernel
theorem dL_law_509 : decode cL_law 509 = .ok (.iconst 0, 1) := by decide +kernel
theorem dL_law_510 : decode cL_law 510 = .ok (.ireturn, 1) := by decide +kernel
theorem dL_law_511 : decode cL_law 511 = .ok (.aload_n 1, 1) := by decide +kernel
theorem dL_law_512 : decode cL_law 512 = .ok (.aload_n 0, 1) := by decide +kernel
theorem dL_law_513 : decode cL_law 513 = .ok (.iload_n 3, 1) := by decide +kernel
theorem dL_law_514 : decode cL_law 514 = .ok (.iconst 1, 1) := by decide +kernel
theorem dL_law_515 : decode cL_law 515 = .ok (.iadd, 1) := by decide +kernel
theorem dL_law_516 : decode cL_law 516 = .ok (.iaload, 1) := by decide +kernel
theorem dL_law_517 : decode cL_law 517 = .ok (.aload_n 0, 1) := by decide +kernel
theorem dL_law_518 : decode cL_law 518 = .ok (.iload_n 3, 1) := by decide +kernel
theorem dL_law_519 : decode cL_law 519 = .ok (.iconst 2, 1) := by decide +kernel
theorem dL_law_520 : decode cL_law 520 = .ok (.iadd, 1) := by decide +kernel
theorem dL_law_521 : decode cL_law 521 = .ok (.iaload, 1) := by decide +kernel
theorem dL_law_522 : decode cL_law 522 = .ok (.aload_n 0, 1) := by decide +kernel
theorem dL_law_523 : decode cL_law 523 = .ok (.iload_n 3, 1) := by decide +kernel
theorem dL_law_524 : decode cL_law 524 = .ok (.iconst 3, 1) := by decide +kernel
theorem dL_law_525 : decode cL_law 525 = .ok (.iadd, 1) := by decide +kernel
theorem dL_law_526 : decode cL_law 526 = .ok (.iaload, 1) := by decide +kernel
theorem dL_law_527 : decode cL_law 527 = .ok (.invokevirtual 70, 3) := by decide +kernel
theorem dL_law_530 : decode cL_law 530 = .ok (.aload_n 2, 1) := by decide +kernel
theorem dL_law_531 : decode cL_law 531 = .ok (.aload_n 0, 1) := by decide +kernel
theorem dL_law_532 : decode cL_law 532 = .ok (.iload_n 3, 1) := by decide +kernel
theorem dL_law_533 : decode cL_law 533 = .ok (.iconst 1, 1) := by decide +kernel
theorem dL_law_534 : decode cL_law 534 = .ok (.iadd, 1) := by decide +kernel
theorem dL_law_535 : decode cL_law 535 = .ok (.iaload, 1) := by decide +kernel
theorem dL_law_536 : decode cL_law 536 = .ok (.aload_n 0, 1) := by decide +kernel
theorem dL_law_537 : decode cL_law 537 = .ok (.iload_n 3, 1) := by decide +kernel
theorem dL_law_538 : decode cL_law 538 = .ok (.iconst 2, 1) := by decide +kernel
theorem dL_law_539 : decode cL_law 539 = .ok (.iadd, 1) := by decide +kernel
theorem dL_law_540 : decode cL_law 540 = .ok (.iaload, 1) := by decide +kernel
theorem dL_law_541 : decode cL_law 541 = .ok (.aload_n 0, 1) := by decide +kernel
theorem dL_law_542 : decode cL_law 542 = .ok (.iload_n 3, 1) := by decide +kernel
theorem dL_law_543 : decode cL_law 543 = .ok (.iconst 3, 1) := by decide +kernel
theorem dL_law_544 : decode cL_law 544 = .ok (.iadd, 1) := by decide +kernel
theorem dL_law_545 : decode cL_law 545 = .ok (.iaload, 1) := by decide +kernel
theorem dL_law_546 : decode cL_law 546 = .ok (.invokevirtual 73, 3) := by decide +kernel
theorem dL_law_549 : decode cL_law 549 = .ok (.if_icmp .eq 517, 3) := by decide +kernel
theorem dL_law_552 : decode cL_law 552 = .ok (.iconst 0, 1) := by decide +kernel
theorem dL_law_553 : decode cL_law 553 = .ok (.ireturn, 1) := by decide +kernel
theorem dL_law_554 : decode cL_law 554 = .ok (.aload_n 1, 1) := by decide +kernel
theorem dL_law_555 : decode cL_law 555 = .ok (.aload_n 0, 1) := by decide +kernel
theorem dL_law_556 : decode cL_law 556 = .ok (.iload_n 3, 1) := by decide +kernel
theorem dL_law_557 : decode cL_law 557 = .ok (.iconst 1, 1) := by decide +kernel
theorem dL_law_558 : decode cL_law 558 = .ok (.iadd, 1) := by decide +kernel
theorem dL_law_559 : decode cL_law 559 = .ok (.iaload, 1) := by decide +kernel
theorem dL_law_560 : decode cL_law 560 = .ok (.aload_n 0, 1) := by decide +kernel
theorem dL_law_561 : decode cL_law 561 = .ok (.iload_n 3, 1) := by decide +kernel
theorem dL_law_562 : decode cL_law 562 = .ok (.iconst 2, 1) := by decide +kernel
theorem dL_law_563 : decode cL_law 563 = .ok (.iadd, 1) := by decide +kernel
theorem dL_law_564 : decode cL_law 564 = .ok (.iaload, 1) := by decide +kernel
theorem dL_law_565 : decode cL_law 565 = .ok (.aload_n 0, 1) := by decide +kernel
theorem dL_law_566 : decode cL_law 566 = .ok (.iload_n 3, 1) := by decide +kernel
theorem dL_law_567 : decode cL_law 567 = .ok (.iconst 3, 1) := by decide +kernel
theorem dL_law_568 : decode cL_law 568 = .ok (.iadd, 1) := by decide +kernel
theorem dL_law_569 : decode cL_law 569 = .ok (.iaload, 1) := by decide +kernel
theorem dL_law_570 : decode cL_law 570 = .ok (.aload_n 0, 1) := by decide +kernel
theorem dL_law_571 : decode cL_law 571 = .ok (.iload_n 3, 1) := by decide +kernel
theorem dL_law_572 : decode cL_law 572 = .ok (.iconst 4, 1) := by decide +kernel
theorem dL_law_573 : decode cL_law 573 = .ok (.iadd, 1) := by decide +kernel
theorem dL_law_574 : decode cL_law 574 = .ok (.iaload, 1) := by decide +kernel
theorem dL_law_575 : decode cL_law 575 = .ok (.aload_n 0, 1) := by decide +kernel
theorem dL_law_576 : decode cL_law 576 = .ok (.iload_n 3, 1) := by decide +kernel
theorem dL_law_577 : decode cL_law 577 = .ok (.iconst 5, 1) := by decide +kernel
theorem dL_law_578 : decode cL_law 578 = .ok (.iadd, 1) := by decide +kernel
theorem dL_law_579 : decode cL_law 579 = .ok (.iaload, 1) := by decide +kernel
theorem dL_law_580 : decode cL_law 580 = .ok (.invokevirtual 74, 3) := by decide +kernel
theorem dL_law_583 : decode cL_law 583 = .ok (.aload_n 2, 1) := by decide +kernel
theorem dL_law_584 : decode cL_law 584 = .ok (.aload_n 0, 1) := by decide +kernel
theorem dL_law_585 : decode cL_law 585 = .ok (.iload_n 3, 1) := by decide +kernel
theorem dL_law_586 : decode cL_law 586 = .ok (.iconst 1, 1) := by decide +kernel
theorem dL_law_587 : decode cL_law 587 = .ok (.iadd, 1) := by decide +kernel
theorem dL_law_588 : decode cL_law 588 = .ok (.iaload, 1) := by decide +kernel
theorem dL_law_589 : decode cL_law 589 = .ok (.aload_n 0, 1) := by decide +kernel
theorem dL_law_590 : decode cL_law 590 = .ok (.iload_n 3, 1) := by decide +kernel
theorem dL_law_591 : decode cL_law 591 = .ok (.iconst 2, 1) := by decide +kernel
theorem dL_law_592 : decode cL_law 592 = .ok (.iadd, 1) := by decide +kernel
theorem dL_law_593 : decode cL_law 593 = .ok (.iaload, 1) := by decide +kernel
theorem dL_law_594 : decode cL_law 594 = .ok (.aload_n 0, 1) := by decide +kernel
theorem dL_law_595 : decode cL_law 595 = .ok (.iload_n 3, 1) := by decide +kernel
theorem dL_law_596 : decode cL_law 596 = .ok (.iconst 3, 1) := by decide +kernel
theorem dL_law_597 : decode cL_law 597 = .ok (.iadd, 1) := by decide +kernel
theorem dL_law_598 : decode cL_law 598 = .ok (.iaload, 1) := by decide +kernel
theorem dL_law_599 : decode cL_law 599 = .ok (.aload_n 0, 1) := by decide +kernel
theorem dL_law_600 : decode cL_law 600 = .ok (.iload_n 3, 1) := by decide +kernel
theorem dL_law_601 : decode cL_law 601 = .ok (.iconst 4, 1) := by decide +kernel
theorem dL_law_602 : decode cL_law 602 = .ok (.iadd, 1) := by decide +kernel
theorem dL_law_603 : decode cL_law 603 = .ok (.iaload, 1) := by decide +kernel
theorem dL_law_604 : decode cL_law 604 = .ok (.aload_n 0, 1) := by decide +kernel
theorem dL_law_605 : decode cL_law 605 = .ok (.iload_n 3, 1) := by decide +kernel
theorem dL_law_606 : decode cL_law 606 = .ok (.iconst 5, 1) := by decide +kernel
theorem dL_law_607 : decode cL_law 607 = .ok (.iadd, 1) := by decide +kernel
theorem dL_law_608 : decode cL_law 608 = .ok (.iaload, 1) := by decide +kernel
theorem dL_law_609 : decode cL_law 609 = .ok (.invokevirtual 78, 3) := by decide +kernel
theorem dL_law_612 : decode cL_law 612 = .ok (.if_icmp .eq 454, 3) := by decide +kernel
theorem dL_law_615 : decode cL_law 615 = .ok (.iconst 0, 1) := by decide +kernel
theorem dL_law_616 : decode cL_law 616 = .ok (.ireturn, 1) := by decide +kernel
theorem dL_law_617 : decode cL_law 617 = .ok (.aload_n 1, 1) := by decide +kernel
theorem dL_law_618 : decode cL_law 618 = .ok (.aload_n 0, 1) := by decide +kernel
theorem dL_law_619 : decode cL_law 619 = .ok (.iload_n 3, 1) := by decide +kernel
theorem dL_law_620 : decode cL_law 620 = .ok (.iconst 1, 1) := by decide +kernel
theorem dL_law_621 : decode cL_law 621 = .ok (.iadd, 1) := by decide +kernel
theorem dL_law_622 : decode cL_law 622 = .ok (.iaload, 1) := by decide +kernel
theorem dL_law_623 : decode cL_law 623 = .ok (.aload_n 0, 1) := by decide +kernel
theorem dL_law_624 : decode cL_law 624 = .ok (.iload_n 3, 1) := by decide +kernel
theorem dL_law_625 : decode cL_law 625 = .ok (.iconst 2, 1) := by decide +kernel
theorem dL_law_626 : decode cL_law 626 = .ok (.iadd, 1) := by decide +kernel
theorem dL_law_627 : decode cL_law 627 = .ok (.iaload, 1) := by decide +kernel
theorem dL_law_628 : decode cL_law 628 = .ok (.aload_n 0, 1) := by decide +kernel
theorem dL_law_629 : decode cL_law 629 = .ok (.iload_n 3, 1) := by decide +kernel
theorem dL_law_630 : decode cL_law 630 = .ok (.iconst 3, 1) := by decide +kernel
theorem dL_law_631 : decode cL_law 631 = .ok (.iadd, 1) := by decide +kernel
theorem dL_law_632 : decode cL_law 632 = .ok (.iaload, 1) := by decide +kernel
theorem dL_law_633 : decode cL_law 633 = .ok (.invokevirtual 79, 3) := by decide +kernel
theorem dL_law_636 : decode cL_law 636 = .ok (.aload_n 2, 1) := by decide +kernel
theorem dL_law_637 : decode cL_law 637 = .ok (.aload_n 0, 1) := by decide +kernel
theorem dL_law_638 : decode cL_law 638 = .ok (.iload_n 3, 1) := by decide +kernel
theorem dL_law_639 : decode cL_law 639 = .ok (.iconst 1, 1) := by decide +kernel
theorem dL_law_640 : decode cL_law 640 = .ok (.iadd, 1) := by decide +kernel
theorem dL_law_641 : decode cL_law 641 = .ok (.iaload, 1) := by decide +kernel
theorem dL_law_642 : decode cL_law 642 = .ok (.aload_n 0, 1) := by decide +kernel
theorem dL_law_643 : decode cL_law 643 = .ok (.iload_n 3, 1) := by decide +kernel
theorem dL_law_644 : decode cL_law 644 = .ok (.iconst 2, 1) := by decide +kernel
theorem dL_law_645 : decode cL_law 645 = .ok (.iadd, 1) := by decide +kernel
theorem dL_law_646 : decode cL_law 646 = .ok (.iaload, 1) := by decide +kernel
theorem dL_law_647 : decode cL_law 647 = .ok (.aload_n 0, 1) := by decide +kernel
theorem dL_law_648 : decode cL_law 648 = .ok (.iload_n 3, 1) := by decide +kernel
theorem dL_law_649 : decode cL_law 649 = .ok (.iconst 3, 1) := by decide +kernel
theorem dL_law_650 : decode cL_law 650 = .ok (.iadd, 1) := by decide +kernel
theorem dL_law_651 : decode cL_law 651 = .ok (.iaload, 1) := by decide +kernel
theorem dL_law_652 : decode cL_law 652 = .ok (.invokevirtual 82, 3) := by decide +kernel
theorem dL_law_655 : decode cL_law 655 = .ok (.if_icmp .eq 411, 3) := by decide +kernel
theorem dL_law_658 : decode cL_law 658 = .ok (.iconst 0, 1) := by decide +kernel
theorem dL_law_659 : decode cL_law 659 = .ok (.ireturn, 1) := by decide +kernel
theorem dL_law_660 : decode cL_law 660 = .ok (.aload_n 1, 1) := by decide +kernel
theorem dL_law_661 : decode cL_law 661 = .ok (.aload_n 0, 1) := by decide +kernel
theorem dL_law_662 : decode cL_law 662 = .ok (.iload_n 3, 1) := by decide +kernel
theorem dL_law_663 : decode cL_law 663 = .ok (.iconst 1, 1) := by decide +kernel
theorem dL_law_664 : decode cL_law 664 = .ok (.iadd, 1) := by decide +kernel
theorem dL_law_665 : decode cL_law 665 = .ok (.iaload, 1) := by decide +kernel
theorem dL_law_666 : decode cL_law 666 = .ok (.invokevirtual 83, 3) := by decide +kernel
theorem dL_law_669 : decode cL_law 669 = .ok (.aload_n 2, 1) := by decide +kernel
theorem dL_law_670 : decode cL_law 670 = .ok (.aload_n 0, 1) := by decide +kernel
theorem dL_law_671 : decode cL_law 671 = .ok (.iload_n 3, 1) := by decide +kernel
theorem dL_law_672 : decode cL_law 672 = .ok (.iconst 1, 1) := by decide +kernel
theorem dL_law_673 : decode cL_law 673 = .ok (.iadd, 1) := by decide +kernel
theorem dL_law_674 : decode cL_law 674 = .ok (.iaload, 1) := by decide +kernel
theorem dL_law_675 : decode cL_law 675 = .ok (.invokevirtual 86, 3) := by decide +kernel
theorem dL_law_678 : decode cL_law 678 = .ok (.if_icmp .eq 388, 3) := by decide +kernel
theorem dL_law_681 : decode cL_law 681 = .ok (.iconst 0, 1) := by decide +kernel
theorem dL_law_682 : decode cL_law 682 = .ok (.ireturn, 1) := by decide +kernel
theorem dL_law_683 : decode cL_law 683 = .ok (.aload_n 1, 1) := by decide +kernel
theorem dL_law_684 : decode cL_law 684 = .ok (.aload_n 0, 1) := by decide +kernel
theorem dL_law_685 : decode cL_law 685 = .ok (.iload_n 3, 1) := by decide +kernel
theorem dL_law_686 : decode cL_law 686 = .ok (.iconst 1, 1) := by decide +kernel
theorem dL_law_687 : decode cL_law 687 = .ok (.iadd, 1) := by decide +kernel
theorem dL_law_688 : decode cL_law 688 = .ok (.iaload, 1) := by decide +kernel
theorem dL_law_689 : decode cL_law 689 = .ok (.aload_n 0, 1) := by decide +kernel
theorem dL_law_690 : decode cL_law 690 = .ok (.iload_n 3, 1) := by decide +kernel
theorem dL_law_691 : decode cL_law 691 = .ok (.iconst 2, 1) := by decide +kernel
theorem dL_law_692 : decode cL_law 692 = .ok (.iadd, 1) := by decide +kernel
theorem dL_law_693 : decode cL_law 693 = .ok (.iaload, 1) := by decide +kernel
theorem dL_law_694 : decode cL_law 694 = .ok (.i2l, 1) := by decide +kernel
theorem dL_law_695 : decode cL_law 695 = .ok (.bipush 32, 2) := by decide +kernel
theorem dL_law_697 : decode cL_law 697 = .ok (.lshl, 1) := by decide +kernel
theorem dL_law_698 : decode cL_law 698 = .ok (.aload_n 0, 1) := by decide +kernel
theorem dL_law_699 : decode cL_law 699 = .ok (.iload_n 3, 1) := by decide +kernel
theorem dL_law_700 : decode cL_law 700 = .ok (.iconst 3, 1) := by decide +kernel
theorem dL_law_701 : decode cL_law 701 = .ok (.iadd, 1) := by decide +kernel
theorem dL_law_702 : decode cL_law 702 = .ok (.iaload, 1) := by decide +kernel
theorem dL_law_703 : decode cL_law 703 = .ok (.i2l, 1) := by decide +kernel
theorem dL_law_704 : decode cL_law 704 = .ok (.ldc2_w 87, 3) := by decide +kernel
theorem dL_law_707 : decode cL_law 707 = .ok (.land, 1) := by decide +kernel
theorem dL_law_708 : decode cL_law 708 = .ok (.lor, 1) := by decide +kernel
theorem dL_law_709 : decode cL_law 709 = .ok (.invokevirtual 89, 3) := by decide +kernel
theorem dL_law_712 : decode cL_law 712 = .ok (.aload_n 2, 1) := by decide +kernel
theorem dL_law_713 : decode cL_law 713 = .ok (.aload_n 0, 1) := by decide +kernel
theorem dL_law_714 : decode cL_law 714 = .ok (.iload_n 3, 1) := by decide +kernel
theorem dL_law_715 : decode cL_law 715 = .ok (.iconst 1, 1) := by decide +kernel
theorem dL_law_716 : decode cL_law 716 = .ok (.iadd, 1) := by decide +kernel
theorem dL_law_717 : decode cL_law 717 = .ok (.iaload, 1) := by decide +kernel
theorem dL_law_718 : decode cL_law 718 = .ok (.aload_n 0, 1) := by decide +kernel
theorem dL_law_719 : decode cL_law 719 = .ok (.iload_n 3, 1) := by decide +kernel
theorem dL_law_720 : decode cL_law 720 = .ok (.iconst 2, 1) := by decide +kernel
theorem dL_law_721 : decode cL_law 721 = .ok (.iadd, 1) := by decide +kernel
theorem dL_law_722 : decode cL_law 722 = .ok (.iaload, 1) := by decide +kernel
theorem dL_law_723 : decode cL_law 723 = .ok (.i2l, 1) := by decide +kernel
theorem dL_law_724 : decode cL_law 724 = .ok (.bipush 32, 2) := by decide +kernel
theorem dL_law_726 : decode cL_law 726 = .ok (.lshl, 1) := by decide +kernel
theorem dL_law_727 : decode cL_law 727 = .ok (.aload_n 0, 1) := by decide +kernel
theorem dL_law_728 : decode cL_law 728 = .ok (.iload_n 3, 1) := by decide +kernel
theorem dL_law_729 : decode cL_law 729 = .ok (.iconst 3, 1) := by decide +kernel
theorem dL_law_730 : decode cL_law 730 = .ok (.iadd, 1) := by decide +kernel
theorem dL_law_731 : decode cL_law 731 = .ok (.iaload, 1) := by decide +kernel
theorem dL_law_732 : decode cL_law 732 = .ok (.i2l, 1) := by decide +kernel
theorem dL_law_733 : decode cL_law 733 = .ok (.ldc2_w 87, 3) := by decide +kernel
theorem dL_law_736 : decode cL_law 736 = .ok (.land, 1) := by decide +kernel
theorem dL_law_737 : decode cL_law 737 = .ok (.lor, 1) := by decide +kernel
theorem dL_law_738 : decode cL_law 738 = .ok (.invokevirtual 93, 3) := by decide +kernel
theorem dL_law_741 : decode cL_law 741 = .ok (.if_icmp .eq 325, 3) := by decide +kernel
theorem dL_law_744 : decode cL_law 744 = .ok (.iconst 0, 1) := by decide +kernel
theorem dL_law_745 : decode cL_law 745 = .ok (.ireturn, 1) := by decide +kernel
theorem dL_law_746 : decode cL_law 746 = .ok (.aload_n 1, 1) := by decide +kernel
theorem dL_law_747 : decode cL_law 747 = .ok (.aload_n 0, 1) := by decide +kernel
theorem dL_law_748 : decode cL_law 748 = .ok (.iload_n 3, 1) := by decide +kernel
theorem dL_law_749 : decode cL_law 749 = .ok (.iconst 1, 1) := by decide +kernel
theorem dL_law_750 : decode cL_law 750 = .ok (.iadd, 1) := by decide +kernel
theorem dL_law_751 : decode cL_law 751 = .ok (.iaload, 1) := by decide +kernel
theorem dL_law_752 : decode cL_law 752 = .ok (.aload_n 0, 1) := by decide +kernel
theorem dL_law_753 : decode cL_law 753 = .ok (.iload_n 3, 1) := by decide +kernel
theorem dL_law_754 : decode cL_law 754 = .ok (.iconst 2, 1) := by decide +kernel
theorem dL_law_755 : decode cL_law 755 = .ok (.iadd, 1) := by decide +kernel
theorem dL_law_756 : decode cL_law 756 = .ok (.iaload, 1) := by decide +kernel
theorem dL_law_757 : decode cL_law 757 = .ok (.ifCond .eq 7, 3) := by decide +kernel
theorem dL_law_760 : decode cL_law 760 = .ok (.iconst 1, 1) := by decide +kernel
theorem dL_law_761 : decode cL_law 761 = .ok (.goto 4, 3) := by decide +kernel
theorem dL_law_764 : decode cL_law 764 = .ok (.iconst 0, 1) := by decide +kernel
theorem dL_law_765 : decode cL_law 765 = .ok (.invokevirtual 94, 3) := by decide +kernel
theorem dL_law_768 : decode cL_law 768 = .ok (.aload_n 2, 1) := by decide +kernel
theorem dL_law_769 : decode cL_law 769 = .ok (.aload_n 0, 1) := by decide +kernel
theorem dL_law_770 : decode cL_law 770 = .ok (.iload_n 3, 1) := by decide +kernel
theorem dL_law_771 : decode cL_law 771 = .ok (.iconst 1, 1) := by decide +kernel
theorem dL_law_772 : decode cL_law 772 = .ok (.iadd, 1) := by decide +kernel
theorem dL_law_773 : decode cL_law 773 = .ok (.iaload, 1) := by decide +kernel
theorem dL_law_774 : decode cL_law 774 = .ok (.aload_n 0, 1) := by decide +kernel
theorem dL_law_775 : decode cL_law 775 = .ok (.iload_n 3, 1) := by decide +kernel
theorem dL_law_776 : decode cL_law 776 = .ok (.iconst 2, 1) := by decide +kernel
theorem dL_law_777 : decode cL_law 777 = .ok (.iadd, 1) := by decide +kernel
theorem dL_law_778 : decode cL_law 778 = .ok (.iaload, 1) := by decide +kernel
theorem dL_law_779 : decode cL_law 779 = .ok (.ifCond .eq 7, 3) := by decide +kernel
theorem dL_law_782 : decode cL_law 782 = .ok (.iconst 1, 1) := by decide +kernel
theorem dL_law_783 : decode cL_law 783 = .ok (.goto 4, 3) := by decide +kernel
theorem dL_law_786 : decode cL_law 786 = .ok (.iconst 0, 1) := by decide +kernel
theorem dL_law_787 : decode cL_law 787 = .ok (.invokevirtual 98, 3) := by decide +kernel
theorem dL_law_790 : decode cL_law 790 = .ok (.if_icmp .eq 276, 3) := by decide +kernel
theorem dL_law_793 : decode cL_law 793 = .ok (.iconst 0, 1) := by decide +kernel
theorem dL_law_794 : decode cL_law 794 = .ok (.ireturn, 1) := by decide +kernel
theorem dL_law_795 : decode cL_law 795 = .ok (.aload_n 1, 1) := by decide +kernel
theorem dL_law_796 : decode cL_law 796 = .ok (.aload_n 0, 1) := by decide +kernel
theorem dL_law_797 : decode cL_law 797 = .ok (.iload_n 3, 1) := by decide +kernel
theorem dL_law_798 : decode cL_law 798 = .ok (.iconst 1, 1) := by decide +kernel
theorem dL_law_799 : decode cL_law 799 = .ok (.iadd, 1) := by decide +kernel
theorem dL_law_800 : decode cL_law 800 = .ok (.iaload, 1) := by decide +kernel
theorem dL_law_801 : decode cL_law 801 = .ok (.aload_n 0, 1) := by decide +kernel
theorem dL_law_802 : decode cL_law 802 = .ok (.iload_n 3, 1) := by decide +kernel
theorem dL_law_803 : decode cL_law 803 = .ok (.iconst 2, 1) := by decide +kernel
theorem dL_law_804 : decode cL_law 804 = .ok (.iadd, 1) := by decide +kernel
theorem dL_law_805 : decode cL_law 805 = .ok (.iaload, 1) := by decide +kernel
theorem dL_law_806 : decode cL_law 806 = .ok (.aload_n 0, 1) := by decide +kernel
theorem dL_law_807 : decode cL_law 807 = .ok (.iload_n 3, 1) := by decide +kernel
theorem dL_law_808 : decode cL_law 808 = .ok (.iconst 3, 1) := by decide +kernel
theorem dL_law_809 : decode cL_law 809 = .ok (.iadd, 1) := by decide +kernel
theorem dL_law_810 : decode cL_law 810 = .ok (.iaload, 1) := by decide +kernel
theorem dL_law_811 : decode cL_law 811 = .ok (.invokevirtual 99, 3) := by decide +kernel
theorem dL_law_814 : decode cL_law 814 = .ok (.aload_n 2, 1) := by decide +kernel
theorem dL_law_815 : decode cL_law 815 = .ok (.aload_n 0, 1) := by decide +kernel
theorem dL_law_816 : decode cL_law 816 = .ok (.iload_n 3, 1) := by decide +kernel
theorem dL_law_817 : decode cL_law 817 = .ok (.iconst 1, 1) := by decide +kernel
theorem dL_law_818 : decode cL_law 818 = .ok (.iadd, 1) := by decide +kernel
theorem dL_law_819 : decode cL_law 819 = .ok (.iaload, 1) := by decide +kernel
theorem dL_law_820 : decode cL_law 820 = .ok (.aload_n 0, 1) := by decide +kernel
theorem dL_law_821 : decode cL_law 821 = .ok (.iload_n 3, 1) := by decide +kernel
theorem dL_law_822 : decode cL_law 822 = .ok (.iconst 2, 1) := by decide +kernel
theorem dL_law_823 : decode cL_law 823 = .ok (.iadd, 1) := by decide +kernel
theorem dL_law_824 : decode cL_law 824 = .ok (.iaload, 1) := by decide +kernel
theorem dL_law_825 : decode cL_law 825 = .ok (.aload_n 0, 1) := by decide +kernel
theorem dL_law_826 : decode cL_law 826 = .ok (.iload_n 3, 1) := by decide +kernel
theorem dL_law_827 : decode cL_law 827 = .ok (.iconst 3, 1) := by decide +kernel
theorem dL_law_828 : decode cL_law 828 = .ok (.iadd, 1) := by decide +kernel
theorem dL_law_829 : decode cL_law 829 = .ok (.iaload, 1) := by decide +kernel
theorem dL_law_830 : decode cL_law 830 = .ok (.invokevirtual 102, 3) := by decide +kernel
theorem dL_law_833 : decode cL_law 833 = .ok (.if_icmp .eq 233, 3) := by decide +kernel
theorem dL_law_836 : decode cL_law 836 = .ok (.iconst 0, 1) := by decide +kernel
theorem dL_law_837 : decode cL_law 837 = .ok (.ireturn, 1) := by decide +kernel
theorem dL_law_838 : decode cL_law 838 = .ok (.aload_n 1, 1) := by decide +kernel
theorem dL_law_839 : decode cL_law 839 = .ok (.invokevirtual 103, 3) := by decide +kernel
theorem dL_law_842 : decode cL_law 842 = .ok (.aload_n 2, 1) := by decide +kernel
theorem dL_law_843 : decode cL_law 843 = .ok (.invokevirtual 106, 3) := by decide +kernel
theorem dL_law_846 : decode cL_law 846 = .ok (.if_icmp .eq 220, 3) := by decide +kernel
theorem dL_law_849 : decode cL_law 849 = .ok (.iconst 0, 1) := by decide +kernel
theorem dL_law_850 : decode cL_law 850 = .ok (.ireturn, 1) := by decide +kernel
theorem dL_law_851 : decode cL_law 851 = .ok (.aload_n 1, 1) := by decide +kernel
theorem dL_law_852 : decode cL_law 852 = .ok (.aload_n 0, 1) := by decide +kernel
theorem dL_law_853 : decode cL_law 853 = .ok (.iload_n 3, 1) := by decide +kernel
theorem dL_law_854 : decode cL_law 854 = .ok (.iconst 1, 1) := by decide +kernel
theorem dL_law_855 : decode cL_law 855 = .ok (.iadd, 1) := by decide +kernel
theorem dL_law_856 : decode cL_law 856 = .ok (.iaload, 1) := by decide +kernel
theorem dL_law_857 : decode cL_law 857 = .ok (.invokevirtual 107, 3) := by decide +kernel
theorem dL_law_860 : decode cL_law 860 = .ok (.aload_n 2, 1) := by decide +kernel
theorem dL_law_861 : decode cL_law 861 = .ok (.aload_n 0, 1) := by decide +kernel
theorem dL_law_862 : decode cL_law 862 = .ok (.iload_n 3, 1) := by decide +kernel
theorem dL_law_863 : decode cL_law 863 = .ok (.iconst 1, 1) := by decide +kernel
theorem dL_law_864 : decode cL_law 864 = .ok (.iadd, 1) := by decide +kernel
theorem dL_law_865 : decode cL_law 865 = .ok (.iaload, 1) := by decide +kernel
theorem dL_law_866 : decode cL_law 866 = .ok (.invokevirtual 110, 3) := by decide +kernel
theorem dL_law_869 : decode cL_law 869 = .ok (.if_icmp .eq 197, 3) := by decide +kernel
theorem dL_law_872 : decode cL_law 872 = .ok (.iconst 0, 1) := by decide +kernel
theorem dL_law_873 : decode cL_law 873 = .ok (.ireturn, 1) := by decide +kernel
theorem dL_law_874 : decode cL_law 874 = .ok (.aload_n 1, 1) := by decide +kernel
theorem dL_law_875 : decode cL_law 875 = .ok (.aload_n 0, 1) := by decide +kernel
theorem dL_law_876 : decode cL_law 876 = .ok (.iload_n 3, 1) := by decide +kernel
theorem dL_law_877 : decode cL_law 877 = .ok (.iconst 1, 1) := by decide +kernel
theorem dL_law_878 : decode cL_law 878 = .ok (.iadd, 1) := by decide +kernel
theorem dL_law_879 : decode cL_law 879 = .ok (.iaload, 1) := by decide +kernel
theorem dL_law_880 : decode cL_law 880 = .ok (.aload_n 0, 1) := by decide +kernel
theorem dL_law_881 : decode cL_law 881 = .ok (.iload_n 3, 1) := by decide +kernel
theorem dL_law_882 : decode cL_law 882 = .ok (.iconst 2, 1) := by decide +kernel
theorem dL_law_883 : decode cL_law 883 = .ok (.iadd, 1) := by decide +kernel
theorem dL_law_884 : decode cL_law 884 = .ok (.iaload, 1) := by decide +kernel
theorem dL_law_885 : decode cL_law 885 = .ok (.aload_n 0, 1) := by decide +kernel
theorem dL_law_886 : decode cL_law 886 = .ok (.iload_n 3, 1) := by decide +kernel
theorem dL_law_887 : decode cL_law 887 = .ok (.iconst 3, 1) := by decide +kernel
theorem dL_law_888 : decode cL_law 888 = .ok (.iadd, 1) := by decide +kernel
theorem dL_law_889 : decode cL_law 889 = .ok (.iaload, 1) := by decide +kernel
theorem dL_law_890 : decode cL_law 890 = .ok (.aload_n 0, 1) := by decide +kernel
theorem dL_law_891 : decode cL_law 891 = .ok (.iload_n 3, 1) := by decide +kernel
theorem dL_law_892 : decode cL_law 892 = .ok (.iconst 4, 1) := by decide +kernel
theorem dL_law_893 : decode cL_law 893 = .ok (.iadd, 1) := by decide +kernel
theorem dL_law_894 : decode cL_law 894 = .ok (.iaload, 1) := by decide +kernel
theorem dL_law_895 : decode cL_law 895 = .ok (.ifCond .eq 7, 3) := by decide +kernel
theorem dL_law_898 : decode cL_law 898 = .ok (.iconst 1, 1) := by decide +kernel
theorem dL_law_899 : decode cL_law 899 = .ok (.goto 4, 3) := by decide +kernel
theorem dL_law_902 : decode cL_law 902 = .ok (.iconst 0, 1) := by decide +kernel
theorem dL_law_903 : decode cL_law 903 = .ok (.invokevirtual 111, 3) := by decide +kernel
theorem dL_law_906 : decode cL_law 906 = .ok (.aload_n 2, 1) := by decide +kernel
theorem dL_law_907 : decode cL_law 907 = .ok (.aload_n 0, 1) := by decide +kernel
theorem dL_law_908 : decode cL_law 908 = .ok (.iload_n 3, 1) := by decide +kernel
theorem dL_law_909 : decode cL_law 909 = .ok (.iconst 1, 1) := by decide +kernel
theorem dL_law_910 : decode cL_law 910 = .ok (.iadd, 1) := by decide +kernel
theorem dL_law_911 : decode cL_law 911 = .ok (.iaload, 1) := by decide +kernel
theorem dL_law_912 : decode cL_law 912 = .ok (.aload_n 0, 1) := by decide +kernel
theorem dL_law_913 : decode cL_law 913 = .ok (.iload_n 3, 1) := by decide +kernel
theorem dL_law_914 : decode cL_law 914 = .ok (.iconst 2, 1) := by decide +kernel
theorem dL_law_915 : decode cL_law 915 = .ok (.iadd, 1) := by decide +kernel
theorem dL_law_916 : decode cL_law 916 = .ok (.iaload, 1) := by decide +kernel
theorem dL_law_917 : decode cL_law 917 = .ok (.aload_n 0, 1) := by decide +kernel
theorem dL_law_918 : decode cL_law 918 = .ok (.iload_n 3, 1) := by decide +kernel
theorem dL_law_919 : decode cL_law 919 = .ok (.iconst 3, 1) := by decide +kernel
theorem dL_law_920 : decode cL_law 920 = .ok (.iadd, 1) := by decide +kernel
theorem dL_law_921 : decode cL_law 921 = .ok (.iaload, 1) := by decide +kernel
theorem dL_law_922 : decode cL_law 922 = .ok (.aload_n 0, 1) := by decide +kernel
theorem dL_law_923 : decode cL_law 923 = .ok (.iload_n 3, 1) := by decide +kernel
theorem dL_law_924 : decode cL_law 924 = .ok (.iconst 4, 1) := by decide +kernel
theorem dL_law_925 : decode cL_law 925 = .ok (.iadd, 1) := by decide +kernel
theorem dL_law_926 : decode cL_law 926 = .ok (.iaload, 1) := by decide +kernel
theorem dL_law_927 : decode cL_law 927 = .ok (.ifCond .eq 7, 3) := by decide +kernel
theorem dL_law_930 : decode cL_law 930 = .ok (.iconst 1, 1) := by decide +kernel
theorem dL_law_931 : decode cL_law 931 = .ok (.goto 4, 3) := by decide +kernel
theorem dL_law_934 : decode cL_law 934 = .ok (.iconst 0, 1) := by decide +kernel
theorem dL_law_935 : decode cL_law 935 = .ok (.invokevirtual 115, 3) := by decide +kernel
theorem dL_law_938 : decode cL_law 938 = .ok (.if_icmp .eq 128, 3) := by decide +kernel
theorem dL_law_941 : decode cL_law 941 = .ok (.iconst 0, 1) := by decide +kernel
theorem dL_law_942 : decode cL_law 942 = .ok (.ireturn, 1) := by decide +kernel
theorem dL_law_943 : decode cL_law 943 = .ok (.aload_n 1, 1) := by decide +kernel
theorem dL_law_944 : decode cL_law 944 = .ok (.aload_n 0, 1) := by decide +kernel
theorem dL_law_945 : decode cL_law 945 = .ok (.iload_n 3, 1) := by decide +kernel
theorem dL_law_946 : decode cL_law 946 = .ok (.iconst 1, 1) := by decide +kernel
theorem dL_law_947 : decode cL_law 947 = .ok (.iadd, 1) := by decide +kernel
theorem dL_law_948 : decode cL_law 948 = .ok (.iaload, 1) := by decide +kernel
theorem dL_law_949 : decode cL_law 949 = .ok (.i2l, 1) := by decide +kernel
theorem dL_law_950 : decode cL_law 950 = .ok (.bipush 32, 2) := by decide +kernel
theorem dL_law_952 : decode cL_law 952 = .ok (.lshl, 1) := by decide +kernel
theorem dL_law_953 : decode cL_law 953 = .ok (.aload_n 0, 1) := by decide +kernel
theorem dL_law_954 : decode cL_law 954 = .ok (.iload_n 3, 1) := by decide +kernel
theorem dL_law_955 : decode cL_law 955 = .ok (.iconst 2, 1) := by decide +kernel
theorem dL_law_956 : decode cL_law 956 = .ok (.iadd, 1) := by decide +kernel
theorem dL_law_957 : decode cL_law 957 = .ok (.iaload, 1) := by decide +kernel
theorem dL_law_958 : decode cL_law 958 = .ok (.i2l, 1) := by decide +kernel
theorem dL_law_959 : decode cL_law 959 = .ok (.ldc2_w 87, 3) := by decide +kernel
theorem dL_law_962 : decode cL_law 962 = .ok (.land, 1) := by decide +kernel
theorem dL_law_963 : decode cL_law 963 = .ok (.lor, 1) := by decide +kernel
theorem dL_law_964 : decode cL_law 964 = .ok (.invokevirtual 116, 3) := by decide +kernel
theorem dL_law_967 : decode cL_law 967 = .ok (.aload_n 2, 1) := by decide +kernel
theorem dL_law_968 : decode cL_law 968 = .ok (.aload_n 0, 1) := by decide +kernel
theorem dL_law_969 : decode cL_law 969 = .ok (.iload_n 3, 1) := by decide +kernel
theorem dL_law_970 : decode cL_law 970 = .ok (.iconst 1, 1) := by decide +kernel
theorem dL_law_971 : decode cL_law 971 = .ok (.iadd, 1) := by decide +kernel
theorem dL_law_972 : decode cL_law 972 = .ok (.iaload, 1) := by decide +kernel
theorem dL_law_973 : decode cL_law 973 = .ok (.i2l, 1) := by decide +kernel
theorem dL_law_974 : decode cL_law 974 = .ok (.bipush 32, 2) := by decide +kernel
theorem dL_law_976 : decode cL_law 976 = .ok (.lshl, 1) := by decide +kernel
theorem dL_law_977 : decode cL_law 977 = .ok (.aload_n 0, 1) := by decide +kernel
theorem dL_law_978 : decode cL_law 978 = .ok (.iload_n 3, 1) := by decide +kernel
theorem dL_law_979 : decode cL_law 979 = .ok (.iconst 2, 1) := by decide +kernel
theorem dL_law_980 : decode cL_law 980 = .ok (.iadd, 1) := by decide +kernel
theorem dL_law_981 : decode cL_law 981 = .ok (.iaload, 1) := by decide +kernel
theorem dL_law_982 : decode cL_law 982 = .ok (.i2l, 1) := by decide +kernel
theorem dL_law_983 : decode cL_law 983 = .ok (.ldc2_w 87, 3) := by decide +kernel
theorem dL_law_986 : decode cL_law 986 = .ok (.land, 1) := by decide +kernel
theorem dL_law_987 : decode cL_law 987 = .ok (.lor, 1) := by decide +kernel
theorem dL_law_988 : decode cL_law 988 = .ok (.invokevirtual 120, 3) := by decide +kernel
theorem dL_law_991 : decode cL_law 991 = .ok (.lcmp, 1) := by decide +kernel
theorem dL_law_992 : decode cL_law 992 = .ok (.ifCond .eq 74, 3) := by decide +kernel
theorem dL_law_995 : decode cL_law 995 = .ok (.iconst 0, 1) := by decide +kernel
theorem dL_law_996 : decode cL_law 996 = .ok (.ireturn, 1) := by decide +kernel
theorem dL_law_997 : decode cL_law 997 = .ok (.aload_n 1, 1) := by decide +kernel
theorem dL_law_998 : decode cL_law 998 = .ok (.aload_n 0, 1) := by decide +kernel
theorem dL_law_999 : decode cL_law 999 = .ok (.iload_n 3, 1) := by decide +kernel
theorem dL_law_1000 : decode cL_law 1000 = .ok (.iconst 1, 1) := by decide +kernel
theorem dL_law_1001 : decode cL_law 1001 = .ok (.iadd, 1) := by decide +kernel
theorem dL_law_1002 : decode cL_law 1002 = .ok (.iaload, 1) := by decide +kernel
theorem dL_law_1003 : decode cL_law 1003 = .ok (.invokevirtual 121, 3) := by decide +kernel
theorem dL_law_1006 : decode cL_law 1006 = .ok (.aload_n 2, 1) := by decide +kernel
theorem dL_law_1007 : decode cL_law 1007 = .ok (.aload_n 0, 1) := by decide +kernel
theorem dL_law_1008 : decode cL_law 1008 = .ok (.iload_n 3, 1) := by decide +kernel
theorem dL_law_1009 : decode cL_law 1009 = .ok (.iconst 1, 1) := by decide +kernel
theorem dL_law_1010 : decode cL_law 1010 = .ok (.iadd, 1) := by decide +kernel
theorem dL_law_1011 : decode cL_law 1011 = .ok (.iaload, 1) := by decide +kernel
theorem dL_law_1012 : decode cL_law 1012 = .ok (.invokevirtual 124, 3) := by decide +kernel
theorem dL_law_1015 : decode cL_law 1015 = .ok (.if_icmp .eq 51, 3) := by decide +kernel
theorem dL_law_1018 : decode cL_law 1018 = .ok (.iconst 0, 1) := by decide +kernel
theorem dL_law_1019 : decode cL_law 1019 = .ok (.ireturn, 1) := by decide +kernel
theorem dL_law_1020 : decode cL_law 1020 = .ok (.aload_n 1, 1) := by decide +kernel
theorem dL_law_1021 : decode cL_law 1021 = .ok (.aload_n 0, 1) := by decide +kernel
theorem dL_law_1022 : decode cL_law 1022 = .ok (.iload_n 3, 1) := by decide +kernel
theorem dL_law_1023 : decode cL_law 1023 = .ok (.iconst 1, 1) := by decide +kernel
theorem dL_law_1024 : decode cL_law 1024 = .ok (.iadd, 1) := by decide +kernel
theorem dL_law_1025 : decode cL_law 1025 = .ok (.iaload, 1) := by decide +kernel
theorem dL_law_1026 : decode cL_law 1026 = .ok (.invokevirtual 125, 3) := by decide +kernel
theorem dL_law_1029 : decode cL_law 1029 = .ok (.aload_n 2, 1) := by decide +kernel
theorem dL_law_1030 : decode cL_law 1030 = .ok (.aload_n 0, 1) := by decide +kernel
theorem dL_law_1031 : decode cL_law 1031 = .ok (.iload_n 3, 1) := by decide +kernel
theorem dL_law_1032 : decode cL_law 1032 = .ok (.iconst 1, 1) := by decide +kernel
theorem dL_law_1033 : decode cL_law 1033 = .ok (.iadd, 1) := by decide +kernel
theorem dL_law_1034 : decode cL_law 1034 = .ok (.iaload, 1) := by decide +kernel
theorem dL_law_1035 : decode cL_law 1035 = .ok (.invokevirtual 128, 3) := by decide +kernel
theorem dL_law_1038 : decode cL_law 1038 = .ok (.if_icmp .eq 28, 3) := by decide +kernel
theorem dL_law_1041 : decode cL_law 1041 = .ok (.iconst 0, 1) := by decide +kernel
theorem dL_law_1042 : decode cL_law 1042 = .ok (.ireturn, 1) := by decide +kernel
theorem dL_law_1043 : decode cL_law 1043 = .ok (.aload_n 1, 1) := by decide +kernel
theorem dL_law_1044 : decode cL_law 1044 = .ok (.aload_n 0, 1) := by decide +kernel
theorem dL_law_1045 : decode cL_law 1045 = .ok (.iload_n 3, 1) := by decide +kernel
theorem dL_law_1046 : decode cL_law 1046 = .ok (.iconst 1, 1) := by decide +kernel
theorem dL_law_1047 : decode cL_law 1047 = .ok (.iadd, 1) := by decide +kernel
theorem dL_law_1048 : decode cL_law 1048 = .ok (.iaload, 1) := by decide +kernel
theorem dL_law_1049 : decode cL_law 1049 = .ok (.invokevirtual 129, 3) := by decide +kernel
theorem dL_law_1052 : decode cL_law 1052 = .ok (.aload_n 2, 1) := by decide +kernel
theorem dL_law_1053 : decode cL_law 1053 = .ok (.aload_n 0, 1) := by decide +kernel
theorem dL_law_1054 : decode cL_law 1054 = .ok (.iload_n 3, 1) := by decide +kernel
theorem dL_law_1055 : decode cL_law 1055 = .ok (.iconst 1, 1) := by decide +kernel
theorem dL_law_1056 : decode cL_law 1056 = .ok (.iadd, 1) := by decide +kernel
theorem dL_law_1057 : decode cL_law 1057 = .ok (.iaload, 1) := by decide +kernel
theorem dL_law_1058 : decode cL_law 1058 = .ok (.invokevirtual 132, 3) := by decide +kernel
theorem dL_law_1061 : decode cL_law 1061 = .ok (.if_icmp .eq 5, 3) := by decide +kernel
theorem dL_law_1064 : decode cL_law 1064 = .ok (.iconst 0, 1) := by decide +kernel
theorem dL_law_1065 : decode cL_law 1065 = .ok (.ireturn, 1) := by decide +kernel
theorem dL_law_1066 : decode cL_law 1066 = .ok (.iinc 3 6, 3) := by decide +kernel
theorem dL_law_1069 : decode cL_law 1069 = .ok (.goto (-1051), 3) := by decide +kernel
theorem dL_law_1072 : decode cL_law 1072 = .ok (.iconst 1, 1) := by decide +kernel
theorem dL_law_1073 : decode cL_law 1073 = .ok (.ireturn, 1) := by decide +kernel
