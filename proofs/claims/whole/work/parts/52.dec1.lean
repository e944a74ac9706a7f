theorem dX7_see_8 : decode cX7_see 8 = .ok (.ifCond .ne 5, 3) := by decide +kernel
theorem dX7_see_11 : decode cX7_see 11 = .ok (.iconst (-1), 1) := by decide +kernel
theorem dX7_see_12 : decode cX7_see 12 = .ok (.ireturn, 1) := by decide +kernel
theorem dX7_see_13 : decode cX7_see 13 = .ok (.iload_n 2, 1) := by decide +kernel
theorem dX7_see_14 : decode cX7_see 14 = .ok (.iconst 1, 1) := by decide +kernel
theorem dX7_see_15 : decode cX7_see 15 = .ok (.if_icmp .lt 18, 3) := by decide +kernel
theorem dX7_see_18 : decode cX7_see 18 = .ok (.iload_n 2, 1) := by decide +kernel
theorem dX7_see_19 : decode cX7_see 19 = .ok (.bipush 9, 2) := by decide +kernel
theorem dX7_see_21 : decode cX7_see 21 = .ok (.if_icmp .gt 12, 3) := by decide +kernel
theorem dX7_see_24 : decode cX7_see 24 = .ok (.iload_n 3, 1) := by decide +kernel
theorem dX7_see_25 : decode cX7_see 25 = .ok (.ifCond .lt 8, 3) := by decide +kernel
theorem dX7_see_28 : decode cX7_see 28 = .ok (.iload_n 3, 1) := by decide +kernel
theorem dX7_see_29 : decode cX7_see 29 = .ok (.iconst 1, 1) := by decide +kernel
theorem dX7_see_30 : decode cX7_see 30 = .ok (.if_icmp .le 6, 3) := by decide +kernel
theorem dX7_see_33 : decode cX7_see 33 = .ok (.bipush (-2), 2) := by decide +kernel
theorem dX7_see_35 : decode cX7_see 35 = .ok (.ireturn, 1) := by decide +kernel
theorem dX7_see_36 : decode cX7_see 36 = .ok (.aload_n 0, 1) := by decide +kernel
theorem dX7_see_37 : decode cX7_see 37 = .ok (.getfield 48, 3) := by decide +kernel
theorem dX7_see_40 : decode cX7_see 40 = .ok (.iload_n 1, 1) := by decide +kernel
theorem dX7_see_41 : decode cX7_see 41 = .ok (.iload_n 2, 1) := by decide +kernel
theorem dX7_see_42 : decode cX7_see 42 = .ok (.iload_n 3, 1) := by decide +kernel
theorem dX7_see_43 : decode cX7_see 43 = .ok (.invokevirtual 190, 3) := by decide +kernel
theorem dX7_see_46 : decode cX7_see 46 = .ok (.ifCond .eq 13, 3) := by decide +kernel
theorem dX7_see_49 : decode cX7_see 49 = .ok (.aload_n 0, 1) := by decide +kernel
theorem dX7_see_50 : decode cX7_see 50 = .ok (.getfield 48, 3) := by decide +kernel
theorem dX7_see_53 : decode cX7_see 53 = .ok (.getfield 111, 3) := by decide +kernel
theorem dX7_see_56 : decode cX7_see 56 = .ok (.goto 5, 3) := by decide +kernel
theorem dX7_see_59 : decode cX7_see 59 = .ok (.bipush (-4), 2) := by decide +kernel
theorem dX7_see_61 : decode cX7_see 61 = .ok (.ireturn, 1) := by decide +kernel
theorem dX7_unsee_0 : decode cX7_unsee 0 = .ok (.aload_n 0, 1) := by decide +kernel
theorem dX7_unsee_1 : decode cX7_unsee 1 = .ok (.getfield 48, 3) := by decide +kernel
theorem dX7_unsee_4 : decode cX7_unsee 4 = .ok (.getfield 111, 3) := by decide +kernel
theorem dX7_unsee_7 : decode cX7_unsee 7 = .ok (.istore_n 1, 1) := by decide +kernel
theorem dX7_unsee_8 : decode cX7_unsee 8 = .ok (.aload_n 0, 1) := by decide +kernel
theorem dX7_unsee_9 : decode cX7_unsee 9 = .ok (.getfield 48, 3) := by decide +kernel
theorem dX7_unsee_12 : decode cX7_unsee 12 = .ok (.iconst 0, 1) := by decide +kernel
theorem dX7_unsee_13 : decode cX7_unsee 13 = .ok (.putfield 111, 3) := by decide +kernel
theorem dX7_unsee_16 : decode cX7_unsee 16 = .ok (.iload_n 1, 1) := by decide +kernel
theorem dX7_unsee_17 : decode cX7_unsee 17 = .ok (.ireturn, 1) := by decide +kernel
theorem dX7_began_0 : decode cX7_began 0 = .ok (.iload_n 1, 1) := by decide +kernel
theorem dX7_began_1 : decode cX7_began 1 = .ok (.ifCond .eq 11, 3) := by decide +kernel
theorem dX7_began_4 : decode cX7_began 4 = .ok (.iload_n 1, 1) := by decide +kernel
theorem dX7_began_5 : decode cX7_began 5 = .ok (.iconst 1, 1) := by decide +kernel
theorem dX7_began_6 : decode cX7_began 6 = .ok (.if_icmp .eq 6, 3) := by decide +kernel
theorem dX7_began_9 : decode cX7_began 9 = .ok (.bipush (-2), 2) := by decide +kernel
theorem dX7_began_11 : decode cX7_began 11 = .ok (.ireturn, 1) := by decide +kernel
theorem dX7_began_12 : decode cX7_began 12 = .ok (.bipush (-9), 2) := by decide +kernel
theorem dX7_began_14 : decode cX7_began 14 = .ok (.istore_n 2, 1) := by decide +kernel
theorem dX7_began_15 : decode cX7_began 15 = .ok (.iconst 0, 1) := by decide +kernel
theorem dX7_began_16 : decode cX7_began 16 = .ok (.istore_n 3, 1) := by decide +kernel
theorem dX7_began_17 : decode cX7_began 17 = .ok (.aload_n 0, 1) := by decide +kernel
theorem dX7_began_18 : decode cX7_began 18 = .ok (.getfield 55, 3) := by decide +kernel
theorem dX7_began_21 : decode cX7_began 21 = .ok (.aload_n 0, 1) := by decide +kernel
theorem dX7_began_22 : decode cX7_began 22 = .ok (.getfield 16, 3) := by decide +kernel
theorem dX7_began_25 : decode cX7_began 25 = .ok (.bipush 10, 2) := by decide +kernel
theorem dX7_began_27 : decode cX7_began 27 = .ok (.invokevirtual 142, 3) := by decide +kernel
theorem dX7_began_30 : decode cX7_began 30 = .ok (.ifCond .eq 111, 3) := by decide +kernel
theorem dX7_began_33 : decode cX7_began 33 = .ok (.aload_n 0, 1) := by decide +kernel
theorem dX7_began_34 : decode cX7_began 34 = .ok (.getfield 62, 3) := by decide +kernel
theorem dX7_began_37 : decode cX7_began 37 = .ok (.aload_n 0, 1) := by decide +kernel
theorem dX7_began_38 : decode cX7_began 38 = .ok (.getfield 16, 3) := by decide +kernel
theorem dX7_began_41 : decode cX7_began 41 = .ok (.bipush 10, 2) := by decide +kernel
theorem dX7_began_43 : decode cX7_began 43 = .ok (.invokevirtual 146, 3) := by decide +kernel
theorem dX7_began_46 : decode cX7_began 46 = .ok (.iconst 0, 1) := by decide +kernel
theorem dX7_began_47 : decode cX7_began 47 = .ok (.istore 4, 2) := by decide +kernel
theorem dX7_began_49 : decode cX7_began 49 = .ok (.iload 4, 2) := by decide +kernel
theorem dX7_began_51 : decode cX7_began 51 = .ok (.aload_n 0, 1) := by decide +kernel
theorem dX7_began_52 : decode cX7_began 52 = .ok (.getfield 16, 3) := by decide +kernel
theorem dX7_began_55 : decode cX7_began 55 = .ok (.getfield 92, 3) := by decide +kernel
theorem dX7_began_58 : decode cX7_began 58 = .ok (.if_icmp .ge 83, 3) := by decide +kernel
theorem dX7_began_61 : decode cX7_began 61 = .ok (.aload_n 0, 1) := by decide +kernel
theorem dX7_began_62 : decode cX7_began 62 = .ok (.getfield 62, 3) := by decide +kernel
theorem dX7_began_65 : decode cX7_began 65 = .ok (.aload_n 0, 1) := by decide +kernel
theorem dX7_began_66 : decode cX7_began 66 = .ok (.getfield 16, 3) := by decide +kernel
theorem dX7_began_69 : decode cX7_began 69 = .ok (.iload 4, 2) := by decide +kernel
theorem dX7_began_71 : decode cX7_began 71 = .ok (.bipush 9, 2) := by decide +kernel
theorem dX7_began_73 : decode cX7_began 73 = .ok (.invokevirtual 157, 3) := by decide +kernel
theorem dX7_began_76 : decode cX7_began 76 = .ok (.iconst 1, 1) := by decide +kernel
theorem dX7_began_77 : decode cX7_began 77 = .ok (.istore 5, 2) := by decide +kernel
theorem dX7_began_79 : decode cX7_began 79 = .ok (.iload 5, 2) := by decide +kernel
theorem dX7_began_81 : decode cX7_began 81 = .ok (.bipush 30, 2) := by decide +kernel
theorem dX7_began_83 : decode cX7_began 83 = .ok (.if_icmp .gt 52, 3) := by decide +kernel
theorem dX7_began_86 : decode cX7_began 86 = .ok (.aload_n 0, 1) := by decide +kernel
theorem dX7_began_87 : decode cX7_began 87 = .ok (.getfield 48, 3) := by decide +kernel
theorem dX7_began_90 : decode cX7_began 90 = .ok (.aload_n 0, 1) := by decide +kernel
theorem dX7_began_91 : decode cX7_began 91 = .ok (.getfield 62, 3) := by decide +kernel
theorem dX7_began_94 : decode cX7_began 94 = .ok (.iload 5, 2) := by decide +kernel
theorem dX7_began_96 : decode cX7_began 96 = .ok (.aload_n 0, 1) := by decide +kernel
theorem dX7_began_97 : decode cX7_began 97 = .ok (.getfield 16, 3) := by decide +kernel
theorem dX7_began_100 : decode cX7_began 100 = .ok (.getfield 92, 3) := by decide +kernel
theorem dX7_began_103 : decode cX7_began 103 = .ok (.invokevirtual 193, 3) := by decide +kernel
theorem dX7_began_106 : decode cX7_began 106 = .ok (.ifCond .eq 23, 3) := by decide +kernel
theorem dX7_began_109 : decode cX7_began 109 = .ok (.iload_n 3, 1) := by decide +kernel
theorem dX7_began_110 : decode cX7_began 110 = .ok (.ifCond .ne 14, 3) := by decide +kernel
theorem dX7_began_113 : decode cX7_began 113 = .ok (.bipush 100, 2) := by decide +kernel
theorem dX7_began_115 : decode cX7_began 115 = .ok (.iload 4, 2) := by decide +kernel
theorem dX7_began_117 : decode cX7_began 117 = .ok (.imul, 1) := by decide +kernel
theorem dX7_began_118 : decode cX7_began 118 = .ok (.iload 5, 2) := by decide +kernel
theorem dX7_began_120 : decode cX7_began 120 = .ok (.iadd, 1) := by decide +kernel
theorem dX7_began_121 : decode cX7_began 121 = .ok (.goto 4, 3) := by decide +kernel
theorem dX7_began_124 : decode cX7_began 124 = .ok (.iload_n 2, 1) := by decide +kernel
theorem dX7_began_125 : decode cX7_began 125 = .ok (.istore_n 2, 1) := by decide +kernel
theorem dX7_began_126 : decode cX7_began 126 = .ok (.iinc 3 1, 3) := by decide +kernel
theorem dX7_began_129 : decode cX7_began 129 = .ok (.iinc 5 1, 3) := by decide +kernel
theorem dX7_began_132 : decode cX7_began 132 = .ok (.goto (-53), 3) := by decide +kernel
theorem dX7_began_135 : decode cX7_began 135 = .ok (.iinc 4 1, 3) := by decide +kernel
theorem dX7_began_138 : decode cX7_began 138 = .ok (.goto (-89), 3) := by decide +kernel
theorem dX7_began_141 : decode cX7_began 141 = .ok (.iload_n 1, 1) := by decide +kernel
theorem dX7_began_142 : decode cX7_began 142 = .ok (.ifCond .ne 7, 3) := by decide +kernel
theorem dX7_began_145 : decode cX7_began 145 = .ok (.iload_n 3, 1) := by decide +kernel
theorem dX7_began_146 : decode cX7_began 146 = .ok (.goto 4, 3) := by decide +kernel
theorem dX7_began_149 : decode cX7_began 149 = .ok (.iload_n 2, 1) := by decide +kernel
theorem dX7_began_150 : decode cX7_began 150 = .ok (.ireturn, 1) := by decide +kernel
theorem dX7_dropped_0 : decode cX7_dropped 0 = .ok (.aload_n 0, 1) := by decide +kernel
theorem dX7_dropped_1 : decode cX7_dropped 1 = .ok (.getfield 16, 3) := by decide +kernel
theorem dX7_dropped_4 : decode cX7_dropped 4 = .ok (.iload_n 1, 1) := by decide +kernel
theorem dX7_dropped_5 : decode cX7_dropped 5 = .ok (.invokevirtual 112, 3) := by decide +kernel
theorem dX7_dropped_8 : decode cX7_dropped 8 = .ok (.ifCond .ne 5, 3) := by decide +kernel
theorem dX7_dropped_11 : decode cX7_dropped 11 = .ok (.iconst (-1), 1) := by decide +kernel
theorem dX7_dropped_12 : decode cX7_dropped 12 = .ok (.ireturn, 1) := by decide +kernel
theorem dX7_dropped_13 : decode cX7_dropped 13 = .ok (.iload_n 2, 1) := by decide +kernel
theorem dX7_dropped_14 : decode cX7_dropped 14 = .ok (.ifCond .lt 19, 3) := by decide +kernel
theorem dX7_dropped_17 : decode cX7_dropped 17 = .ok (.iload_n 2, 1) := by decide +kernel
theorem dX7_dropped_18 : decode cX7_dropped 18 = .ok (.bipush 20, 2) := by decide +kernel
theorem dX7_dropped_20 : decode cX7_dropped 20 = .ok (.if_icmp .gt 13, 3) := by decide +kernel
theorem dX7_dropped_23 : decode cX7_dropped 23 = .ok (.iload_n 3, 1) := by decide +kernel
theorem dX7_dropped_24 : decode cX7_dropped 24 = .ok (.ifCond .lt 9, 3) := by decide +kernel
theorem dX7_dropped_27 : decode cX7_dropped 27 = .ok (.iload_n 3, 1) := by decide +kernel
theorem dX7_dropped_28 : decode cX7_dropped 28 = .ok (.bipush 10, 2) := by decide +kernel
theorem dX7_dropped_30 : decode cX7_dropped 30 = .ok (.if_icmp .le 6, 3) := by decide +kernel
theorem dX7_dropped_33 : decode cX7_dropped 33 = .ok (.bipush (-2), 2) := by decide +kernel
theorem dX7_dropped_35 : decode cX7_dropped 35 = .ok (.ireturn, 1) := by decide +kernel
theorem dX7_dropped_36 : decode cX7_dropped 36 = .ok (.aload_n 0, 1) := by decide +kernel
theorem dX7_dropped_37 : decode cX7_dropped 37 = .ok (.getfield 20, 3) := by decide +kernel
theorem dX7_dropped_40 : decode cX7_dropped 40 = .ok (.aload_n 0, 1) := by decide +kernel
theorem dX7_dropped_41 : decode cX7_dropped 41 = .ok (.getfield 16, 3) := by decide +kernel
theorem dX7_dropped_44 : decode cX7_dropped 44 = .ok (.invokevirtual 81, 3) := by decide +kernel
theorem dX7_dropped_47 : decode cX7_dropped 47 = .ok (.iconst 0, 1) := by decide +kernel
theorem dX7_dropped_48 : decode cX7_dropped 48 = .ok (.istore 5, 2) := by decide +kernel
theorem dX7_dropped_50 : decode cX7_dropped 50 = .ok (.iload 5, 2) := by decide +kernel
theorem dX7_dropped_52 : decode cX7_dropped 52 = .ok (.aload_n 0, 1) := by decide +kernel
theorem dX7_dropped_53 : decode cX7_dropped 53 = .ok (.getfield 16, 3) := by decide +kernel
theorem dX7_dropped_56 : decode cX7_dropped 56 = .ok (.getfield 92, 3) := by decide +kernel
theorem dX7_dropped_59 : decode cX7_dropped 59 = .ok (.if_icmp .ge 22, 3) := by decide +kernel
theorem dX7_dropped_62 : decode cX7_dropped 62 = .ok (.aload_n 0, 1) := by decide +kernel
theorem dX7_dropped_63 : decode cX7_dropped 63 = .ok (.getfield 20, 3) := by decide +kernel
theorem dX7_dropped_66 : decode cX7_dropped 66 = .ok (.iload_n 1, 1) := by decide +kernel
theorem dX7_dropped_67 : decode cX7_dropped 67 = .ok (.iload 5, 2) := by decide +kernel
theorem dX7_dropped_69 : decode cX7_dropped 69 = .ok (.bipush (-9), 2) := by decide +kernel
theorem dX7_dropped_71 : decode cX7_dropped 71 = .ok (.invokevirtual 169, 3) := by decide +kernel
theorem dX7_dropped_74 : decode cX7_dropped 74 = .ok (.pop, 1) := by decide +kernel
theorem dX7_dropped_75 : decode cX7_dropped 75 = .ok (.iinc 5 1, 3) := by decide +kernel
theorem dX7_dropped_78 : decode cX7_dropped 78 = .ok (.goto (-28), 3) := by decide +kernel
theorem dX7_dropped_81 : decode cX7_dropped 81 = .ok (.aload_n 0, 1) := by decide +kernel
theorem dX7_dropped_82 : decode cX7_dropped 82 = .ok (.getfield 55, 3) := by decide +kernel
theorem dX7_dropped_85 : decode cX7_dropped 85 = .ok (.aload_n 0, 1) := by decide +kernel
theorem dX7_dropped_86 : decode cX7_dropped 86 = .ok (.getfield 20, 3) := by decide +kernel
theorem dX7_dropped_89 : decode cX7_dropped 89 = .ok (.iload_n 2, 1) := by decide +kernel
theorem dX7_dropped_90 : decode cX7_dropped 90 = .ok (.invokevirtual 142, 3) := by decide +kernel
theorem dX7_dropped_93 : decode cX7_dropped 93 = .ok (.ifCond .ne 11, 3) := by decide +kernel
theorem dX7_dropped_96 : decode cX7_dropped 96 = .ok (.iconst 0, 1) := by decide +kernel
theorem dX7_dropped_97 : decode cX7_dropped 97 = .ok (.iconst 1, 1) := by decide +kernel
theorem dX7_dropped_98 : decode cX7_dropped 98 = .ok (.iload 4, 2) := by decide +kernel
theorem dX7_dropped_100 : decode cX7_dropped 100 = .ok (.invokestatic 131, 3) := by decide +kernel
theorem dX7_dropped_103 : decode cX7_dropped 103 = .ok (.ireturn, 1) := by decide +kernel
theorem dX7_dropped_104 : decode cX7_dropped 104 = .ok (.iconst 1, 1) := by decide +kernel
theorem dX7_dropped_105 : decode cX7_dropped 105 = .ok (.istore 5, 2) := by decide +kernel
theorem dX7_dropped_107 : decode cX7_dropped 107 = .ok (.iconst 1, 1) := by decide +kernel
theorem dX7_dropped_108 : decode cX7_dropped 108 = .ok (.istore 6, 2) := by decide +kernel
theorem dX7_dropped_110 : decode cX7_dropped 110 = .ok (.iconst 0, 1) := by decide +kernel
theorem dX7_dropped_111 : decode cX7_dropped 111 = .ok (.istore 7, 2) := by decide +kernel
theorem dX7_dropped_113 : decode cX7_dropped 113 = .ok (.iload 7, 2) := by decide +kernel
theorem dX7_dropped_115 : decode cX7_dropped 115 = .ok (.aload_n 0, 1) := by decide +kernel
theorem dX7_dropped_116 : decode cX7_dropped 116 = .ok (.getfield 16, 3) := by decide +kernel
theorem dX7_dropped_119 : decode cX7_dropped 119 = .ok (.getfield 92, 3) := by decide +kernel
theorem dX7_dropped_122 : decode cX7_dropped 122 = .ok (.if_icmp .ge 71, 3) := by decide +kernel
theorem dX7_dropped_125 : decode cX7_dropped 125 = .ok (.aload_n 0, 1) := by decide +kernel
theorem dX7_dropped_126 : decode cX7_dropped 126 = .ok (.getfield 20, 3) := by decide +kernel
theorem dX7_dropped_129 : decode cX7_dropped 129 = .ok (.iload_n 1, 1) := by decide +kernel
theorem dX7_dropped_130 : decode cX7_dropped 130 = .ok (.iload 7, 2) := by decide +kernel
theorem dX7_dropped_132 : decode cX7_dropped 132 = .ok (.aload_n 0, 1) := by decide +kernel
theorem dX7_dropped_133 : decode cX7_dropped 133 = .ok (.getfield 16, 3) := by decide +kernel
theorem dX7_dropped_136 : decode cX7_dropped 136 = .ok (.iload_n 1, 1) := by decide +kernel
theorem dX7_dropped_137 : decode cX7_dropped 137 = .ok (.iload 7, 2) := by decide +kernel
theorem dX7_dropped_139 : decode cX7_dropped 139 = .ok (.invokevirtual 116, 3) := by decide +kernel
theorem dX7_dropped_142 : decode cX7_dropped 142 = .ok (.invokevirtual 169, 3) := by decide +kernel
theorem dX7_dropped_145 : decode cX7_dropped 145 = .ok (.pop, 1) := by decide +kernel
theorem dX7_dropped_146 : decode cX7_dropped 146 = .ok (.aload_n 0, 1) := by decide +kernel
theorem dX7_dropped_147 : decode cX7_dropped 147 = .ok (.getfield 55, 3) := by decide +kernel
theorem dX7_dropped_150 : decode cX7_dropped 150 = .ok (.aload_n 0, 1) := by decide +kernel
theorem dX7_dropped_151 : decode cX7_dropped 151 = .ok (.getfield 20, 3) := by decide +kernel
theorem dX7_dropped_154 : decode cX7_dropped 154 = .ok (.iload_n 2, 1) := by decide +kernel
theorem dX7_dropped_155 : decode cX7_dropped 155 = .ok (.invokevirtual 142, 3) := by decide +kernel
theorem dX7_dropped_158 : decode cX7_dropped 158 = .ok (.ifCond .ne 16, 3) := by decide +kernel
theorem dX7_dropped_161 : decode cX7_dropped 161 = .ok (.iload 5, 2) := by decide +kernel
theorem dX7_dropped_163 : decode cX7_dropped 163 = .ok (.iload_n 3, 1) := by decide +kernel
theorem dX7_dropped_164 : decode cX7_dropped 164 = .ok (.imul, 1) := by decide +kernel
theorem dX7_dropped_165 : decode cX7_dropped 165 = .ok (.istore 5, 2) := by decide +kernel
theorem dX7_dropped_167 : decode cX7_dropped 167 = .ok (.iload 6, 2) := by decide +kernel
theorem dX7_dropped_169 : decode cX7_dropped 169 = .ok (.bipush 10, 2) := by decide +kernel
theorem dX7_dropped_171 : decode cX7_dropped 171 = .ok (.imul, 1) := by decide +kernel
theorem dX7_dropped_172 : decode cX7_dropped 172 = .ok (.istore 6, 2) := by decide +kernel
theorem dX7_dropped_174 : decode cX7_dropped 174 = .ok (.aload_n 0, 1) := by decide +kernel
theorem dX7_dropped_175 : decode cX7_dropped 175 = .ok (.getfield 20, 3) := by decide +kernel
theorem dX7_dropped_178 : decode cX7_dropped 178 = .ok (.iload_n 1, 1) := by decide +kernel
theorem dX7_dropped_179 : decode cX7_dropped 179 = .ok (.iload 7, 2) := by decide +kernel
theorem dX7_dropped_181 : decode cX7_dropped 181 = .ok (.bipush (-9), 2) := by decide +kernel
theorem dX7_dropped_183 : decode cX7_dropped 183 = .ok (.invokevirtual 169, 3) := by decide +kernel
theorem dX7_dropped_186 : decode cX7_dropped 186 = .ok (.pop, 1) := by decide +kernel
theorem dX7_dropped_187 : decode cX7_dropped 187 = .ok (.iinc 7 1, 3) := by decide +kernel
theorem dX7_dropped_190 : decode cX7_dropped 190 = .ok (.goto (-77), 3) := by decide +kernel
theorem dX7_dropped_193 : decode cX7_dropped 193 = .ok (.iload 5, 2) := by decide +kernel
theorem dX7_dropped_195 : decode cX7_dropped 195 = .ok (.iload 6, 2) := by decide +kernel
theorem dX7_dropped_197 : decode cX7_dropped 197 = .ok (.iload 4, 2) := by decide +kernel
theorem dX7_dropped_199 : decode cX7_dropped 199 = .ok (.invokestatic 131, 3) := by decide +kernel
theorem dX7_dropped_202 : decode cX7_dropped 202 = .ok (.ireturn, 1) := by decide +kernel
theorem dX7_seed_0 : decode cX7_seed 0 = .ok (.aload_n 0, 1) := by decide +kernel
theorem dX7_seed_1 : decode cX7_seed 1 = .ok (.getfield 197, 3) := by decide +kernel
theorem dX7_seed_4 : decode cX7_seed 4 = .ok (.lstore_n 3, 1) := by decide +kernel
theorem dX7_seed_5 : decode cX7_seed 5 = .ok (.aload_n 0, 1) := by decide +kernel
theorem dX7_seed_6 : decode cX7_seed 6 = .ok (.lload_n 1, 1) := by decide +kernel
theorem dX7_seed_7 : decode cX7_seed 7 = .ok (.putfield 197, 3) := by decide +kernel
theorem dX7_seed_10 : decode cX7_seed 10 = .ok (.lload_n 3, 1) := by decide +kernel
theorem dX7_seed_11 : decode cX7_seed 11 = .ok (.lreturn, 1) := by decide +kernel
theorem dX7_drawn_0 : decode cX7_drawn 0 = .ok (.iload_n 1, 1) := by decide +kernel
theorem dX7_drawn_1 : decode cX7_drawn 1 = .ok (.iconst 1, 1) := by decide +kernel
theorem dX7_drawn_2 : decode cX7_drawn 2 = .ok (.if_icmp .lt 9, 3) := by decide +kernel
theorem dX7_drawn_5 : decode cX7_drawn 5 = .ok (.iload_n 1, 1) := by decide +kernel
theorem dX7_drawn_6 : decode cX7_drawn 6 = .ok (.bipush 20, 2) := by decide +kernel
theorem dX7_drawn_8 : decode cX7_drawn 8 = .ok (.if_icmp .le 6, 3) := by decide +kernel
theorem dX7_drawn_11 : decode cX7_drawn 11 = .ok (.bipush (-2), 2) := by decide +kernel
theorem dX7_drawn_13 : decode cX7_drawn 13 = .ok (.ireturn, 1) := by decide +kernel
theorem dX7_drawn_14 : decode cX7_drawn 14 = .ok (.aload_n 0, 1) := by decide +kernel
theorem dX7_drawn_15 : decode cX7_drawn 15 = .ok (.getfield 20, 3) := by decide +kernel
theorem dX7_drawn_18 : decode cX7_drawn 18 = .ok (.aload_n 0, 1) := by decide +kernel
theorem dX7_drawn_19 : decode cX7_drawn 19 = .ok (.getfield 16, 3) := by decide +kernel
theorem dX7_drawn_22 : decode cX7_drawn 22 = .ok (.invokevirtual 81, 3) := by decide +kernel
theorem dX7_drawn_25 : decode cX7_drawn 25 = .ok (.iconst 0, 1) := by decide +kernel
theorem dX7_drawn_26 : decode cX7_drawn 26 = .ok (.istore_n 2, 1) := by decide +kernel
theorem dX7_drawn_27 : decode cX7_drawn 27 = .ok (.iconst 0, 1) := by decide +kernel
theorem dX7_drawn_28 : decode cX7_drawn 28 = .ok (.istore_n 3, 1) := by decide +kernel
theorem dX7_drawn_29 : decode cX7_drawn 29 = .ok (.iload_n 3, 1) := by decide +kernel
theorem dX7_drawn_30 : decode cX7_drawn 30 = .ok (.iload_n 1, 1) := by decide +kernel
theorem dX7_drawn_31 : decode cX7_drawn 31 = .ok (.if_icmp .ge 101, 3) := by decide +kernel
theorem dX7_drawn_34 : decode cX7_drawn 34 = .ok (.aload_n 0, 1) := by decide +kernel
theorem dX7_drawn_35 : decode cX7_drawn 35 = .ok (.aload_n 0, 1) := by decide +kernel
theorem dX7_drawn_36 : decode cX7_drawn 36 = .ok (.getfield 197, 3) := by decide +kernel
theorem dX7_drawn_39 : decode cX7_drawn 39 = .ok (.ldc2_w 201, 3) := by decide +kernel
theorem dX7_drawn_42 : decode cX7_drawn 42 = .ok (.lmul, 1) := by decide +kernel
theorem dX7_drawn_43 : decode cX7_drawn 43 = .ok (.ldc2_w 203, 3) := by decide +kernel
theorem dX7_drawn_46 : decode cX7_drawn 46 = .ok (.ladd, 1) := by decide +kernel
theorem dX7_drawn_47 : decode cX7_drawn 47 = .ok (.putfield 197, 3) := by decide +kernel
theorem dX7_drawn_50 : decode cX7_drawn 50 = .ok (.aload_n 0, 1) := by decide +kernel
theorem dX7_drawn_51 : decode cX7_drawn 51 = .ok (.getfield 197, 3) := by decide +kernel
theorem dX7_drawn_54 : decode cX7_drawn 54 = .ok (.bipush 33, 2) := by decide +kernel
theorem dX7_drawn_56 : decode cX7_drawn 56 = .ok (.lushr, 1) := by decide +kernel
theorem dX7_drawn_57 : decode cX7_drawn 57 = .ok (.l2i, 1) := by decide +kernel
theorem dX7_drawn_58 : decode cX7_drawn 58 = .ok (.istore 4, 2) := by decide +kernel
theorem dX7_drawn_60 : decode cX7_drawn 60 = .ok (.iload 4, 2) := by decide +kernel
theorem dX7_drawn_62 : decode cX7_drawn 62 = .ok (.bipush 64, 2) := by decide +kernel
theorem dX7_drawn_64 : decode cX7_drawn 64 = .ok (.idiv, 1) := by decide +kernel
theorem dX7_drawn_65 : decode cX7_drawn 65 = .ok (.bipush 11, 2) := by decide +kernel
theorem dX7_drawn_67 : decode cX7_drawn 67 = .ok (.irem, 1) := by decide +kernel
theorem dX7_drawn_68 : decode cX7_drawn 68 = .ok (.istore 5, 2) := by decide +kernel
theorem dX7_drawn_70 : decode cX7_drawn 70 = .ok (.aload_n 0, 1) := by decide +kernel
theorem dX7_drawn_71 : decode cX7_drawn 71 = .ok (.getfield 20, 3) := by decide +kernel
theorem dX7_drawn_74 : decode cX7_drawn 74 = .ok (.iload 4, 2) := by decide +kernel
theorem dX7_drawn_76 : decode cX7_drawn 76 = .ok (.bipush 6, 2) := by decide +kernel
theorem dX7_drawn_78 : decode cX7_drawn 78 = .ok (.irem, 1) := by decide +kernel
theorem dX7_drawn_79 : decode cX7_drawn 79 = .ok (.iload 4, 2) := by decide +kernel
theorem dX7_drawn_81 : decode cX7_drawn 81 = .ok (.bipush 8, 2) := by decide +kernel
theorem dX7_drawn_83 : decode cX7_drawn 83 = .ok (.idiv, 1) := by decide +kernel
theorem dX7_drawn_84 : decode cX7_drawn 84 = .ok (.bipush 6, 2) := by decide +kernel
theorem dX7_drawn_86 : decode cX7_drawn 86 = .ok (.irem, 1) := by decide +kernel
theorem dX7_drawn_87 : decode cX7_drawn 87 = .ok (.iload 5, 2) := by decide +kernel
theorem dX7_drawn_89 : decode cX7_drawn 89 = .ok (.bipush 9, 2) := by decide +kernel
theorem dX7_drawn_91 : decode cX7_drawn 91 = .ok (.if_icmp .le 8, 3) := by decide +kernel
theorem dX7_drawn_94 : decode cX7_drawn 94 = .ok (.bipush (-9), 2) := by decide +kernel
theorem dX7_drawn_96 : decode cX7_drawn 96 = .ok (.goto 5, 3) := by decide +kernel
theorem dX7_drawn_99 : decode cX7_drawn 99 = .ok (.iload 5, 2) := by decide +kernel
theorem dX7_drawn_101 : decode cX7_drawn 101 = .ok (.invokevirtual 169, 3) := by decide +kernel
theorem dX7_drawn_104 : decode cX7_drawn 104 = .ok (.pop, 1) := by decide +kernel
theorem dX7_drawn_105 : decode cX7_drawn 105 = .ok (.iload_n 2, 1) := by decide +kernel
theorem dX7_drawn_106 : decode cX7_drawn 106 = .ok (.iconst 0, 1) := by decide +kernel
theorem dX7_drawn_107 : decode cX7_drawn 107 = .ok (.aload_n 0, 1) := by decide +kernel
theorem dX7_drawn_108 : decode cX7_drawn 108 = .ok (.getfield 55, 3) := by decide +kernel
theorem dX7_drawn_111 : decode cX7_drawn 111 = .ok (.aload_n 0, 1) := by decide +kernel
theorem dX7_drawn_112 : decode cX7_drawn 112 = .ok (.getfield 20, 3) := by decide +kernel
theorem dX7_drawn_115 : decode cX7_drawn 115 = .ok (.invokevirtual 127, 3) := by decide +kernel
theorem dX7_drawn_118 : decode cX7_drawn 118 = .ok (.invokestatic 205, 3) := by decide +kernel
theorem dX7_drawn_121 : decode cX7_drawn 121 = .ok (.bipush 60, 2) := by decide +kernel
theorem dX7_drawn_123 : decode cX7_drawn 123 = .ok (.idiv, 1) := by decide +kernel
theorem dX7_drawn_124 : decode cX7_drawn 124 = .ok (.iadd, 1) := by decide +kernel
theorem dX7_drawn_125 : decode cX7_drawn 125 = .ok (.istore_n 2, 1) := by decide +kernel
theorem dX7_drawn_126 : decode cX7_drawn 126 = .ok (.iinc 3 1, 3) := by decide +kernel
theorem dX7_drawn_129 : decode cX7_drawn 129 = .ok (.goto (-100), 3) := by decide +kernel
theorem dX7_drawn_132 : decode cX7_drawn 132 = .ok (.iload_n 2, 1) := by decide +kernel
theorem dX7_drawn_133 : decode cX7_drawn 133 = .ok (.ireturn, 1) := by decide +kernel
theorem dX7_keep_0 : decode cX7_keep 0 = .ok (.iload_n 1, 1) := by decide +kernel
theorem dX7_keep_1 : decode cX7_keep 1 = .ok (.ifCond .lt 8, 3) := by decide +kernel
theorem dX7_keep_4 : decode cX7_keep 4 = .ok (.iload_n 1, 1) := by decide +kernel
theorem dX7_keep_5 : decode cX7_keep 5 = .ok (.iconst 2, 1) := by decide +kernel
theorem dX7_keep_6 : decode cX7_keep 6 = .ok (.if_icmp .lt 5, 3) := by decide +kernel
theorem dX7_keep_9 : decode cX7_keep 9 = .ok (.iconst (-1), 1) := by decide +kernel
theorem dX7_keep_10 : decode cX7_keep 10 = .ok (.ireturn, 1) := by decide +kernel
theorem dX7_keep_11 : decode cX7_keep 11 = .ok (.aload_n 0, 1) := by decide +kernel
theorem dX7_keep_12 : decode cX7_keep 12 = .ok (.getfield 23, 3) := by decide +kernel
theorem dX7_keep_15 : decode cX7_keep 15 = .ok (.iload_n 1, 1) := by decide +kernel
theorem dX7_keep_16 : decode cX7_keep 16 = .ok (.aaload, 1) := by decide +kernel
theorem dX7_keep_17 : decode cX7_keep 17 = .ok (.aload_n 0, 1) := by decide +kernel
theorem dX7_keep_18 : decode cX7_keep 18 = .ok (.getfield 16, 3) := by decide +kernel
theorem dX7_keep_21 : decode cX7_keep 21 = .ok (.invokevirtual 81, 3) := by decide +kernel
theorem dX7_keep_24 : decode cX7_keep 24 = .ok (.aload_n 0, 1) := by decide +kernel
theorem dX7_keep_25 : decode cX7_keep 25 = .ok (.getfield 27, 3) := by decide +kernel
theorem dX7_keep_28 : decode cX7_keep 28 = .ok (.iload_n 1, 1) := by decide +kernel
theorem dX7_keep_29 : decode cX7_keep 29 = .ok (.iconst 1, 1) := by decide +kernel
theorem dX7_keep_30 : decode cX7_keep 30 = .ok (.bastore, 1) := by decide +kernel
theorem dX7_keep_31 : decode cX7_keep 31 = .ok (.aload_n 0, 1) := by decide +kernel
theorem dX7_keep_32 : decode cX7_keep 32 = .ok (.getfield 16, 3) := by decide +kernel
theorem dX7_keep_35 : decode cX7_keep 35 = .ok (.invokevirtual 88, 3) := by decide +kernel
theorem dX7_keep_38 : decode cX7_keep 38 = .ok (.ireturn, 1) := by decide +kernel
theorem dX7_again_0 : decode cX7_again 0 = .ok (.iload_n 1, 1) := by decide +kernel
theorem dX7_again_1 : decode cX7_again 1 = .ok (.ifCond .lt 8, 3) := by decide +kernel
theorem dX7_again_4 : decode cX7_again 4 = .ok (.iload_n 1, 1) := by decide +kernel
theorem dX7_again_5 : decode cX7_again 5 = .ok (.iconst 2, 1) := by decide +kernel
theorem dX7_again_6 : decode cX7_again 6 = .ok (.if_icmp .lt 5, 3) := by decide +kernel
theorem dX7_again_9 : decode cX7_again 9 = .ok (.iconst (-1), 1) := by decide +kernel
theorem dX7_again_10 : decode cX7_again 10 = .ok (.ireturn, 1) := by decide +kernel
theorem dX7_again_11 : decode cX7_again 11 = .ok (.aload_n 0, 1) := by decide +kernel
theorem dX7_again_12 : decode cX7_again 12 = .ok (.getfield 27, 3) := by decide +kernel
theorem dX7_again_15 : decode cX7_again 15 = .ok (.iload_n 1, 1) := by decide +kernel
theorem dX7_again_16 : decode cX7_again 16 = .ok (.baload, 1) := by decide +kernel
theorem dX7_again_17 : decode cX7_again 17 = .ok (.ifCond .ne 6, 3) := by decide +kernel
theorem dX7_again_20 : decode cX7_again 20 = .ok (.bipush (-3), 2) := by decide +kernel
theorem dX7_again_22 : decode cX7_again 22 = .ok (.ireturn, 1) := by decide +kernel
theorem dX7_again_23 : decode cX7_again 23 = .ok (.aload_n 0, 1) := by decide +kernel
theorem dX7_again_24 : decode cX7_again 24 = .ok (.getfield 16, 3) := by decide +kernel
theorem dX7_again_27 : decode cX7_again 27 = .ok (.aload_n 0, 1) := by decide +kernel
theorem dX7_again_28 : decode cX7_again 28 = .ok (.getfield 23, 3) := by decide +kernel
theorem dX7_again_31 : decode cX7_again 31 = .ok (.iload_n 1, 1) := by decide +kernel
theorem dX7_again_32 : decode cX7_again 32 = .ok (.aaload, 1) := by decide +kernel
theorem dX7_again_33 : decode cX7_again 33 = .ok (.invokevirtual 81, 3) := by decide +kernel
theorem dX7_again_36 : decode cX7_again 36 = .ok (.aload_n 0, 1) := by decide +kernel
theorem dX7_again_37 : decode cX7_again 37 = .ok (.getfield 41, 3) := by decide +kernel
theorem dX7_again_40 : decode cX7_again 40 = .ok (.invokevirtual 85, 3) := by decide +kernel
theorem dX7_again_43 : decode cX7_again 43 = .ok (.aload_n 0, 1) := by decide +kernel
theorem dX7_again_44 : decode cX7_again 44 = .ok (.getfield 16, 3) := by decide +kernel
theorem dX7_again_47 : decode cX7_again 47 = .ok (.invokevirtual 88, 3) := by decide +kernel
theorem dX7_again_50 : decode cX7_again 50 = .ok (.ireturn, 1) := by decide +kernel
theorem dX7_change_0 : decode cX7_change 0 = .ok (.aload_n 0, 1) := by decide +kernel
theorem dX7_change_1 : decode cX7_change 1 = .ok (.getfield 16, 3) := by decide +kernel
theorem dX7_change_4 : decode cX7_change 4 = .ok (.iload_n 1, 1) := by decide +kernel
theorem dX7_change_5 : decode cX7_change 5 = .ok (.iload_n 2, 1) := by decide +kernel
theorem dX7_change_6 : decode cX7_change 6 = .ok (.invokevirtual 116, 3) := by decide +kernel
theorem dX7_change_9 : decode cX7_change 9 = .ok (.istore 4, 2) := by decide +kernel
theorem dX7_change_11 : decode cX7_change 11 = .ok (.aload_n 0, 1) := by decide +kernel
theorem dX7_change_12 : decode cX7_change 12 = .ok (.getfield 41, 3) := by decide +kernel
theorem dX7_change_15 : decode cX7_change 15 = .ok (.iload_n 1, 1) := by decide +kernel
theorem dX7_change_16 : decode cX7_change 16 = .ok (.iload_n 2, 1) := by decide +kernel
theorem dX7_change_17 : decode cX7_change 17 = .ok (.iload 4, 2) := by decide +kernel
theorem dX7_change_19 : decode cX7_change 19 = .ok (.invokevirtual 210, 3) := by decide +kernel
theorem dX7_change_22 : decode cX7_change 22 = .ok (.aload_n 0, 1) := by decide +kernel
theorem dX7_change_23 : decode cX7_change 23 = .ok (.getfield 16, 3) := by decide +kernel
theorem dX7_change_26 : decode cX7_change 26 = .ok (.iload_n 1, 1) := by decide +kernel
theorem dX7_change_27 : decode cX7_change 27 = .ok (.iload_n 2, 1) := by decide +kernel
theorem dX7_change_28 : decode cX7_change 28 = .ok (.iload_n 3, 1) := by decide +kernel
theorem dX7_change_29 : decode cX7_change 29 = .ok (.invokevirtual 169, 3) := by decide +kernel
theorem dX7_change_32 : decode cX7_change 32 = .ok (.pop, 1) := by decide +kernel
theorem dX7_change_33 : decode cX7_change 33 = .ok (.iload 4, 2) := by decide +kernel
theorem dX7_change_35 : decode cX7_change 35 = .ok (.ireturn, 1) := by decide +kernel
theorem dX7_aboutEachWait_0 : decode cX7_aboutEachWait 0 = .ok (.aload_n 0, 1) := by decide +kernel
theorem dX7_aboutEachWait_1 : decode cX7_aboutEachWait 1 = .ok (.getfield 55, 3) := by decide +kernel
theorem dX7_aboutEachWait_4 : decode cX7_aboutEachWait 4 = .ok (.aload_n 0, 1) := by decide +kernel
theorem dX7_aboutEachWait_5 : decode cX7_aboutEachWait 5 = .ok (.getfield 16, 3) := by decide +kernel
theorem dX7_aboutEachWait_8 : decode cX7_aboutEachWait 8 = .ok (.invokevirtual 135, 3) := by decide +kernel
theorem dX7_aboutEachWait_11 : decode cX7_aboutEachWait 11 = .ok (.iconst 0, 1) := by decide +kernel
theorem dX7_aboutEachWait_12 : decode cX7_aboutEachWait 12 = .ok (.istore_n 2, 1) := by decide +kernel
theorem dX7_aboutEachWait_13 : decode cX7_aboutEachWait 13 = .ok (.iconst 0, 1) := by decide +kernel
theorem dX7_aboutEachWait_14 : decode cX7_aboutEachWait 14 = .ok (.istore_n 3, 1) := by decide +kernel
theorem dX7_aboutEachWait_15 : decode cX7_aboutEachWait 15 = .ok (.iconst 0, 1) := by decide +kernel
theorem dX7_aboutEachWait_16 : decode cX7_aboutEachWait 16 = .ok (.istore 4, 2) := by decide +kernel
theorem dX7_aboutEachWait_18 : decode cX7_aboutEachWait 18 = .ok (.iconst 0, 1) := by decide +kernel
theorem dX7_aboutEachWait_19 : decode cX7_aboutEachWait 19 = .ok (.istore 5, 2) := by decide +kernel
theorem dX7_aboutEachWait_21 : decode cX7_aboutEachWait 21 = .ok (.iload 5, 2) := by decide +kernel
theorem dX7_aboutEachWait_23 : decode cX7_aboutEachWait 23 = .ok (.aload_n 0, 1) := by decide +kernel
theorem dX7_aboutEachWait_24 : decode cX7_aboutEachWait 24 = .ok (.getfield 16, 3) := by decide +kernel
theorem dX7_aboutEachWait_27 : decode cX7_aboutEachWait 27 = .ok (.getfield 92, 3) := by decide +kernel
theorem dX7_aboutEachWait_30 : decode cX7_aboutEachWait 30 = .ok (.if_icmp .ge 93, 3) := by decide +kernel
theorem dX7_aboutEachWait_33 : decode cX7_aboutEachWait 33 = .ok (.iconst 0, 1) := by decide +kernel
theorem dX7_aboutEachWait_34 : decode cX7_aboutEachWait 34 = .ok (.istore 6, 2) := by decide +kernel
theorem dX7_aboutEachWait_36 : decode cX7_aboutEachWait 36 = .ok (.iload 6, 2) := by decide +kernel
theorem dX7_aboutEachWait_38 : decode cX7_aboutEachWait 38 = .ok (.aload_n 0, 1) := by decide +kernel
theorem dX7_aboutEachWait_39 : decode cX7_aboutEachWait 39 = .ok (.getfield 16, 3) := by decide +kernel
theorem dX7_aboutEachWait_42 : decode cX7_aboutEachWait 42 = .ok (.getfield 92, 3) := by decide +kernel
theorem dX7_aboutEachWait_45 : decode cX7_aboutEachWait 45 = .ok (.if_icmp .ge 72, 3) := by decide +kernel
theorem dX7_aboutEachWait_48 : decode cX7_aboutEachWait 48 = .ok (.aload_n 0, 1) := by decide +kernel
theorem dX7_aboutEachWait_49 : decode cX7_aboutEachWait 49 = .ok (.getfield 16, 3) := by decide +kernel
theorem dX7_aboutEachWait_52 : decode cX7_aboutEachWait 52 = .ok (.iload 5, 2) := by decide +kernel
theorem dX7_aboutEachWait_54 : decode cX7_aboutEachWait 54 = .ok (.iload 6, 2) := by decide +kernel
theorem dX7_aboutEachWait_56 : decode cX7_aboutEachWait 56 = .ok (.invokevirtual 116, 3) := by decide +kernel
theorem dX7_aboutEachWait_59 : decode cX7_aboutEachWait 59 = .ok (.bipush (-9), 2) := by decide +kernel
theorem dX7_aboutEachWait_61 : decode cX7_aboutEachWait 61 = .ok (.if_icmp .eq 20, 3) := by decide +kernel
theorem dX7_aboutEachWait_64 : decode cX7_aboutEachWait 64 = .ok (.aload_n 0, 1) := by decide +kernel
theorem dX7_aboutEachWait_65 : decode cX7_aboutEachWait 65 = .ok (.getfield 55, 3) := by decide +kernel
theorem dX7_aboutEachWait_68 : decode cX7_aboutEachWait 68 = .ok (.iload 5, 2) := by decide +kernel
theorem dX7_aboutEachWait_70 : decode cX7_aboutEachWait 70 = .ok (.iload 6, 2) := by decide +kernel
theorem dX7_aboutEachWait_72 : decode cX7_aboutEachWait 72 = .ok (.invokevirtual 213, 3) := by decide +kernel
theorem dX7_aboutEachWait_75 : decode cX7_aboutEachWait 75 = .ok (.ifCond .ne 6, 3) := by decide +kernel
theorem dX7_aboutEachWait_78 : decode cX7_aboutEachWait 78 = .ok (.iinc 2 1, 3) := by decide +kernel
theorem dX7_aboutEachWait_81 : decode cX7_aboutEachWait 81 = .ok (.aload_n 0, 1) := by decide +kernel
theorem dX7_aboutEachWait_82 : decode cX7_aboutEachWait 82 = .ok (.getfield 55, 3) := by decide +kernel
theorem dX7_aboutEachWait_85 : decode cX7_aboutEachWait 85 = .ok (.aload_n 0, 1) := by decide +kernel
theorem dX7_aboutEachWait_86 : decode cX7_aboutEachWait 86 = .ok (.getfield 16, 3) := by decide +kernel
theorem dX7_aboutEachWait_89 : decode cX7_aboutEachWait 89 = .ok (.iload 5, 2) := by decide +kernel
theorem dX7_aboutEachWait_91 : decode cX7_aboutEachWait 91 = .ok (.iload 6, 2) := by decide +kernel
theorem dX7_aboutEachWait_93 : decode cX7_aboutEachWait 93 = .ok (.invokevirtual 138, 3) := by decide +kernel
theorem dX7_aboutEachWait_96 : decode cX7_aboutEachWait 96 = .ok (.ifCond .eq 15, 3) := by decide +kernel
theorem dX7_aboutEachWait_99 : decode cX7_aboutEachWait 99 = .ok (.iinc 3 1, 3) := by decide +kernel
theorem dX7_aboutEachWait_102 : decode cX7_aboutEachWait 102 = .ok (.iload 4, 2) := by decide +kernel
theorem dX7_aboutEachWait_104 : decode cX7_aboutEachWait 104 = .ok (.iconst 1, 1) := by decide +kernel
theorem dX7_aboutEachWait_105 : decode cX7_aboutEachWait 105 = .ok (.iload 5, 2) := by decide +kernel
theorem dX7_aboutEachWait_107 : decode cX7_aboutEachWait 107 = .ok (.ishl, 1) := by decide +kernel
theorem dX7_aboutEachWait_108 : decode cX7_aboutEachWait 108 = .ok (.ior, 1) := by decide +kernel
theorem dX7_aboutEachWait_109 : decode cX7_aboutEachWait 109 = .ok (.istore 4, 2) := by decide +kernel
theorem dX7_aboutEachWait_111 : decode cX7_aboutEachWait 111 = .ok (.iinc 6 1, 3) := by decide +kernel
theorem dX7_aboutEachWait_114 : decode cX7_aboutEachWait 114 = .ok (.goto (-78), 3) := by decide +kernel
theorem dX7_aboutEachWait_117 : decode cX7_aboutEachWait 117 = .ok (.iinc 5 1, 3) := by decide +kernel
theorem dX7_aboutEachWait_120 : decode cX7_aboutEachWait 120 = .ok (.goto (-99), 3) := by decide +kernel
theorem dX7_aboutEachWait_123 : decode cX7_aboutEachWait 123 = .ok (.iload_n 1, 1) := by decide +kernel
theorem dX7_aboutEachWait_124 : decode cX7_aboutEachWait 124 = .ok (.iconst 3, 1) := by decide +kernel
theorem dX7_aboutEachWait_125 : decode cX7_aboutEachWait 125 = .ok (.if_icmp .ne 7, 3) := by decide +kernel
theorem dX7_aboutEachWait_128 : decode cX7_aboutEachWait 128 = .ok (.iload_n 2, 1) := by decide +kernel
theorem dX7_aboutEachWait_129 : decode cX7_aboutEachWait 129 = .ok (.goto 14, 3) := by decide +kernel
theorem dX7_aboutEachWait_132 : decode cX7_aboutEachWait 132 = .ok (.iload_n 1, 1) := by decide +kernel
theorem dX7_aboutEachWait_133 : decode cX7_aboutEachWait 133 = .ok (.iconst 4, 1) := by decide +kernel
theorem dX7_aboutEachWait_134 : decode cX7_aboutEachWait 134 = .ok (.if_icmp .ne 7, 3) := by decide +kernel
theorem dX7_aboutEachWait_137 : decode cX7_aboutEachWait 137 = .ok (.iload_n 3, 1) := by decide +kernel
theorem dX7_aboutEachWait_138 : decode cX7_aboutEachWait 138 = .ok (.goto 5, 3) := by decide +kernel
theorem dX7_aboutEachWait_141 : decode cX7_aboutEachWait 141 = .ok (.iload 4, 2) := by decide +kernel
theorem dX7_aboutEachWait_143 : decode cX7_aboutEachWait 143 = .ok (.ireturn, 1) := by decide +kernel
theorem dX7_leastPeriod_0 : decode cX7_leastPeriod 0 = .ok (.iconst 0, 1) := by decide +kernel
theorem dX7_leastPeriod_1 : decode cX7_leastPeriod 1 = .ok (.aload_n 0, 1) := by decide +kernel
theorem dX7_leastPeriod_2 : decode cX7_leastPeriod 2 = .ok (.getfield 55, 3) := by decide +kernel
theorem dX7_leastPeriod_5 : decode cX7_leastPeriod 5 = .ok (.aload_n 0, 1) := by decide +kernel
theorem dX7_leastPeriod_6 : decode cX7_leastPeriod 6 = .ok (.getfield 16, 3) := by decide +kernel
theorem dX7_leastPeriod_9 : decode cX7_leastPeriod 9 = .ok (.invokevirtual 127, 3) := by decide +kernel
theorem dX7_leastPeriod_12 : decode cX7_leastPeriod 12 = .ok (.invokestatic 205, 3) := by decide +kernel
theorem dX7_leastPeriod_15 : decode cX7_leastPeriod 15 = .ok (.istore_n 1, 1) := by decide +kernel
theorem dX7_leastPeriod_16 : decode cX7_leastPeriod 16 = .ok (.iload_n 1, 1) := by decide +kernel
theorem dX7_leastPeriod_17 : decode cX7_leastPeriod 17 = .ok (.bipush 60, 2) := by decide +kernel
theorem dX7_leastPeriod_19 : decode cX7_leastPeriod 19 = .ok (.iadd, 1) := by decide +kernel
theorem dX7_leastPeriod_20 : decode cX7_leastPeriod 20 = .ok (.iconst 1, 1) := by decide +kernel
theorem dX7_leastPeriod_21 : decode cX7_leastPeriod 21 = .ok (.isub, 1) := by decide +kernel
theorem dX7_leastPeriod_22 : decode cX7_leastPeriod 22 = .ok (.bipush 60, 2) := by decide +kernel
theorem dX7_leastPeriod_24 : decode cX7_leastPeriod 24 = .ok (.idiv, 1) := by decide +kernel
theorem dX7_leastPeriod_25 : decode cX7_leastPeriod 25 = .ok (.ireturn, 1) := by decide +kernel
theorem dX7_lastsUntil_0 : decode cX7_lastsUntil 0 = .ok (.aload_n 0, 1) := by decide +kernel
theorem dX7_lastsUntil_1 : decode cX7_lastsUntil 1 = .ok (.getfield 62, 3) := by decide +kernel
theorem dX7_lastsUntil_4 : decode cX7_lastsUntil 4 = .ok (.aload_n 1, 1) := by decide +kernel
theorem dX7_lastsUntil_5 : decode cX7_lastsUntil 5 = .ok (.iload 4, 2) := by decide +kernel
theorem dX7_lastsUntil_7 : decode cX7_lastsUntil 7 = .ok (.invokevirtual 146, 3) := by decide +kernel
theorem dX7_lastsUntil_10 : decode cX7_lastsUntil 10 = .ok (.aload_n 0, 1) := by decide +kernel
theorem dX7_lastsUntil_11 : decode cX7_lastsUntil 11 = .ok (.getfield 62, 3) := by decide +kernel
theorem dX7_lastsUntil_14 : decode cX7_lastsUntil 14 = .ok (.aload_n 1, 1) := by decide +kernel
theorem dX7_lastsUntil_15 : decode cX7_lastsUntil 15 = .ok (.iload_n 2, 1) := by decide +kernel
theorem dX7_lastsUntil_16 : decode cX7_lastsUntil 16 = .ok (.bipush 40, 2) := by decide +kernel
theorem dX7_lastsUntil_18 : decode cX7_lastsUntil 18 = .ok (.invokevirtual 157, 3) := by decide +kernel
theorem dX7_lastsUntil_21 : decode cX7_lastsUntil 21 = .ok (.aload_n 0, 1) := by decide +kernel
theorem dX7_lastsUntil_22 : decode cX7_lastsUntil 22 = .ok (.getfield 62, 3) := by decide +kernel
theorem dX7_lastsUntil_25 : decode cX7_lastsUntil 25 = .ok (.iload_n 3, 1) := by decide +kernel
theorem dX7_lastsUntil_26 : decode cX7_lastsUntil 26 = .ok (.aload_n 1, 1) := by decide +kernel
theorem dX7_lastsUntil_27 : decode cX7_lastsUntil 27 = .ok (.getfield 92, 3) := by decide +kernel
theorem dX7_lastsUntil_30 : decode cX7_lastsUntil 30 = .ok (.invokevirtual 217, 3) := by decide +kernel
theorem dX7_lastsUntil_33 : decode cX7_lastsUntil 33 = .ok (.ireturn, 1) := by decide +kernel
theorem dX7_figuresOf_0 : decode cX7_figuresOf 0 = .ok (.lload_n 0, 1) := by decide +kernel
theorem dX7_figuresOf_1 : decode cX7_figuresOf 1 = .ok (.lstore_n 3, 1) := by decide +kernel
theorem dX7_figuresOf_2 : decode cX7_figuresOf 2 = .ok (.iconst 0, 1) := by decide +kernel
theorem dX7_figuresOf_3 : decode cX7_figuresOf 3 = .ok (.istore 5, 2) := by decide +kernel
theorem dX7_figuresOf_5 : decode cX7_figuresOf 5 = .ok (.iload 5, 2) := by decide +kernel
theorem dX7_figuresOf_7 : decode cX7_figuresOf 7 = .ok (.iload_n 2, 1) := by decide +kernel
theorem dX7_figuresOf_8 : decode cX7_figuresOf 8 = .ok (.if_icmp .ge 15, 3) := by decide +kernel
theorem dX7_figuresOf_11 : decode cX7_figuresOf 11 = .ok (.lload_n 3, 1) := by decide +kernel
theorem dX7_figuresOf_12 : decode cX7_figuresOf 12 = .ok (.ldc2_w 220, 3) := by decide +kernel
theorem dX7_figuresOf_15 : decode cX7_figuresOf 15 = .ok (.ldiv, 1) := by decide +kernel
theorem dX7_figuresOf_16 : decode cX7_figuresOf 16 = .ok (.lstore_n 3, 1) := by decide +kernel
theorem dX7_figuresOf_17 : decode cX7_figuresOf 17 = .ok (.iinc 5 1, 3) := by decide +kernel
theorem dX7_figuresOf_20 : decode cX7_figuresOf 20 = .ok (.goto (-15), 3) := by decide +kernel
theorem dX7_figuresOf_23 : decode cX7_figuresOf 23 = .ok (.lload_n 3, 1) := by decide +kernel
theorem dX7_figuresOf_24 : decode cX7_figuresOf 24 = .ok (.ldc2_w 220, 3) := by decide +kernel
theorem dX7_figuresOf_27 : decode cX7_figuresOf 27 = .ok (.lrem, 1) := by decide +kernel
theorem dX7_figuresOf_28 : decode cX7_figuresOf 28 = .ok (.l2i, 1) := by decide +kernel
theorem dX7_figuresOf_29 : decode cX7_figuresOf 29 = .ok (.ireturn, 1) := by decide +kernel
theorem dX7_holds_0 : decode cX7_holds 0 = .ok (.iload_n 1, 1) := by decide +kernel
theorem dX7_holds_1 : decode cX7_holds 1 = .ok (.bipush 100, 2) := by decide +kernel
theorem dX7_holds_3 : decode cX7_holds 3 = .ok (.idiv, 1) := by decide +kernel
theorem dX7_holds_4 : decode cX7_holds 4 = .ok (.bipush 10, 2) := by decide +kernel
theorem dX7_holds_6 : decode cX7_holds 6 = .ok (.irem, 1) := by decide +kernel
theorem dX7_holds_7 : decode cX7_holds 7 = .ok (.istore_n 2, 1) := by decide +kernel
theorem dX7_holds_8 : decode cX7_holds 8 = .ok (.iload_n 1, 1) := by decide +kernel
theorem dX7_holds_9 : decode cX7_holds 9 = .ok (.bipush 10, 2) := by decide +kernel
theorem dX7_holds_11 : decode cX7_holds 11 = .ok (.idiv, 1) := by decide +kernel
theorem dX7_holds_12 : decode cX7_holds 12 = .ok (.bipush 10, 2) := by decide +kernel
theorem dX7_holds_14 : decode cX7_holds 14 = .ok (.irem, 1) := by decide +kernel
theorem dX7_holds_15 : decode cX7_holds 15 = .ok (.istore_n 3, 1) := by decide +kernel
theorem dX7_holds_16 : decode cX7_holds 16 = .ok (.iload_n 1, 1) := by decide +kernel
theorem dX7_holds_17 : decode cX7_holds 17 = .ok (.bipush 10, 2) := by decide +kernel
theorem dX7_holds_19 : decode cX7_holds 19 = .ok (.irem, 1) := by decide +kernel
theorem dX7_holds_20 : decode cX7_holds 20 = .ok (.istore 4, 2) := by decide +kernel
theorem dX7_holds_22 : decode cX7_holds 22 = .ok (.bipush 10, 2) := by decide +kernel
theorem dX7_holds_24 : decode cX7_holds 24 = .ok (.iload_n 3, 1) := by decide +kernel
theorem dX7_holds_25 : decode cX7_holds 25 = .ok (.imul, 1) := by decide +kernel
theorem dX7_holds_26 : decode cX7_holds 26 = .ok (.iload 4, 2) := by decide +kernel
theorem dX7_holds_28 : decode cX7_holds 28 = .ok (.iadd, 1) := by decide +kernel
theorem dX7_holds_29 : decode cX7_holds 29 = .ok (.istore 5, 2) := by decide +kernel
theorem dX7_holds_31 : decode cX7_holds 31 = .ok (.aload_n 0, 1) := by decide +kernel
theorem dX7_holds_32 : decode cX7_holds 32 = .ok (.getfield 20, 3) := by decide +kernel
theorem dX7_holds_35 : decode cX7_holds 35 = .ok (.iload_n 2, 1) := by decide +kernel
theorem dX7_holds_36 : decode cX7_holds 36 = .ok (.iload_n 3, 1) := by decide +kernel
theorem dX7_holds_37 : decode cX7_holds 37 = .ok (.invokevirtual 116, 3) := by decide +kernel
theorem dX7_holds_40 : decode cX7_holds 40 = .ok (.bipush (-9), 2) := by decide +kernel
theorem dX7_holds_42 : decode cX7_holds 42 = .ok (.if_icmp .eq 7, 3) := by decide +kernel
theorem dX7_holds_45 : decode cX7_holds 45 = .ok (.iconst 1, 1) := by decide +kernel
theorem dX7_holds_46 : decode cX7_holds 46 = .ok (.goto 4, 3) := by decide +kernel
theorem dX7_holds_49 : decode cX7_holds 49 = .ok (.iconst 0, 1) := by decide +kernel
theorem dX7_holds_50 : decode cX7_holds 50 = .ok (.istore 6, 2) := by decide +kernel
theorem dX7_holds_52 : decode cX7_holds 52 = .ok (.iload_n 1, 1) := by decide +kernel
theorem dX7_holds_53 : decode cX7_holds 53 = .ok (.sipush 1000, 3) := by decide +kernel
theorem dX7_holds_56 : decode cX7_holds 56 = .ok (.idiv, 1) := by decide +kernel
theorem dX7_holds_57 : decode cX7_holds 57 = .ok (.tableswitch 270 1 7 #[43, 90, 120, 145, 178, 216, 243], 43) := by decide +kernel
theorem dX7_holds_100 : decode cX7_holds 100 = .ok (.aload_n 0, 1) := by decide +kernel
theorem dX7_holds_101 : decode cX7_holds 101 = .ok (.getfield 20, 3) := by decide +kernel
theorem dX7_holds_104 : decode cX7_holds 104 = .ok (.iload_n 2, 1) := by decide +kernel
theorem dX7_holds_105 : decode cX7_holds 105 = .ok (.invokevirtual 112, 3) := by decide +kernel
theorem dX7_holds_108 : decode cX7_holds 108 = .ok (.ifCond .eq 37, 3) := by decide +kernel
theorem dX7_holds_111 : decode cX7_holds 111 = .ok (.aload_n 0, 1) := by decide +kernel
theorem dX7_holds_112 : decode cX7_holds 112 = .ok (.getfield 20, 3) := by decide +kernel
theorem dX7_holds_115 : decode cX7_holds 115 = .ok (.iload_n 3, 1) := by decide +kernel
theorem dX7_holds_116 : decode cX7_holds 116 = .ok (.invokevirtual 112, 3) := by decide +kernel
theorem dX7_holds_119 : decode cX7_holds 119 = .ok (.ifCond .eq 26, 3) := by decide +kernel
theorem dX7_holds_122 : decode cX7_holds 122 = .ok (.iload 6, 2) := by decide +kernel
theorem dX7_holds_124 : decode cX7_holds 124 = .ok (.ifCond .ne 21, 3) := by decide +kernel
theorem dX7_holds_127 : decode cX7_holds 127 = .ok (.aload_n 0, 1) := by decide +kernel
theorem dX7_holds_128 : decode cX7_holds 128 = .ok (.getfield 20, 3) := by decide +kernel
theorem dX7_holds_131 : decode cX7_holds 131 = .ok (.iload_n 2, 1) := by decide +kernel
theorem dX7_holds_132 : decode cX7_holds 132 = .ok (.iload_n 3, 1) := by decide +kernel
theorem dX7_holds_133 : decode cX7_holds 133 = .ok (.iload 4, 2) := by decide +kernel
theorem dX7_holds_135 : decode cX7_holds 135 = .ok (.invokevirtual 169, 3) := by decide +kernel
theorem dX7_holds_138 : decode cX7_holds 138 = .ok (.ifCond .eq 7, 3) := by decide +kernel
theorem dX7_holds_141 : decode cX7_holds 141 = .ok (.iconst 1, 1) := by decide +kernel
theorem dX7_holds_142 : decode cX7_holds 142 = .ok (.goto 4, 3) := by decide +kernel
theorem dX7_holds_145 : decode cX7_holds 145 = .ok (.iconst 0, 1) := by decide +kernel
theorem dX7_holds_146 : decode cX7_holds 146 = .ok (.ireturn, 1) := by decide +kernel
theorem dX7_holds_147 : decode cX7_holds 147 = .ok (.iload 6, 2) := by decide +kernel
theorem dX7_holds_149 : decode cX7_holds 149 = .ok (.ifCond .eq 26, 3) := by decide +kernel
theorem dX7_holds_152 : decode cX7_holds 152 = .ok (.iload 4, 2) := by decide +kernel
theorem dX7_holds_154 : decode cX7_holds 154 = .ok (.ifCond .ne 21, 3) := by decide +kernel
theorem dX7_holds_157 : decode cX7_holds 157 = .ok (.aload_n 0, 1) := by decide +kernel
theorem dX7_holds_158 : decode cX7_holds 158 = .ok (.getfield 20, 3) := by decide +kernel
theorem dX7_holds_161 : decode cX7_holds 161 = .ok (.iload_n 2, 1) := by decide +kernel
theorem dX7_holds_162 : decode cX7_holds 162 = .ok (.iload_n 3, 1) := by decide +kernel
theorem dX7_holds_163 : decode cX7_holds 163 = .ok (.bipush (-9), 2) := by decide +kernel
theorem dX7_holds_165 : decode cX7_holds 165 = .ok (.invokevirtual 169, 3) := by decide +kernel
theorem dX7_holds_168 : decode cX7_holds 168 = .ok (.ifCond .eq 7, 3) := by decide +kernel
theorem dX7_holds_171 : decode cX7_holds 171 = .ok (.iconst 1, 1) := by decide +kernel
theorem dX7_holds_172 : decode cX7_holds 172 = .ok (.goto 4, 3) := by decide +kernel
theorem dX7_holds_175 : decode cX7_holds 175 = .ok (.iconst 0, 1) := by decide +kernel
theorem dX7_holds_176 : decode cX7_holds 176 = .ok (.ireturn, 1) := by decide +kernel
theorem dX7_holds_177 : decode cX7_holds 177 = .ok (.iload 6, 2) := by decide +kernel
theorem dX7_holds_179 : decode cX7_holds 179 = .ok (.ifCond .eq 21, 3) := by decide +kernel
theorem dX7_holds_182 : decode cX7_holds 182 = .ok (.aload_n 0, 1) := by decide +kernel
theorem dX7_holds_183 : decode cX7_holds 183 = .ok (.getfield 20, 3) := by decide +kernel
theorem dX7_holds_186 : decode cX7_holds 186 = .ok (.iload_n 2, 1) := by decide +kernel
theorem dX7_holds_187 : decode cX7_holds 187 = .ok (.iload_n 3, 1) := by decide +kernel
theorem dX7_holds_188 : decode cX7_holds 188 = .ok (.iload 4, 2) := by decide +kernel
theorem dX7_holds_190 : decode cX7_holds 190 = .ok (.invokevirtual 169, 3) := by decide +kernel
theorem dX7_holds_193 : decode cX7_holds 193 = .ok (.ifCond .eq 7, 3) := by decide +kernel
theorem dX7_holds_196 : decode cX7_holds 196 = .ok (.iconst 1, 1) := by decide +kernel
theorem dX7_holds_197 : decode cX7_holds 197 = .ok (.goto 4, 3) := by decide +kernel
theorem dX7_holds_200 : decode cX7_holds 200 = .ok (.iconst 0, 1) := by decide +kernel
theorem dX7_holds_201 : decode cX7_holds 201 = .ok (.ireturn, 1) := by decide +kernel
theorem dX7_holds_202 : decode cX7_holds 202 = .ok (.iload_n 2, 1) := by decide +kernel
theorem dX7_holds_203 : decode cX7_holds 203 = .ok (.ifCond .ne 30, 3) := by decide +kernel
theorem dX7_holds_206 : decode cX7_holds 206 = .ok (.iload 5, 2) := by decide +kernel
theorem dX7_holds_208 : decode cX7_holds 208 = .ok (.bipush 20, 2) := by decide +kernel
theorem dX7_holds_210 : decode cX7_holds 210 = .ok (.if_icmp .gt 23, 3) := by decide +kernel
theorem dX7_holds_213 : decode cX7_holds 213 = .ok (.aload_n 0, 1) := by decide +kernel
theorem dX7_holds_214 : decode cX7_holds 214 = .ok (.getfield 55, 3) := by decide +kernel
theorem dX7_holds_217 : decode cX7_holds 217 = .ok (.aload_n 0, 1) := by decide +kernel
theorem dX7_holds_218 : decode cX7_holds 218 = .ok (.getfield 20, 3) := by decide +kernel
theorem dX7_holds_221 : decode cX7_holds 221 = .ok (.iload 5, 2) := by decide +kernel
theorem dX7_holds_223 : decode cX7_holds 223 = .ok (.invokevirtual 142, 3) := by decide +kernel
theorem dX7_holds_226 : decode cX7_holds 226 = .ok (.ifCond .eq 7, 3) := by decide +kernel
theorem dX7_holds_229 : decode cX7_holds 229 = .ok (.iconst 1, 1) := by decide +kernel
theorem dX7_holds_230 : decode cX7_holds 230 = .ok (.goto 4, 3) := by decide +kernel
theorem dX7_holds_233 : decode cX7_holds 233 = .ok (.iconst 0, 1) := by decide +kernel
theorem dX7_holds_234 : decode cX7_holds 234 = .ok (.ireturn, 1) := by decide +kernel
theorem dX7_holds_235 : decode cX7_holds 235 = .ok (.aload_n 0, 1) := by decide +kernel
theorem dX7_holds_236 : decode cX7_holds 236 = .ok (.getfield 55, 3) := by decide +kernel
theorem dX7_holds_239 : decode cX7_holds 239 = .ok (.aload_n 0, 1) := by decide +kernel
theorem dX7_holds_240 : decode cX7_holds 240 = .ok (.getfield 20, 3) := by decide +kernel
theorem dX7_holds_243 : decode cX7_holds 243 = .ok (.invokevirtual 135, 3) := by decide +kernel
theorem dX7_holds_246 : decode cX7_holds 246 = .ok (.iload 4, 2) := by decide +kernel
theorem dX7_holds_248 : decode cX7_holds 248 = .ok (.ifCond .ne 23, 3) := by decide +kernel
theorem dX7_holds_251 : decode cX7_holds 251 = .ok (.aload_n 0, 1) := by decide +kernel
theorem dX7_holds_252 : decode cX7_holds 252 = .ok (.getfield 55, 3) := by decide +kernel
theorem dX7_holds_255 : decode cX7_holds 255 = .ok (.aload_n 0, 1) := by decide +kernel
theorem dX7_holds_256 : decode cX7_holds 256 = .ok (.getfield 20, 3) := by decide +kernel
theorem dX7_holds_259 : decode cX7_holds 259 = .ok (.iload_n 2, 1) := by decide +kernel
theorem dX7_holds_260 : decode cX7_holds 260 = .ok (.iload_n 3, 1) := by decide +kernel
theorem dX7_holds_261 : decode cX7_holds 261 = .ok (.invokevirtual 138, 3) := by decide +kernel
theorem dX7_holds_264 : decode cX7_holds 264 = .ok (.ifCond .eq 7, 3) := by decide +kernel
theorem dX7_holds_267 : decode cX7_holds 267 = .ok (.iconst 1, 1) := by decide +kernel
theorem dX7_holds_268 : decode cX7_holds 268 = .ok (.goto 4, 3) := by decide +kernel
theorem dX7_holds_271 : decode cX7_holds 271 = .ok (.iconst 0, 1) := by decide +kernel
theorem dX7_holds_272 : decode cX7_holds 272 = .ok (.ireturn, 1) := by decide +kernel
theorem dX7_holds_273 : decode cX7_holds 273 = .ok (.aload_n 0, 1) := by decide +kernel
theorem dX7_holds_274 : decode cX7_holds 274 = .ok (.getfield 20, 3) := by decide +kernel
theorem dX7_holds_277 : decode cX7_holds 277 = .ok (.iload_n 2, 1) := by decide +kernel
theorem dX7_holds_278 : decode cX7_holds 278 = .ok (.invokevirtual 112, 3) := by decide +kernel
theorem dX7_holds_281 : decode cX7_holds 281 = .ok (.ifCond .eq 17, 3) := by decide +kernel
theorem dX7_holds_284 : decode cX7_holds 284 = .ok (.aload_n 0, 1) := by decide +kernel
theorem dX7_holds_285 : decode cX7_holds 285 = .ok (.iload_n 2, 1) := by decide +kernel
theorem dX7_holds_286 : decode cX7_holds 286 = .ok (.iload 5, 2) := by decide +kernel
theorem dX7_holds_288 : decode cX7_holds 288 = .ok (.invokevirtual 222, 3) := by decide +kernel
theorem dX7_holds_291 : decode cX7_holds 291 = .ok (.ifCond .eq 7, 3) := by decide +kernel
theorem dX7_holds_294 : decode cX7_holds 294 = .ok (.iconst 1, 1) := by decide +kernel
theorem dX7_holds_295 : decode cX7_holds 295 = .ok (.goto 4, 3) := by decide +kernel
theorem dX7_holds_298 : decode cX7_holds 298 = .ok (.iconst 0, 1) := by decide +kernel
theorem dX7_holds_299 : decode cX7_holds 299 = .ok (.ireturn, 1) := by decide +kernel
theorem dX7_holds_300 : decode cX7_holds 300 = .ok (.aload_n 0, 1) := by decide +kernel
theorem dX7_holds_301 : decode cX7_holds 301 = .ok (.getfield 20, 3) := by decide +kernel
theorem dX7_holds_304 : decode cX7_holds 304 = .ok (.iload_n 2, 1) := by decide +kernel
theorem dX7_holds_305 : decode cX7_holds 305 = .ok (.invokevirtual 112, 3) := by decide +kernel
theorem dX7_holds_308 : decode cX7_holds 308 = .ok (.ifCond .eq 17, 3) := by decide +kernel
theorem dX7_holds_311 : decode cX7_holds 311 = .ok (.aload_n 0, 1) := by decide +kernel
theorem dX7_holds_312 : decode cX7_holds 312 = .ok (.iload_n 2, 1) := by decide +kernel
theorem dX7_holds_313 : decode cX7_holds 313 = .ok (.iload 5, 2) := by decide +kernel
theorem dX7_holds_315 : decode cX7_holds 315 = .ok (.invokevirtual 225, 3) := by decide +kernel
theorem dX7_holds_318 : decode cX7_holds 318 = .ok (.ifCond .eq 7, 3) := by decide +kernel
theorem dX7_holds_321 : decode cX7_holds 321 = .ok (.iconst 1, 1) := by decide +kernel
theorem dX7_holds_322 : decode cX7_holds 322 = .ok (.goto 4, 3) := by decide +kernel
theorem dX7_holds_325 : decode cX7_holds 325 = .ok (.iconst 0, 1) := by decide +kernel
theorem dX7_holds_326 : decode cX7_holds 326 = .ok (.ireturn, 1) := by decide +kernel
theorem dX7_holds_327 : decode cX7_holds 327 = .ok (.iconst 0, 1) := by decide +kernel
theorem dX7_holds_328 : decode cX7_holds 328 = .ok (.ireturn, 1) := by decide +kernel
theorem dX7_departsAt_0 : decode cX7_departsAt 0 = .ok (.aload_n 0, 1) := by decide +kernel
theorem dX7_departsAt_1 : decode cX7_departsAt 1 = .ok (.getfield 55, 3) := by decide +kernel
theorem dX7_departsAt_4 : decode cX7_departsAt 4 = .ok (.aload_n 0, 1) := by decide +kernel
theorem dX7_departsAt_5 : decode cX7_departsAt 5 = .ok (.getfield 20, 3) := by decide +kernel
theorem dX7_departsAt_8 : decode cX7_departsAt 8 = .ok (.bipush 10, 2) := by decide +kernel
theorem dX7_departsAt_10 : decode cX7_departsAt 10 = .ok (.invokevirtual 142, 3) := by decide +kernel
theorem dX7_departsAt_13 : decode cX7_departsAt 13 = .ok (.ifCond .ne 5, 3) := by decide +kernel
theorem dX7_departsAt_16 : decode cX7_departsAt 16 = .ok (.iconst 0, 1) := by decide +kernel
theorem dX7_departsAt_17 : decode cX7_departsAt 17 = .ok (.ireturn, 1) := by decide +kernel
theorem dX7_departsAt_18 : decode cX7_departsAt 18 = .ok (.aload_n 0, 1) := by decide +kernel
theorem dX7_departsAt_19 : decode cX7_departsAt 19 = .ok (.getfield 62, 3) := by decide +kernel
theorem dX7_departsAt_22 : decode cX7_departsAt 22 = .ok (.aload_n 0, 1) := by decide +kernel
theorem dX7_departsAt_23 : decode cX7_departsAt 23 = .ok (.getfield 20, 3) := by decide +kernel
theorem dX7_departsAt_26 : decode cX7_departsAt 26 = .ok (.bipush 10, 2) := by decide +kernel
theorem dX7_departsAt_28 : decode cX7_departsAt 28 = .ok (.invokevirtual 146, 3) := by decide +kernel
theorem dX7_departsAt_31 : decode cX7_departsAt 31 = .ok (.aload_n 0, 1) := by decide +kernel
theorem dX7_departsAt_32 : decode cX7_departsAt 32 = .ok (.getfield 62, 3) := by decide +kernel
theorem dX7_departsAt_35 : decode cX7_departsAt 35 = .ok (.iload_n 1, 1) := by decide +kernel
theorem dX7_departsAt_36 : decode cX7_departsAt 36 = .ok (.invokevirtual 150, 3) := by decide +kernel
theorem dX7_departsAt_39 : decode cX7_departsAt 39 = .ok (.iload_n 2, 1) := by decide +kernel
theorem dX7_departsAt_40 : decode cX7_departsAt 40 = .ok (.if_icmp .ne 7, 3) := by decide +kernel
theorem dX7_departsAt_43 : decode cX7_departsAt 43 = .ok (.iconst 1, 1) := by decide +kernel
theorem dX7_departsAt_44 : decode cX7_departsAt 44 = .ok (.goto 4, 3) := by decide +kernel
theorem dX7_departsAt_47 : decode cX7_departsAt 47 = .ok (.iconst 0, 1) := by decide +kernel
theorem dX7_departsAt_48 : decode cX7_departsAt 48 = .ok (.ireturn, 1) := by decide +kernel
theorem dX7_isOver_0 : decode cX7_isOver 0 = .ok (.iload_n 2, 1) := by decide +kernel
theorem dX7_isOver_1 : decode cX7_isOver 1 = .ok (.iconst 1, 1) := by decide +kernel
theorem dX7_isOver_2 : decode cX7_isOver 2 = .ok (.if_icmp .lt 25, 3) := by decide +kernel
theorem dX7_isOver_5 : decode cX7_isOver 5 = .ok (.iload_n 2, 1) := by decide +kernel
theorem dX7_isOver_6 : decode cX7_isOver 6 = .ok (.bipush 30, 2) := by decide +kernel
theorem dX7_isOver_8 : decode cX7_isOver 8 = .ok (.if_icmp .gt 19, 3) := by decide +kernel
theorem dX7_isOver_11 : decode cX7_isOver 11 = .ok (.aload_n 0, 1) := by decide +kernel
theorem dX7_isOver_12 : decode cX7_isOver 12 = .ok (.getfield 55, 3) := by decide +kernel
theorem dX7_isOver_15 : decode cX7_isOver 15 = .ok (.aload_n 0, 1) := by decide +kernel
theorem dX7_isOver_16 : decode cX7_isOver 16 = .ok (.getfield 20, 3) := by decide +kernel
theorem dX7_isOver_19 : decode cX7_isOver 19 = .ok (.bipush 10, 2) := by decide +kernel
theorem dX7_isOver_21 : decode cX7_isOver 21 = .ok (.invokevirtual 142, 3) := by decide +kernel
theorem dX7_isOver_24 : decode cX7_isOver 24 = .ok (.ifCond .ne 5, 3) := by decide +kernel
theorem dX7_isOver_27 : decode cX7_isOver 27 = .ok (.iconst 0, 1) := by decide +kernel
theorem dX7_isOver_28 : decode cX7_isOver 28 = .ok (.ireturn, 1) := by decide +kernel
theorem dX7_isOver_29 : decode cX7_isOver 29 = .ok (.aload_n 0, 1) := by decide +kernel
theorem dX7_isOver_30 : decode cX7_isOver 30 = .ok (.aload_n 0, 1) := by decide +kernel
theorem dX7_isOver_31 : decode cX7_isOver 31 = .ok (.getfield 20, 3) := by decide +kernel
theorem dX7_isOver_34 : decode cX7_isOver 34 = .ok (.iload_n 1, 1) := by decide +kernel
theorem dX7_isOver_35 : decode cX7_isOver 35 = .ok (.iload_n 2, 1) := by decide +kernel
theorem dX7_isOver_36 : decode cX7_isOver 36 = .ok (.bipush 10, 2) := by decide +kernel
theorem dX7_isOver_38 : decode cX7_isOver 38 = .ok (.invokevirtual 164, 3) := by decide +kernel
theorem dX7_isOver_41 : decode cX7_isOver 41 = .ok (.bipush (-9), 2) := by decide +kernel
theorem dX7_isOver_43 : decode cX7_isOver 43 = .ok (.if_icmp .eq 7, 3) := by decide +kernel
theorem dX7_isOver_46 : decode cX7_isOver 46 = .ok (.iconst 1, 1) := by decide +kernel
theorem dX7_isOver_47 : decode cX7_isOver 47 = .ok (.goto 4, 3) := by decide +kernel
theorem dX7_isOver_50 : decode cX7_isOver 50 = .ok (.iconst 0, 1) := by decide +kernel
theorem dX7_isOver_51 : decode cX7_isOver 51 = .ok (.ireturn, 1) := by decide +kernel
theorem dX7_told_0 : decode cX7_told 0 = .ok (.iload_n 0, 1) := by decide +kernel
theorem dX7_told_1 : decode cX7_told 1 = .ok (.iload_n 1, 1) := by decide +kernel
theorem dX7_told_2 : decode cX7_told 2 = .ok (.invokestatic 228, 3) := by decide +kernel
theorem dX7_told_5 : decode cX7_told 5 = .ok (.istore_n 3, 1) := by decide +kernel
theorem dX7_told_6 : decode cX7_told 6 = .ok (.iload_n 2, 1) := by decide +kernel
theorem dX7_told_7 : decode cX7_told 7 = .ok (.ifCond .eq 7, 3) := by decide +kernel
theorem dX7_told_10 : decode cX7_told 10 = .ok (.iload_n 0, 1) := by decide +kernel
theorem dX7_told_11 : decode cX7_told 11 = .ok (.goto 4, 3) := by decide +kernel
theorem dX7_told_14 : decode cX7_told 14 = .ok (.iload_n 1, 1) := by decide +kernel
theorem dX7_told_15 : decode cX7_told 15 = .ok (.iload_n 3, 1) := by decide +kernel
theorem dX7_told_16 : decode cX7_told 16 = .ok (.idiv, 1) := by decide +kernel
theorem dX7_told_17 : decode cX7_told 17 = .ok (.ireturn, 1) := by decide +kernel
theorem dX7_commonDivisor_0 : decode cX7_commonDivisor 0 = .ok (.iload_n 0, 1) := by decide +kernel
theorem dX7_commonDivisor_1 : decode cX7_commonDivisor 1 = .ok (.istore_n 2, 1) := by decide +kernel
theorem dX7_commonDivisor_2 : decode cX7_commonDivisor 2 = .ok (.iload_n 1, 1) := by decide +kernel
theorem dX7_commonDivisor_3 : decode cX7_commonDivisor 3 = .ok (.istore_n 3, 1) := by decide +kernel
theorem dX7_commonDivisor_4 : decode cX7_commonDivisor 4 = .ok (.iconst 0, 1) := by decide +kernel
theorem dX7_commonDivisor_5 : decode cX7_commonDivisor 5 = .ok (.istore 4, 2) := by decide +kernel
theorem dX7_commonDivisor_7 : decode cX7_commonDivisor 7 = .ok (.iload 4, 2) := by decide +kernel
theorem dX7_commonDivisor_9 : decode cX7_commonDivisor 9 = .ok (.bipush 64, 2) := by decide +kernel
theorem dX7_commonDivisor_11 : decode cX7_commonDivisor 11 = .ok (.if_icmp .ge 23, 3) := by decide +kernel
theorem dX7_commonDivisor_14 : decode cX7_commonDivisor 14 = .ok (.iload_n 3, 1) := by decide +kernel
theorem dX7_commonDivisor_15 : decode cX7_commonDivisor 15 = .ok (.ifCond .eq 19, 3) := by decide +kernel
theorem dX7_commonDivisor_18 : decode cX7_commonDivisor 18 = .ok (.iload_n 2, 1) := by decide +kernel
theorem dX7_commonDivisor_19 : decode cX7_commonDivisor 19 = .ok (.iload_n 3, 1) := by decide +kernel
theorem dX7_commonDivisor_20 : decode cX7_commonDivisor 20 = .ok (.irem, 1) := by decide +kernel
theorem dX7_commonDivisor_21 : decode cX7_commonDivisor 21 = .ok (.istore 5, 2) := by decide +kernel
theorem dX7_commonDivisor_23 : decode cX7_commonDivisor 23 = .ok (.iload_n 3, 1) := by decide +kernel
theorem dX7_commonDivisor_24 : decode cX7_commonDivisor 24 = .ok (.istore_n 2, 1) := by decide +kernel
theorem dX7_commonDivisor_25 : decode cX7_commonDivisor 25 = .ok (.iload 5, 2) := by decide +kernel
theorem dX7_commonDivisor_27 : decode cX7_commonDivisor 27 = .ok (.istore_n 3, 1) := by decide +kernel
theorem dX7_commonDivisor_28 : decode cX7_commonDivisor 28 = .ok (.iinc 4 1, 3) := by decide +kernel
theorem dX7_commonDivisor_31 : decode cX7_commonDivisor 31 = .ok (.goto (-24), 3) := by decide +kernel
theorem dX7_commonDivisor_34 : decode cX7_commonDivisor 34 = .ok (.iconst 1, 1) := by decide +kernel
theorem dX7_commonDivisor_35 : decode cX7_commonDivisor 35 = .ok (.iload_n 2, 1) := by decide +kernel
theorem dX7_commonDivisor_36 : decode cX7_commonDivisor 36 = .ok (.invokestatic 205, 3) := by decide +kernel
theorem dX7_commonDivisor_39 : decode cX7_commonDivisor 39 = .ok (.ireturn, 1) := by decide +kernel
theorem dX8_init_0 : decode cX8_init 0 = .ok (.aload_n 0, 1) := by decide +kernel
theorem dX8_init_1 : decode cX8_init 1 = .ok (.invokespecial 1, 3) := by decide +kernel
theorem dX8_init_4 : decode cX8_init 4 = .ok (.aload_n 0, 1) := by decide +kernel
theorem dX8_init_5 : decode cX8_init 5 = .ok (.bipush 64, 2) := by decide +kernel
theorem dX8_init_7 : decode cX8_init 7 = .ok (.newarray .int, 2) := by decide +kernel
theorem dX8_init_9 : decode cX8_init 9 = .ok (.putfield 7, 3) := by decide +kernel
theorem dX8_init_12 : decode cX8_init 12 = .ok (.aload_n 0, 1) := by decide +kernel
theorem dX8_init_13 : decode cX8_init 13 = .ok (.bipush 37, 2) := by decide +kernel
theorem dX8_init_15 : decode cX8_init 15 = .ok (.newarray .int, 2) := by decide +kernel
theorem dX8_init_17 : decode cX8_init 17 = .ok (.putfield 13, 3) := by decide +kernel
theorem dX8_init_20 : decode cX8_init 20 = .ok (.aload_n 0, 1) := by decide +kernel
theorem dX8_init_21 : decode cX8_init 21 = .ok (.bipush 37, 2) := by decide +kernel
theorem dX8_init_23 : decode cX8_init 23 = .ok (.newarray .int, 2) := by decide +kernel
theorem dX8_init_25 : decode cX8_init 25 = .ok (.putfield 16, 3) := by decide +kernel
theorem dX8_init_28 : decode cX8_init 28 = .ok (.aload_n 0, 1) := by decide +kernel
theorem dX8_init_29 : decode cX8_init 29 = .ok (.bipush 37, 2) := by decide +kernel
theorem dX8_init_31 : decode cX8_init 31 = .ok (.newarray .int, 2) := by decide +kernel
theorem dX8_init_33 : decode cX8_init 33 = .ok (.putfield 19, 3) := by decide +kernel
theorem dX8_init_36 : decode cX8_init 36 = .ok (.aload_n 0, 1) := by decide +kernel
theorem dX8_init_37 : decode cX8_init 37 = .ok (.sipush 518, 3) := by decide +kernel
theorem dX8_init_40 : decode cX8_init 40 = .ok (.newarray .int, 2) := by decide +kernel
theorem dX8_init_42 : decode cX8_init 42 = .ok (.putfield 22, 3) := by decide +kernel
theorem dX8_init_45 : decode cX8_init 45 = .ok (.aload_n 0, 1) := by decide +kernel
theorem dX8_init_46 : decode cX8_init 46 = .ok (.bipush 74, 2) := by decide +kernel
theorem dX8_init_48 : decode cX8_init 48 = .ok (.newarray .int, 2) := by decide +kernel
theorem dX8_init_50 : decode cX8_init 50 = .ok (.putfield 25, 3) := by decide +kernel
theorem dX8_init_53 : decode cX8_init 53 = .ok (.aload_n 0, 1) := by decide +kernel
theorem dX8_init_54 : decode cX8_init 54 = .ok (.iconst 2, 1) := by decide +kernel
theorem dX8_init_55 : decode cX8_init 55 = .ok (.newarray .boolean, 2) := by decide +kernel
theorem dX8_init_57 : decode cX8_init 57 = .ok (.putfield 28, 3) := by decide +kernel
theorem dX8_init_60 : decode cX8_init 60 = .ok (.aload_n 0, 1) := by decide +kernel
theorem dX8_init_61 : decode cX8_init 61 = .ok (.bipush 6, 2) := by decide +kernel
theorem dX8_init_63 : decode cX8_init 63 = .ok (.newarray .int, 2) := by decide +kernel
theorem dX8_init_65 : decode cX8_init 65 = .ok (.putfield 32, 3) := by decide +kernel
theorem dX8_init_68 : decode cX8_init 68 = .ok (.aload_n 0, 1) := by decide +kernel
theorem dX8_init_69 : decode cX8_init 69 = .ok (.bipush 6, 2) := by decide +kernel
theorem dX8_init_71 : decode cX8_init 71 = .ok (.newarray .int, 2) := by decide +kernel
theorem dX8_init_73 : decode cX8_init 73 = .ok (.putfield 35, 3) := by decide +kernel
theorem dX8_init_76 : decode cX8_init 76 = .ok (.aload_n 0, 1) := by decide +kernel
theorem dX8_init_77 : decode cX8_init 77 = .ok (.bipush 6, 2) := by decide +kernel
theorem dX8_init_79 : decode cX8_init 79 = .ok (.newarray .int, 2) := by decide +kernel
theorem dX8_init_81 : decode cX8_init 81 = .ok (.putfield 38, 3) := by decide +kernel
theorem dX8_init_84 : decode cX8_init 84 = .ok (.aload_n 0, 1) := by decide +kernel
theorem dX8_init_85 : decode cX8_init 85 = .ok (.bipush 6, 2) := by decide +kernel
theorem dX8_init_87 : decode cX8_init 87 = .ok (.newarray .int, 2) := by decide +kernel
theorem dX8_init_89 : decode cX8_init 89 = .ok (.putfield 41, 3) := by decide +kernel
theorem dX8_init_92 : decode cX8_init 92 = .ok (.aload_n 0, 1) := by decide +kernel
theorem dX8_init_93 : decode cX8_init 93 = .ok (.bipush 6, 2) := by decide +kernel
theorem dX8_init_95 : decode cX8_init 95 = .ok (.newarray .int, 2) := by decide +kernel
theorem dX8_init_97 : decode cX8_init 97 = .ok (.putfield 44, 3) := by decide +kernel
theorem dX8_init_100 : decode cX8_init 100 = .ok (.aload_n 0, 1) := by decide +kernel
theorem dX8_init_101 : decode cX8_init 101 = .ok (.bipush 6, 2) := by decide +kernel
theorem dX8_init_103 : decode cX8_init 103 = .ok (.newarray .int, 2) := by decide +kernel
theorem dX8_init_105 : decode cX8_init 105 = .ok (.putfield 47, 3) := by decide +kernel
theorem dX8_init_108 : decode cX8_init 108 = .ok (.aload_n 0, 1) := by decide +kernel
theorem dX8_init_109 : decode cX8_init 109 = .ok (.bipush 6, 2) := by decide +kernel
theorem dX8_init_111 : decode cX8_init 111 = .ok (.newarray .int, 2) := by decide +kernel
theorem dX8_init_113 : decode cX8_init 113 = .ok (.putfield 50, 3) := by decide +kernel
theorem dX8_init_116 : decode cX8_init 116 = .ok (.aload_n 0, 1) := by decide +kernel
theorem dX8_init_117 : decode cX8_init 117 = .ok (.bipush 6, 2) := by decide +kernel
theorem dX8_init_119 : decode cX8_init 119 = .ok (.newarray .int, 2) := by decide +kernel
theorem dX8_init_121 : decode cX8_init 121 = .ok (.putfield 53, 3) := by decide +kernel
theorem dX8_init_124 : decode cX8_init 124 = .ok (.aload_n 0, 1) := by decide +kernel
theorem dX8_init_125 : decode cX8_init 125 = .ok (.bipush 64, 2) := by decide +kernel
theorem dX8_init_127 : decode cX8_init 127 = .ok (.newarray .int, 2) := by decide +kernel
theorem dX8_init_129 : decode cX8_init 129 = .ok (.putfield 56, 3) := by decide +kernel
theorem dX8_init_132 : decode cX8_init 132 = .ok (.aload_n 0, 1) := by decide +kernel
theorem dX8_init_133 : decode cX8_init 133 = .ok (.getfield 16, 3) := by decide +kernel
theorem dX8_init_136 : decode cX8_init 136 = .ok (.iconst 0, 1) := by decide +kernel
theorem dX8_init_137 : decode cX8_init 137 = .ok (.iconst 1, 1) := by decide +kernel
theorem dX8_init_138 : decode cX8_init 138 = .ok (.iastore, 1) := by decide +kernel
theorem dX8_init_139 : decode cX8_init 139 = .ok (.return_, 1) := by decide +kernel
theorem dX8_in_0 : decode cX8_in 0 = .ok (.lload_n 0, 1) := by decide +kernel
theorem dX8_in_1 : decode cX8_in 1 = .ok (.lload_n 2, 1) := by decide +kernel
theorem dX8_in_2 : decode cX8_in 2 = .ok (.lcmp, 1) := by decide +kernel
theorem dX8_in_3 : decode cX8_in 3 = .ok (.ifCond .lt 14, 3) := by decide +kernel
theorem dX8_in_6 : decode cX8_in 6 = .ok (.lload_n 0, 1) := by decide +kernel
theorem dX8_in_7 : decode cX8_in 7 = .ok (.lload 4, 2) := by decide +kernel
theorem dX8_in_9 : decode cX8_in 9 = .ok (.lcmp, 1) := by decide +kernel
theorem dX8_in_10 : decode cX8_in 10 = .ok (.ifCond .gt 7, 3) := by decide +kernel
theorem dX8_in_13 : decode cX8_in 13 = .ok (.iconst 1, 1) := by decide +kernel
theorem dX8_in_14 : decode cX8_in 14 = .ok (.goto 4, 3) := by decide +kernel
theorem dX8_in_17 : decode cX8_in 17 = .ok (.iconst 0, 1) := by decide +kernel
theorem dX8_in_18 : decode cX8_in 18 = .ok (.ireturn, 1) := by decide +kernel
theorem dX8_has_0 : decode cX8_has 0 = .ok (.iload_n 0, 1) := by decide +kernel
theorem dX8_has_1 : decode cX8_has 1 = .ok (.iload_n 1, 1) := by decide +kernel
theorem dX8_has_2 : decode cX8_has 2 = .ok (.ishr, 1) := by decide +kernel
theorem dX8_has_3 : decode cX8_has 3 = .ok (.iconst 1, 1) := by decide +kernel
theorem dX8_has_4 : decode cX8_has 4 = .ok (.iand, 1) := by decide +kernel
theorem dX8_has_5 : decode cX8_has 5 = .ok (.iconst 1, 1) := by decide +kernel
theorem dX8_has_6 : decode cX8_has 6 = .ok (.if_icmp .ne 7, 3) := by decide +kernel
theorem dX8_has_9 : decode cX8_has 9 = .ok (.iconst 1, 1) := by decide +kernel
theorem dX8_has_10 : decode cX8_has 10 = .ok (.goto 4, 3) := by decide +kernel
theorem dX8_has_13 : decode cX8_has 13 = .ok (.iconst 0, 1) := by decide +kernel
theorem dX8_has_14 : decode cX8_has 14 = .ok (.ireturn, 1) := by decide +kernel
theorem dX8_many_0 : decode cX8_many 0 = .ok (.iconst 0, 1) := by decide +kernel
theorem dX8_many_1 : decode cX8_many 1 = .ok (.istore_n 2, 1) := by decide +kernel
theorem dX8_many_2 : decode cX8_many 2 = .ok (.lload_n 0, 1) := by decide +kernel
theorem dX8_many_3 : decode cX8_many 3 = .ok (.lstore_n 3, 1) := by decide +kernel
theorem dX8_many_4 : decode cX8_many 4 = .ok (.lload_n 3, 1) := by decide +kernel
theorem dX8_many_5 : decode cX8_many 5 = .ok (.lconst 0, 1) := by decide +kernel
theorem dX8_many_6 : decode cX8_many 6 = .ok (.lcmp, 1) := by decide +kernel
theorem dX8_many_7 : decode cX8_many 7 = .ok (.ifCond .le 17, 3) := by decide +kernel
theorem dX8_many_10 : decode cX8_many 10 = .ok (.iload_n 2, 1) := by decide +kernel
theorem dX8_many_11 : decode cX8_many 11 = .ok (.lload_n 3, 1) := by decide +kernel
theorem dX8_many_12 : decode cX8_many 12 = .ok (.lconst 1, 1) := by decide +kernel
theorem dX8_many_13 : decode cX8_many 13 = .ok (.land, 1) := by decide +kernel
theorem dX8_many_14 : decode cX8_many 14 = .ok (.l2i, 1) := by decide +kernel
theorem dX8_many_15 : decode cX8_many 15 = .ok (.iadd, 1) := by decide +kernel
theorem dX8_many_16 : decode cX8_many 16 = .ok (.istore_n 2, 1) := by decide +kernel
theorem dX8_many_17 : decode cX8_many 17 = .ok (.lload_n 3, 1) := by decide +kernel
theorem dX8_many_18 : decode cX8_many 18 = .ok (.iconst 1, 1) := by decide +kernel
theorem dX8_many_19 : decode cX8_many 19 = .ok (.lshr, 1) := by decide +kernel
theorem dX8_many_20 : decode cX8_many 20 = .ok (.lstore_n 3, 1) := by decide +kernel
theorem dX8_many_21 : decode cX8_many 21 = .ok (.goto (-17), 3) := by decide +kernel
theorem dX8_many_24 : decode cX8_many 24 = .ok (.iload_n 2, 1) := by decide +kernel
theorem dX8_many_25 : decode cX8_many 25 = .ok (.ireturn, 1) := by decide +kernel
theorem dX8_power_0 : decode cX8_power 0 = .ok (.iconst 1, 1) := by decide +kernel
theorem dX8_power_1 : decode cX8_power 1 = .ok (.istore_n 2, 1) := by decide +kernel
theorem dX8_power_2 : decode cX8_power 2 = .ok (.iconst 0, 1) := by decide +kernel
theorem dX8_power_3 : decode cX8_power 3 = .ok (.istore_n 3, 1) := by decide +kernel
theorem dX8_power_4 : decode cX8_power 4 = .ok (.iload_n 3, 1) := by decide +kernel
theorem dX8_power_5 : decode cX8_power 5 = .ok (.iload_n 1, 1) := by decide +kernel
theorem dX8_power_6 : decode cX8_power 6 = .ok (.if_icmp .ge 13, 3) := by decide +kernel
theorem dX8_power_9 : decode cX8_power 9 = .ok (.iload_n 2, 1) := by decide +kernel
theorem dX8_power_10 : decode cX8_power 10 = .ok (.iload_n 0, 1) := by decide +kernel
theorem dX8_power_11 : decode cX8_power 11 = .ok (.imul, 1) := by decide +kernel
theorem dX8_power_12 : decode cX8_power 12 = .ok (.istore_n 2, 1) := by decide +kernel
theorem dX8_power_13 : decode cX8_power 13 = .ok (.iinc 3 1, 3) := by decide +kernel
theorem dX8_power_16 : decode cX8_power 16 = .ok (.goto (-12), 3) := by decide +kernel
theorem dX8_power_19 : decode cX8_power 19 = .ok (.iload_n 2, 1) := by decide +kernel
theorem dX8_power_20 : decode cX8_power 20 = .ok (.ireturn, 1) := by decide +kernel
theorem dX8_noDeparture_0 : decode cX8_noDeparture 0 = .ok (.iload_n 1, 1) := by decide +kernel
theorem dX8_noDeparture_1 : decode cX8_noDeparture 1 = .ok (.i2l, 1) := by decide +kernel
theorem dX8_noDeparture_2 : decode cX8_noDeparture 2 = .ok (.lconst 0, 1) := by decide +kernel
theorem dX8_noDeparture_3 : decode cX8_noDeparture 3 = .ok (.aload_n 0, 1) := by decide +kernel
theorem dX8_noDeparture_4 : decode cX8_noDeparture 4 = .ok (.getfield 16, 3) := by decide +kernel
theorem dX8_noDeparture_7 : decode cX8_noDeparture 7 = .ok (.iconst 0, 1) := by decide +kernel
theorem dX8_noDeparture_8 : decode cX8_noDeparture 8 = .ok (.iaload, 1) := by decide +kernel
theorem dX8_noDeparture_9 : decode cX8_noDeparture 9 = .ok (.iconst 1, 1) := by decide +kernel
theorem dX8_noDeparture_10 : decode cX8_noDeparture 10 = .ok (.isub, 1) := by decide +kernel
theorem dX8_noDeparture_11 : decode cX8_noDeparture 11 = .ok (.i2l, 1) := by decide +kernel
theorem dX8_noDeparture_12 : decode cX8_noDeparture 12 = .ok (.invokestatic 63, 3) := by decide +kernel
theorem dX8_noDeparture_15 : decode cX8_noDeparture 15 = .ok (.ifCond .ne 7, 3) := by decide +kernel
theorem dX8_noDeparture_18 : decode cX8_noDeparture 18 = .ok (.iconst 1, 1) := by decide +kernel
theorem dX8_noDeparture_19 : decode cX8_noDeparture 19 = .ok (.goto 4, 3) := by decide +kernel
theorem dX8_noDeparture_22 : decode cX8_noDeparture 22 = .ok (.iconst 0, 1) := by decide +kernel
theorem dX8_noDeparture_23 : decode cX8_noDeparture 23 = .ok (.ireturn, 1) := by decide +kernel
theorem dX8_minutesOf_0 : decode cX8_minutesOf 0 = .ok (.aload_n 0, 1) := by decide +kernel
theorem dX8_minutesOf_1 : decode cX8_minutesOf 1 = .ok (.iconst 1, 1) := by decide +kernel
theorem dX8_minutesOf_2 : decode cX8_minutesOf 2 = .ok (.bipush 6, 2) := by decide +kernel
theorem dX8_minutesOf_4 : decode cX8_minutesOf 4 = .ok (.iload_n 1, 1) := by decide +kernel
theorem dX8_minutesOf_5 : decode cX8_minutesOf 5 = .ok (.imul, 1) := by decide +kernel
theorem dX8_minutesOf_6 : decode cX8_minutesOf 6 = .ok (.iadd, 1) := by decide +kernel
theorem dX8_minutesOf_7 : decode cX8_minutesOf 7 = .ok (.iload_n 2, 1) := by decide +kernel
theorem dX8_minutesOf_8 : decode cX8_minutesOf 8 = .ok (.iadd, 1) := by decide +kernel
theorem dX8_minutesOf_9 : decode cX8_minutesOf 9 = .ok (.iaload, 1) := by decide +kernel
theorem dX8_minutesOf_10 : decode cX8_minutesOf 10 = .ok (.iconst 1, 1) := by decide +kernel
theorem dX8_minutesOf_11 : decode cX8_minutesOf 11 = .ok (.isub, 1) := by decide +kernel
theorem dX8_minutesOf_12 : decode cX8_minutesOf 12 = .ok (.ireturn, 1) := by decide +kernel
theorem dX8_isThere_0 : decode cX8_isThere 0 = .ok (.aload_n 0, 1) := by decide +kernel
theorem dX8_isThere_1 : decode cX8_isThere 1 = .ok (.iload_n 1, 1) := by decide +kernel
theorem dX8_isThere_2 : decode cX8_isThere 2 = .ok (.iload_n 2, 1) := by decide +kernel
theorem dX8_isThere_3 : decode cX8_isThere 3 = .ok (.invokestatic 67, 3) := by decide +kernel
theorem dX8_isThere_6 : decode cX8_isThere 6 = .ok (.ifCond .lt 7, 3) := by decide +kernel
theorem dX8_isThere_9 : decode cX8_isThere 9 = .ok (.iconst 1, 1) := by decide +kernel
theorem dX8_isThere_10 : decode cX8_isThere 10 = .ok (.goto 4, 3) := by decide +kernel
theorem dX8_isThere_13 : decode cX8_isThere 13 = .ok (.iconst 0, 1) := by decide +kernel
theorem dX8_isThere_14 : decode cX8_isThere 14 = .ok (.ireturn, 1) := by decide +kernel
theorem dX8_write_0 : decode cX8_write 0 = .ok (.aload_n 0, 1) := by decide +kernel
theorem dX8_write_1 : decode cX8_write 1 = .ok (.iconst 0, 1) := by decide +kernel
theorem dX8_write_2 : decode cX8_write 2 = .ok (.putfield 59, 3) := by decide +kernel
theorem dX8_write_5 : decode cX8_write 5 = .ok (.iload_n 1, 1) := by decide +kernel
theorem dX8_write_6 : decode cX8_write 6 = .ok (.i2l, 1) := by decide +kernel
theorem dX8_write_7 : decode cX8_write 7 = .ok (.lconst 0, 1) := by decide +kernel
theorem dX8_write_8 : decode cX8_write 8 = .ok (.ldc2_w 71, 3) := by decide +kernel
theorem dX8_write_11 : decode cX8_write 11 = .ok (.invokestatic 63, 3) := by decide +kernel
theorem dX8_write_14 : decode cX8_write 14 = .ok (.ifCond .ne 6, 3) := by decide +kernel
theorem dX8_write_17 : decode cX8_write 17 = .ok (.bipush (-2), 2) := by decide +kernel
theorem dX8_write_19 : decode cX8_write 19 = .ok (.ireturn, 1) := by decide +kernel
theorem dX8_write_20 : decode cX8_write 20 = .ok (.aload_n 0, 1) := by decide +kernel
theorem dX8_write_21 : decode cX8_write 21 = .ok (.getfield 73, 3) := by decide +kernel
theorem dX8_write_24 : decode cX8_write 24 = .ok (.bipush 64, 2) := by decide +kernel
theorem dX8_write_26 : decode cX8_write 26 = .ok (.if_icmp .ne 6, 3) := by decide +kernel
theorem dX8_write_29 : decode cX8_write 29 = .ok (.bipush (-4), 2) := by decide +kernel
theorem dX8_write_31 : decode cX8_write 31 = .ok (.ireturn, 1) := by decide +kernel
theorem dX8_write_32 : decode cX8_write 32 = .ok (.aload_n 0, 1) := by decide +kernel
theorem dX8_write_33 : decode cX8_write 33 = .ok (.getfield 7, 3) := by decide +kernel
theorem dX8_write_36 : decode cX8_write 36 = .ok (.aload_n 0, 1) := by decide +kernel
theorem dX8_write_37 : decode cX8_write 37 = .ok (.getfield 73, 3) := by decide +kernel
theorem dX8_write_40 : decode cX8_write 40 = .ok (.iload_n 1, 1) := by decide +kernel
theorem dX8_write_41 : decode cX8_write 41 = .ok (.iastore, 1) := by decide +kernel
theorem dX8_write_42 : decode cX8_write 42 = .ok (.aload_n 0, 1) := by decide +kernel
theorem dX8_write_43 : decode cX8_write 43 = .ok (.dup, 1) := by decide +kernel
theorem dX8_write_44 : decode cX8_write 44 = .ok (.getfield 73, 3) := by decide +kernel
theorem dX8_write_47 : decode cX8_write 47 = .ok (.iconst 1, 1) := by decide +kernel
theorem dX8_write_48 : decode cX8_write 48 = .ok (.iadd, 1) := by decide +kernel
theorem dX8_write_49 : decode cX8_write 49 = .ok (.putfield 73, 3) := by decide +kernel
theorem dX8_write_52 : decode cX8_write 52 = .ok (.aload_n 0, 1) := by decide +kernel
theorem dX8_write_53 : decode cX8_write 53 = .ok (.getfield 73, 3) := by decide +kernel
theorem dX8_write_56 : decode cX8_write 56 = .ok (.ireturn, 1) := by decide +kernel
theorem dX8_wipe_0 : decode cX8_wipe 0 = .ok (.aload_n 0, 1) := by decide +kernel
theorem dX8_wipe_1 : decode cX8_wipe 1 = .ok (.iconst 0, 1) := by decide +kernel
theorem dX8_wipe_2 : decode cX8_wipe 2 = .ok (.putfield 59, 3) := by decide +kernel
theorem dX8_wipe_5 : decode cX8_wipe 5 = .ok (.aload_n 0, 1) := by decide +kernel
theorem dX8_wipe_6 : decode cX8_wipe 6 = .ok (.getfield 73, 3) := by decide +kernel
theorem dX8_wipe_9 : decode cX8_wipe 9 = .ok (.istore_n 1, 1) := by decide +kernel
theorem dX8_wipe_10 : decode cX8_wipe 10 = .ok (.aload_n 0, 1) := by decide +kernel
theorem dX8_wipe_11 : decode cX8_wipe 11 = .ok (.iconst 0, 1) := by decide +kernel
theorem dX8_wipe_12 : decode cX8_wipe 12 = .ok (.putfield 73, 3) := by decide +kernel
theorem dX8_wipe_15 : decode cX8_wipe 15 = .ok (.iload_n 1, 1) := by decide +kernel
theorem dX8_wipe_16 : decode cX8_wipe 16 = .ok (.ireturn, 1) := by decide +kernel
theorem dX8_figure_0 : decode cX8_figure 0 = .ok (.aload_n 0, 1) := by decide +kernel
theorem dX8_figure_1 : decode cX8_figure 1 = .ok (.getfield 76, 3) := by decide +kernel
theorem dX8_figure_4 : decode cX8_figure 4 = .ok (.aload_n 0, 1) := by decide +kernel
theorem dX8_figure_5 : decode cX8_figure 5 = .ok (.getfield 73, 3) := by decide +kernel
theorem dX8_figure_8 : decode cX8_figure 8 = .ok (.if_icmp .eq 25, 3) := by decide +kernel
theorem dX8_figure_11 : decode cX8_figure 11 = .ok (.aload_n 0, 1) := by decide +kernel
theorem dX8_figure_12 : decode cX8_figure 12 = .ok (.getfield 7, 3) := by decide +kernel
theorem dX8_figure_15 : decode cX8_figure 15 = .ok (.aload_n 0, 1) := by decide +kernel
theorem dX8_figure_16 : decode cX8_figure 16 = .ok (.getfield 76, 3) := by decide +kernel
theorem dX8_figure_19 : decode cX8_figure 19 = .ok (.iaload, 1) := by decide +kernel
theorem dX8_figure_20 : decode cX8_figure 20 = .ok (.bipush 48, 2) := by decide +kernel
theorem dX8_figure_22 : decode cX8_figure 22 = .ok (.isub, 1) := by decide +kernel
theorem dX8_figure_23 : decode cX8_figure 23 = .ok (.i2l, 1) := by decide +kernel
theorem dX8_figure_24 : decode cX8_figure 24 = .ok (.lconst 0, 1) := by decide +kernel
theorem dX8_figure_25 : decode cX8_figure 25 = .ok (.iload_n 1, 1) := by decide +kernel
theorem dX8_figure_26 : decode cX8_figure 26 = .ok (.i2l, 1) := by decide +kernel
theorem dX8_figure_27 : decode cX8_figure 27 = .ok (.invokestatic 63, 3) := by decide +kernel
theorem dX8_figure_30 : decode cX8_figure 30 = .ok (.ifCond .ne 6, 3) := by decide +kernel
theorem dX8_figure_33 : decode cX8_figure 33 = .ok (.bipush (-9), 2) := by decide +kernel
theorem dX8_figure_35 : decode cX8_figure 35 = .ok (.ireturn, 1) := by decide +kernel
theorem dX8_figure_36 : decode cX8_figure 36 = .ok (.aload_n 0, 1) := by decide +kernel
theorem dX8_figure_37 : decode cX8_figure 37 = .ok (.dup, 1) := by decide +kernel
theorem dX8_figure_38 : decode cX8_figure 38 = .ok (.getfield 76, 3) := by decide +kernel
theorem dX8_figure_41 : decode cX8_figure 41 = .ok (.iconst 1, 1) := by decide +kernel
theorem dX8_figure_42 : decode cX8_figure 42 = .ok (.iadd, 1) := by decide +kernel
theorem dX8_figure_43 : decode cX8_figure 43 = .ok (.putfield 76, 3) := by decide +kernel
theorem dX8_figure_46 : decode cX8_figure 46 = .ok (.aload_n 0, 1) := by decide +kernel
theorem dX8_figure_47 : decode cX8_figure 47 = .ok (.getfield 7, 3) := by decide +kernel
theorem dX8_figure_50 : decode cX8_figure 50 = .ok (.aload_n 0, 1) := by decide +kernel
theorem dX8_figure_51 : decode cX8_figure 51 = .ok (.getfield 76, 3) := by decide +kernel
theorem dX8_figure_54 : decode cX8_figure 54 = .ok (.iconst 1, 1) := by decide +kernel
theorem dX8_figure_55 : decode cX8_figure 55 = .ok (.isub, 1) := by decide +kernel
theorem dX8_figure_56 : decode cX8_figure 56 = .ok (.iaload, 1) := by decide +kernel
theorem dX8_figure_57 : decode cX8_figure 57 = .ok (.bipush 48, 2) := by decide +kernel
theorem dX8_figure_59 : decode cX8_figure 59 = .ok (.isub, 1) := by decide +kernel
theorem dX8_figure_60 : decode cX8_figure 60 = .ok (.ireturn, 1) := by decide +kernel
theorem dX8_waitsFrom_0 : decode cX8_waitsFrom 0 = .ok (.iconst 0, 1) := by decide +kernel
theorem dX8_waitsFrom_1 : decode cX8_waitsFrom 1 = .ok (.istore_n 2, 1) := by decide +kernel
theorem dX8_waitsFrom_2 : decode cX8_waitsFrom 2 = .ok (.iconst 0, 1) := by decide +kernel
theorem dX8_waitsFrom_3 : decode cX8_waitsFrom 3 = .ok (.istore_n 3, 1) := by decide +kernel
theorem dX8_waitsFrom_4 : decode cX8_waitsFrom 4 = .ok (.iload_n 3, 1) := by decide +kernel
theorem dX8_waitsFrom_5 : decode cX8_waitsFrom 5 = .ok (.aload_n 0, 1) := by decide +kernel
theorem dX8_waitsFrom_6 : decode cX8_waitsFrom 6 = .ok (.iconst 0, 1) := by decide +kernel
theorem dX8_waitsFrom_7 : decode cX8_waitsFrom 7 = .ok (.iaload, 1) := by decide +kernel
theorem dX8_waitsFrom_8 : decode cX8_waitsFrom 8 = .ok (.if_icmp .ge 26, 3) := by decide +kernel
theorem dX8_waitsFrom_11 : decode cX8_waitsFrom 11 = .ok (.iload_n 2, 1) := by decide +kernel
theorem dX8_waitsFrom_12 : decode cX8_waitsFrom 12 = .ok (.aload_n 0, 1) := by decide +kernel
theorem dX8_waitsFrom_13 : decode cX8_waitsFrom 13 = .ok (.iload_n 1, 1) := by decide +kernel
theorem dX8_waitsFrom_14 : decode cX8_waitsFrom 14 = .ok (.iload_n 3, 1) := by decide +kernel
theorem dX8_waitsFrom_15 : decode cX8_waitsFrom 15 = .ok (.invokestatic 79, 3) := by decide +kernel
theorem dX8_waitsFrom_18 : decode cX8_waitsFrom 18 = .ok (.ifCond .eq 7, 3) := by decide +kernel
theorem dX8_waitsFrom_21 : decode cX8_waitsFrom 21 = .ok (.iconst 1, 1) := by decide +kernel
theorem dX8_waitsFrom_22 : decode cX8_waitsFrom 22 = .ok (.goto 4, 3) := by decide +kernel
theorem dX8_waitsFrom_25 : decode cX8_waitsFrom 25 = .ok (.iconst 0, 1) := by decide +kernel
theorem dX8_waitsFrom_26 : decode cX8_waitsFrom 26 = .ok (.iadd, 1) := by decide +kernel
theorem dX8_waitsFrom_27 : decode cX8_waitsFrom 27 = .ok (.istore_n 2, 1) := by decide +kernel
theorem dX8_waitsFrom_28 : decode cX8_waitsFrom 28 = .ok (.iinc 3 1, 3) := by decide +kernel
theorem dX8_waitsFrom_31 : decode cX8_waitsFrom 31 = .ok (.goto (-27), 3) := by decide +kernel
theorem dX8_waitsFrom_34 : decode cX8_waitsFrom 34 = .ok (.iload_n 2, 1) := by decide +kernel
theorem dX8_waitsFrom_35 : decode cX8_waitsFrom 35 = .ok (.ireturn, 1) := by decide +kernel
theorem dX8_readWait_0 : decode cX8_readWait 0 = .ok (.aload_n 0, 1) := by decide +kernel
theorem dX8_readWait_1 : decode cX8_readWait 1 = .ok (.getfield 13, 3) := by decide +kernel
theorem dX8_readWait_4 : decode cX8_readWait 4 = .ok (.iconst 0, 1) := by decide +kernel
theorem dX8_readWait_5 : decode cX8_readWait 5 = .ok (.iaload, 1) := by decide +kernel
theorem dX8_readWait_6 : decode cX8_readWait 6 = .ok (.istore_n 1, 1) := by decide +kernel
theorem dX8_readWait_7 : decode cX8_readWait 7 = .ok (.aload_n 0, 1) := by decide +kernel
theorem dX8_readWait_8 : decode cX8_readWait 8 = .ok (.iload_n 1, 1) := by decide +kernel
theorem dX8_readWait_9 : decode cX8_readWait 9 = .ok (.iconst 1, 1) := by decide +kernel
theorem dX8_readWait_10 : decode cX8_readWait 10 = .ok (.isub, 1) := by decide +kernel
theorem dX8_readWait_11 : decode cX8_readWait 11 = .ok (.invokevirtual 83, 3) := by decide +kernel
theorem dX8_readWait_14 : decode cX8_readWait 14 = .ok (.istore_n 2, 1) := by decide +kernel
theorem dX8_readWait_15 : decode cX8_readWait 15 = .ok (.iload_n 2, 1) := by decide +kernel
theorem dX8_readWait_16 : decode cX8_readWait 16 = .ok (.bipush (-9), 2) := by decide +kernel
theorem dX8_readWait_18 : decode cX8_readWait 18 = .ok (.if_icmp .ne 5, 3) := by decide +kernel
theorem dX8_readWait_21 : decode cX8_readWait 21 = .ok (.iconst 0, 1) := by decide +kernel
theorem dX8_readWait_22 : decode cX8_readWait 22 = .ok (.ireturn, 1) := by decide +kernel
theorem dX8_readWait_23 : decode cX8_readWait 23 = .ok (.aload_n 0, 1) := by decide +kernel
theorem dX8_readWait_24 : decode cX8_readWait 24 = .ok (.getfield 87, 3) := by decide +kernel
theorem dX8_readWait_27 : decode cX8_readWait 27 = .ok (.bipush 12, 2) := by decide +kernel
theorem dX8_readWait_29 : decode cX8_readWait 29 = .ok (.if_icmp .eq 15, 3) := by decide +kernel
theorem dX8_readWait_32 : decode cX8_readWait 32 = .ok (.aload_n 0, 1) := by decide +kernel
theorem dX8_readWait_33 : decode cX8_readWait 33 = .ok (.getfield 13, 3) := by decide +kernel
theorem dX8_readWait_36 : decode cX8_readWait 36 = .ok (.iload_n 2, 1) := by decide +kernel
theorem dX8_readWait_37 : decode cX8_readWait 37 = .ok (.invokestatic 90, 3) := by decide +kernel
theorem dX8_readWait_40 : decode cX8_readWait 40 = .ok (.iload_n 1, 1) := by decide +kernel
theorem dX8_readWait_41 : decode cX8_readWait 41 = .ok (.if_icmp .ne 15, 3) := by decide +kernel
theorem dX8_readWait_44 : decode cX8_readWait 44 = .ok (.aload_n 0, 1) := by decide +kernel
theorem dX8_readWait_45 : decode cX8_readWait 45 = .ok (.dup, 1) := by decide +kernel
theorem dX8_readWait_46 : decode cX8_readWait 46 = .ok (.getfield 76, 3) := by decide +kernel
theorem dX8_readWait_49 : decode cX8_readWait 49 = .ok (.iconst 1, 1) := by decide +kernel
theorem dX8_readWait_50 : decode cX8_readWait 50 = .ok (.isub, 1) := by decide +kernel
theorem dX8_readWait_51 : decode cX8_readWait 51 = .ok (.putfield 76, 3) := by decide +kernel
theorem dX8_readWait_54 : decode cX8_readWait 54 = .ok (.iconst 0, 1) := by decide +kernel
theorem dX8_readWait_55 : decode cX8_readWait 55 = .ok (.ireturn, 1) := by decide +kernel
theorem dX8_readWait_56 : decode cX8_readWait 56 = .ok (.aload_n 0, 1) := by decide +kernel
theorem dX8_readWait_57 : decode cX8_readWait 57 = .ok (.iload_n 1, 1) := by decide +kernel
theorem dX8_readWait_58 : decode cX8_readWait 58 = .ok (.iconst 1, 1) := by decide +kernel
theorem dX8_readWait_59 : decode cX8_readWait 59 = .ok (.isub, 1) := by decide +kernel
theorem dX8_readWait_60 : decode cX8_readWait 60 = .ok (.invokevirtual 83, 3) := by decide +kernel
theorem dX8_readWait_63 : decode cX8_readWait 63 = .ok (.istore_n 3, 1) := by decide +kernel
theorem dX8_readWait_64 : decode cX8_readWait 64 = .ok (.iload_n 3, 1) := by decide +kernel
theorem dX8_readWait_65 : decode cX8_readWait 65 = .ok (.bipush (-9), 2) := by decide +kernel
theorem dX8_readWait_67 : decode cX8_readWait 67 = .ok (.if_icmp .ne 5, 3) := by decide +kernel
theorem dX8_readWait_70 : decode cX8_readWait 70 = .ok (.iconst 0, 1) := by decide +kernel
theorem dX8_readWait_71 : decode cX8_readWait 71 = .ok (.ireturn, 1) := by decide +kernel
theorem dX8_readWait_72 : decode cX8_readWait 72 = .ok (.aload_n 0, 1) := by decide +kernel
theorem dX8_readWait_73 : decode cX8_readWait 73 = .ok (.getfield 13, 3) := by decide +kernel
theorem dX8_readWait_76 : decode cX8_readWait 76 = .ok (.iload_n 2, 1) := by decide +kernel
theorem dX8_readWait_77 : decode cX8_readWait 77 = .ok (.iload_n 3, 1) := by decide +kernel
theorem dX8_readWait_78 : decode cX8_readWait 78 = .ok (.invokestatic 79, 3) := by decide +kernel
theorem dX8_readWait_81 : decode cX8_readWait 81 = .ok (.ifCond .eq 15, 3) := by decide +kernel
theorem dX8_readWait_84 : decode cX8_readWait 84 = .ok (.aload_n 0, 1) := by decide +kernel
theorem dX8_readWait_85 : decode cX8_readWait 85 = .ok (.dup, 1) := by decide +kernel
theorem dX8_readWait_86 : decode cX8_readWait 86 = .ok (.getfield 76, 3) := by decide +kernel
theorem dX8_readWait_89 : decode cX8_readWait 89 = .ok (.iconst 1, 1) := by decide +kernel
theorem dX8_readWait_90 : decode cX8_readWait 90 = .ok (.isub, 1) := by decide +kernel
theorem dX8_readWait_91 : decode cX8_readWait 91 = .ok (.putfield 76, 3) := by decide +kernel
theorem dX8_readWait_94 : decode cX8_readWait 94 = .ok (.iconst 0, 1) := by decide +kernel
theorem dX8_readWait_95 : decode cX8_readWait 95 = .ok (.ireturn, 1) := by decide +kernel
theorem dX8_readWait_96 : decode cX8_readWait 96 = .ok (.aload_n 0, 1) := by decide +kernel
theorem dX8_readWait_97 : decode cX8_readWait 97 = .ok (.bipush 9, 2) := by decide +kernel
theorem dX8_readWait_99 : decode cX8_readWait 99 = .ok (.invokevirtual 83, 3) := by decide +kernel
theorem dX8_readWait_102 : decode cX8_readWait 102 = .ok (.istore 4, 2) := by decide +kernel
theorem dX8_readWait_104 : decode cX8_readWait 104 = .ok (.aload_n 0, 1) := by decide +kernel
theorem dX8_readWait_105 : decode cX8_readWait 105 = .ok (.getfield 13, 3) := by decide +kernel
theorem dX8_readWait_108 : decode cX8_readWait 108 = .ok (.iconst 1, 1) := by decide +kernel
theorem dX8_readWait_109 : decode cX8_readWait 109 = .ok (.bipush 6, 2) := by decide +kernel
theorem dX8_readWait_111 : decode cX8_readWait 111 = .ok (.iload_n 2, 1) := by decide +kernel
theorem dX8_readWait_112 : decode cX8_readWait 112 = .ok (.imul, 1) := by decide +kernel
theorem dX8_readWait_113 : decode cX8_readWait 113 = .ok (.iadd, 1) := by decide +kernel
theorem dX8_readWait_114 : decode cX8_readWait 114 = .ok (.iload_n 3, 1) := by decide +kernel
theorem dX8_readWait_115 : decode cX8_readWait 115 = .ok (.iadd, 1) := by decide +kernel
theorem dX8_readWait_116 : decode cX8_readWait 116 = .ok (.iload 4, 2) := by decide +kernel
theorem dX8_readWait_118 : decode cX8_readWait 118 = .ok (.iconst 1, 1) := by decide +kernel
theorem dX8_readWait_119 : decode cX8_readWait 119 = .ok (.iadd, 1) := by decide +kernel
theorem dX8_readWait_120 : decode cX8_readWait 120 = .ok (.ifCond .ge 7, 3) := by decide +kernel
theorem dX8_readWait_123 : decode cX8_readWait 123 = .ok (.iconst 0, 1) := by decide +kernel
theorem dX8_readWait_124 : decode cX8_readWait 124 = .ok (.goto 7, 3) := by decide +kernel
theorem dX8_readWait_127 : decode cX8_readWait 127 = .ok (.iload 4, 2) := by decide +kernel
theorem dX8_readWait_129 : decode cX8_readWait 129 = .ok (.iconst 1, 1) := by decide +kernel
theorem dX8_readWait_130 : decode cX8_readWait 130 = .ok (.iadd, 1) := by decide +kernel
theorem dX8_readWait_131 : decode cX8_readWait 131 = .ok (.iastore, 1) := by decide +kernel
theorem dX8_readWait_132 : decode cX8_readWait 132 = .ok (.aload_n 0, 1) := by decide +kernel
theorem dX8_readWait_133 : decode cX8_readWait 133 = .ok (.dup, 1) := by decide +kernel
theorem dX8_readWait_134 : decode cX8_readWait 134 = .ok (.getfield 87, 3) := by decide +kernel
theorem dX8_readWait_137 : decode cX8_readWait 137 = .ok (.iconst 1, 1) := by decide +kernel
theorem dX8_readWait_138 : decode cX8_readWait 138 = .ok (.iadd, 1) := by decide +kernel
theorem dX8_readWait_139 : decode cX8_readWait 139 = .ok (.putfield 87, 3) := by decide +kernel
theorem dX8_readWait_142 : decode cX8_readWait 142 = .ok (.iload 4, 2) := by decide +kernel
theorem dX8_readWait_144 : decode cX8_readWait 144 = .ok (.bipush (-9), 2) := by decide +kernel
theorem dX8_readWait_146 : decode cX8_readWait 146 = .ok (.if_icmp .eq 7, 3) := by decide +kernel
theorem dX8_readWait_149 : decode cX8_readWait 149 = .ok (.iconst 1, 1) := by decide +kernel
theorem dX8_readWait_150 : decode cX8_readWait 150 = .ok (.goto 4, 3) := by decide +kernel
theorem dX8_readWait_153 : decode cX8_readWait 153 = .ok (.iconst 0, 1) := by decide +kernel
theorem dX8_readWait_154 : decode cX8_readWait 154 = .ok (.ireturn, 1) := by decide +kernel
theorem dX8_readNet_0 : decode cX8_readNet 0 = .ok (.iconst 0, 1) := by decide +kernel
theorem dX8_readNet_1 : decode cX8_readNet 1 = .ok (.istore_n 1, 1) := by decide +kernel
theorem dX8_readNet_2 : decode cX8_readNet 2 = .ok (.iload_n 1, 1) := by decide +kernel
theorem dX8_readNet_3 : decode cX8_readNet 3 = .ok (.bipush 37, 2) := by decide +kernel
theorem dX8_readNet_5 : decode cX8_readNet 5 = .ok (.if_icmp .ge 16, 3) := by decide +kernel
theorem dX8_readNet_8 : decode cX8_readNet 8 = .ok (.aload_n 0, 1) := by decide +kernel
theorem dX8_readNet_9 : decode cX8_readNet 9 = .ok (.getfield 13, 3) := by decide +kernel
theorem dX8_readNet_12 : decode cX8_readNet 12 = .ok (.iload_n 1, 1) := by decide +kernel
theorem dX8_readNet_13 : decode cX8_readNet 13 = .ok (.iconst 0, 1) := by decide +kernel
theorem dX8_readNet_14 : decode cX8_readNet 14 = .ok (.iastore, 1) := by decide +kernel
theorem dX8_readNet_15 : decode cX8_readNet 15 = .ok (.iinc 1 1, 3) := by decide +kernel
theorem dX8_readNet_18 : decode cX8_readNet 18 = .ok (.goto (-16), 3) := by decide +kernel
theorem dX8_readNet_21 : decode cX8_readNet 21 = .ok (.aload_n 0, 1) := by decide +kernel
theorem dX8_readNet_22 : decode cX8_readNet 22 = .ok (.iconst 0, 1) := by decide +kernel
theorem dX8_readNet_23 : decode cX8_readNet 23 = .ok (.putfield 87, 3) := by decide +kernel
theorem dX8_readNet_26 : decode cX8_readNet 26 = .ok (.aload_n 0, 1) := by decide +kernel
theorem dX8_readNet_27 : decode cX8_readNet 27 = .ok (.getfield 73, 3) := by decide +kernel
theorem dX8_readNet_30 : decode cX8_readNet 30 = .ok (.ifCond .eq 14, 3) := by decide +kernel
theorem dX8_readNet_33 : decode cX8_readNet 33 = .ok (.aload_n 0, 1) := by decide +kernel
theorem dX8_readNet_34 : decode cX8_readNet 34 = .ok (.getfield 7, 3) := by decide +kernel
theorem dX8_readNet_37 : decode cX8_readNet 37 = .ok (.iconst 0, 1) := by decide +kernel
theorem dX8_readNet_38 : decode cX8_readNet 38 = .ok (.iaload, 1) := by decide +kernel
theorem dX8_readNet_39 : decode cX8_readNet 39 = .ok (.bipush 78, 2) := by decide +kernel
theorem dX8_readNet_41 : decode cX8_readNet 41 = .ok (.if_icmp .eq 5, 3) := by decide +kernel
theorem dX8_readNet_44 : decode cX8_readNet 44 = .ok (.iconst 0, 1) := by decide +kernel
theorem dX8_readNet_45 : decode cX8_readNet 45 = .ok (.ireturn, 1) := by decide +kernel
theorem dX8_readNet_46 : decode cX8_readNet 46 = .ok (.aload_n 0, 1) := by decide +kernel
theorem dX8_readNet_47 : decode cX8_readNet 47 = .ok (.iconst 1, 1) := by decide +kernel
theorem dX8_readNet_48 : decode cX8_readNet 48 = .ok (.putfield 76, 3) := by decide +kernel
theorem dX8_readNet_51 : decode cX8_readNet 51 = .ok (.aload_n 0, 1) := by decide +kernel
theorem dX8_readNet_52 : decode cX8_readNet 52 = .ok (.bipush 6, 2) := by decide +kernel
theorem dX8_readNet_54 : decode cX8_readNet 54 = .ok (.invokevirtual 83, 3) := by decide +kernel
theorem dX8_readNet_57 : decode cX8_readNet 57 = .ok (.istore_n 1, 1) := by decide +kernel
theorem dX8_readNet_58 : decode cX8_readNet 58 = .ok (.iload_n 1, 1) := by decide +kernel
theorem dX8_readNet_59 : decode cX8_readNet 59 = .ok (.iconst 1, 1) := by decide +kernel
theorem dX8_readNet_60 : decode cX8_readNet 60 = .ok (.if_icmp .ge 5, 3) := by decide +kernel
theorem dX8_readNet_63 : decode cX8_readNet 63 = .ok (.iconst 1, 1) := by decide +kernel
theorem dX8_readNet_64 : decode cX8_readNet 64 = .ok (.ireturn, 1) := by decide +kernel
theorem dX8_readNet_65 : decode cX8_readNet 65 = .ok (.aload_n 0, 1) := by decide +kernel
theorem dX8_readNet_66 : decode cX8_readNet 66 = .ok (.getfield 13, 3) := by decide +kernel
theorem dX8_readNet_69 : decode cX8_readNet 69 = .ok (.iconst 0, 1) := by decide +kernel
theorem dX8_readNet_70 : decode cX8_readNet 70 = .ok (.iload_n 1, 1) := by decide +kernel
theorem dX8_readNet_71 : decode cX8_readNet 71 = .ok (.iastore, 1) := by decide +kernel
theorem dX8_readNet_72 : decode cX8_readNet 72 = .ok (.aload_n 0, 1) := by decide +kernel
theorem dX8_readNet_73 : decode cX8_readNet 73 = .ok (.getfield 76, 3) := by decide +kernel
theorem dX8_readNet_76 : decode cX8_readNet 76 = .ok (.aload_n 0, 1) := by decide +kernel
theorem dX8_readNet_77 : decode cX8_readNet 77 = .ok (.getfield 73, 3) := by decide +kernel
theorem dX8_readNet_80 : decode cX8_readNet 80 = .ok (.if_icmp .ge 15, 3) := by decide +kernel
theorem dX8_readNet_83 : decode cX8_readNet 83 = .ok (.aload_n 0, 1) := by decide +kernel
theorem dX8_readNet_84 : decode cX8_readNet 84 = .ok (.invokevirtual 94, 3) := by decide +kernel
theorem dX8_readNet_87 : decode cX8_readNet 87 = .ok (.ifCond .ne (-15), 3) := by decide +kernel
theorem dX8_readNet_90 : decode cX8_readNet 90 = .ok (.aload_n 0, 1) := by decide +kernel
theorem dX8_readNet_91 : decode cX8_readNet 91 = .ok (.getfield 76, 3) := by decide +kernel
theorem dX8_readNet_94 : decode cX8_readNet 94 = .ok (.ireturn, 1) := by decide +kernel
theorem dX8_readNet_95 : decode cX8_readNet 95 = .ok (.bipush (-9), 2) := by decide +kernel
theorem dX8_readNet_97 : decode cX8_readNet 97 = .ok (.ireturn, 1) := by decide +kernel
theorem dX8_fault_0 : decode cX8_fault 0 = .ok (.aload_n 0, 1) := by decide +kernel
theorem dX8_fault_1 : decode cX8_fault 1 = .ok (.iconst 0, 1) := by decide +kernel
theorem dX8_fault_2 : decode cX8_fault 2 = .ok (.putfield 59, 3) := by decide +kernel
theorem dX8_fault_5 : decode cX8_fault 5 = .ok (.aload_n 0, 1) := by decide +kernel
theorem dX8_fault_6 : decode cX8_fault 6 = .ok (.invokevirtual 98, 3) := by decide +kernel
theorem dX8_fault_9 : decode cX8_fault 9 = .ok (.ireturn, 1) := by decide +kernel
theorem dX8_waits_0 : decode cX8_waits 0 = .ok (.iconst 0, 1) := by decide +kernel
theorem dX8_waits_1 : decode cX8_waits 1 = .ok (.istore_n 1, 1) := by decide +kernel
theorem dX8_waits_2 : decode cX8_waits 2 = .ok (.iconst 1, 1) := by decide +kernel
theorem dX8_waits_3 : decode cX8_waits 3 = .ok (.istore_n 2, 1) := by decide +kernel
theorem dX8_waits_4 : decode cX8_waits 4 = .ok (.iload_n 2, 1) := by decide +kernel
theorem dX8_waits_5 : decode cX8_waits 5 = .ok (.bipush 37, 2) := by decide +kernel
theorem dX8_waits_7 : decode cX8_waits 7 = .ok (.if_icmp .ge 23, 3) := by decide +kernel
theorem dX8_waits_10 : decode cX8_waits 10 = .ok (.iload_n 1, 1) := by decide +kernel
theorem dX8_waits_11 : decode cX8_waits 11 = .ok (.aload_n 0, 1) := by decide +kernel
theorem dX8_waits_12 : decode cX8_waits 12 = .ok (.iload_n 2, 1) := by decide +kernel
theorem dX8_waits_13 : decode cX8_waits 13 = .ok (.iaload, 1) := by decide +kernel
theorem dX8_waits_14 : decode cX8_waits 14 = .ok (.ifCond .le 7, 3) := by decide +kernel
theorem dX8_waits_17 : decode cX8_waits 17 = .ok (.iconst 1, 1) := by decide +kernel
theorem dX8_waits_18 : decode cX8_waits 18 = .ok (.goto 4, 3) := by decide +kernel
theorem dX8_waits_21 : decode cX8_waits 21 = .ok (.iconst 0, 1) := by decide +kernel
theorem dX8_waits_22 : decode cX8_waits 22 = .ok (.iadd, 1) := by decide +kernel
theorem dX8_waits_23 : decode cX8_waits 23 = .ok (.istore_n 1, 1) := by decide +kernel
theorem dX8_waits_24 : decode cX8_waits 24 = .ok (.iinc 2 1, 3) := by decide +kernel
theorem dX8_waits_27 : decode cX8_waits 27 = .ok (.goto (-23), 3) := by decide +kernel
theorem dX8_waits_30 : decode cX8_waits 30 = .ok (.iload_n 1, 1) := by decide +kernel
theorem dX8_waits_31 : decode cX8_waits 31 = .ok (.ireturn, 1) := by decide +kernel
theorem dX8_net_0 : decode cX8_net 0 = .ok (.aload_n 0, 1) := by decide +kernel
theorem dX8_net_1 : decode cX8_net 1 = .ok (.iconst 0, 1) := by decide +kernel
theorem dX8_net_2 : decode cX8_net 2 = .ok (.putfield 59, 3) := by decide +kernel
theorem dX8_net_5 : decode cX8_net 5 = .ok (.aload_n 0, 1) := by decide +kernel
theorem dX8_net_6 : decode cX8_net 6 = .ok (.invokevirtual 98, 3) := by decide +kernel
theorem dX8_net_9 : decode cX8_net 9 = .ok (.bipush (-9), 2) := by decide +kernel
theorem dX8_net_11 : decode cX8_net 11 = .ok (.if_icmp .eq 6, 3) := by decide +kernel
theorem dX8_net_14 : decode cX8_net 14 = .ok (.bipush (-3), 2) := by decide +kernel
theorem dX8_net_16 : decode cX8_net 16 = .ok (.ireturn, 1) := by decide +kernel
theorem dX8_net_17 : decode cX8_net 17 = .ok (.iconst 0, 1) := by decide +kernel
theorem dX8_net_18 : decode cX8_net 18 = .ok (.istore_n 1, 1) := by decide +kernel
theorem dX8_net_19 : decode cX8_net 19 = .ok (.iload_n 1, 1) := by decide +kernel
theorem dX8_net_20 : decode cX8_net 20 = .ok (.bipush 37, 2) := by decide +kernel
theorem dX8_net_22 : decode cX8_net 22 = .ok (.if_icmp .ge 21, 3) := by decide +kernel
theorem dX8_net_25 : decode cX8_net 25 = .ok (.aload_n 0, 1) := by decide +kernel
theorem dX8_net_26 : decode cX8_net 26 = .ok (.getfield 16, 3) := by decide +kernel
theorem dX8_net_29 : decode cX8_net 29 = .ok (.iload_n 1, 1) := by decide +kernel
theorem dX8_net_30 : decode cX8_net 30 = .ok (.aload_n 0, 1) := by decide +kernel
theorem dX8_net_31 : decode cX8_net 31 = .ok (.getfield 13, 3) := by decide +kernel
theorem dX8_net_34 : decode cX8_net 34 = .ok (.iload_n 1, 1) := by decide +kernel
theorem dX8_net_35 : decode cX8_net 35 = .ok (.iaload, 1) := by decide +kernel
theorem dX8_net_36 : decode cX8_net 36 = .ok (.iastore, 1) := by decide +kernel
theorem dX8_net_37 : decode cX8_net 37 = .ok (.iinc 1 1, 3) := by decide +kernel
theorem dX8_net_40 : decode cX8_net 40 = .ok (.goto (-21), 3) := by decide +kernel
theorem dX8_net_43 : decode cX8_net 43 = .ok (.aload_n 0, 1) := by decide +kernel
theorem dX8_net_44 : decode cX8_net 44 = .ok (.iconst 0, 1) := by decide +kernel
theorem dX8_net_45 : decode cX8_net 45 = .ok (.putfield 102, 3) := by decide +kernel
theorem dX8_net_48 : decode cX8_net 48 = .ok (.aload_n 0, 1) := by decide +kernel
theorem dX8_net_49 : decode cX8_net 49 = .ok (.getfield 28, 3) := by decide +kernel
theorem dX8_net_52 : decode cX8_net 52 = .ok (.iconst 0, 1) := by decide +kernel
theorem dX8_net_53 : decode cX8_net 53 = .ok (.iconst 0, 1) := by decide +kernel
theorem dX8_net_54 : decode cX8_net 54 = .ok (.bastore, 1) := by decide +kernel
theorem dX8_net_55 : decode cX8_net 55 = .ok (.aload_n 0, 1) := by decide +kernel
theorem dX8_net_56 : decode cX8_net 56 = .ok (.getfield 28, 3) := by decide +kernel
theorem dX8_net_59 : decode cX8_net 59 = .ok (.iconst 1, 1) := by decide +kernel
theorem dX8_net_60 : decode cX8_net 60 = .ok (.iconst 0, 1) := by decide +kernel
theorem dX8_net_61 : decode cX8_net 61 = .ok (.bastore, 1) := by decide +kernel
theorem dX8_net_62 : decode cX8_net 62 = .ok (.aload_n 0, 1) := by decide +kernel
theorem dX8_net_63 : decode cX8_net 63 = .ok (.getfield 16, 3) := by decide +kernel
theorem dX8_net_66 : decode cX8_net 66 = .ok (.invokestatic 105, 3) := by decide +kernel
theorem dX8_net_69 : decode cX8_net 69 = .ok (.ireturn, 1) := by decide +kernel
theorem dX8_closeRing_0 : decode cX8_closeRing 0 = .ok (.iconst 0, 1) := by decide +kernel
theorem dX8_closeRing_1 : decode cX8_closeRing 1 = .ok (.istore_n 3, 1) := by decide +kernel
theorem dX8_closeRing_2 : decode cX8_closeRing 2 = .ok (.lconst 0, 1) := by decide +kernel
theorem dX8_closeRing_3 : decode cX8_closeRing 3 = .ok (.lstore 4, 2) := by decide +kernel
theorem dX8_closeRing_5 : decode cX8_closeRing 5 = .ok (.iconst 0, 1) := by decide +kernel
theorem dX8_closeRing_6 : decode cX8_closeRing 6 = .ok (.istore 6, 2) := by decide +kernel
theorem dX8_closeRing_8 : decode cX8_closeRing 8 = .ok (.iconst 0, 1) := by decide +kernel
theorem dX8_closeRing_9 : decode cX8_closeRing 9 = .ok (.istore 7, 2) := by decide +kernel
theorem dX8_closeRing_11 : decode cX8_closeRing 11 = .ok (.iload 7, 2) := by decide +kernel
theorem dX8_closeRing_13 : decode cX8_closeRing 13 = .ok (.iload_n 2, 1) := by decide +kernel
theorem dX8_closeRing_14 : decode cX8_closeRing 14 = .ok (.if_icmp .ge 72, 3) := by decide +kernel
theorem dX8_closeRing_17 : decode cX8_closeRing 17 = .ok (.aload_n 0, 1) := by decide +kernel
theorem dX8_closeRing_18 : decode cX8_closeRing 18 = .ok (.getfield 41, 3) := by decide +kernel
theorem dX8_closeRing_21 : decode cX8_closeRing 21 = .ok (.iload 7, 2) := by decide +kernel
theorem dX8_closeRing_23 : decode cX8_closeRing 23 = .ok (.iconst 1, 1) := by decide +kernel
theorem dX8_closeRing_24 : decode cX8_closeRing 24 = .ok (.iadd, 1) := by decide +kernel
theorem dX8_closeRing_25 : decode cX8_closeRing 25 = .ok (.iload_n 2, 1) := by decide +kernel
theorem dX8_closeRing_26 : decode cX8_closeRing 26 = .ok (.irem, 1) := by decide +kernel
theorem dX8_closeRing_27 : decode cX8_closeRing 27 = .ok (.iaload, 1) := by decide +kernel
theorem dX8_closeRing_28 : decode cX8_closeRing 28 = .ok (.istore 8, 2) := by decide +kernel
theorem dX8_closeRing_30 : decode cX8_closeRing 30 = .ok (.iload_n 3, 1) := by decide +kernel
theorem dX8_closeRing_31 : decode cX8_closeRing 31 = .ok (.aload_n 1, 1) := by decide +kernel
theorem dX8_closeRing_32 : decode cX8_closeRing 32 = .ok (.aload_n 0, 1) := by decide +kernel
theorem dX8_closeRing_33 : decode cX8_closeRing 33 = .ok (.getfield 41, 3) := by decide +kernel
theorem dX8_closeRing_36 : decode cX8_closeRing 36 = .ok (.iload 7, 2) := by decide +kernel
theorem dX8_closeRing_38 : decode cX8_closeRing 38 = .ok (.iaload, 1) := by decide +kernel
theorem dX8_closeRing_39 : decode cX8_closeRing 39 = .ok (.iload 8, 2) := by decide +kernel
theorem dX8_closeRing_41 : decode cX8_closeRing 41 = .ok (.invokestatic 67, 3) := by decide +kernel
theorem dX8_closeRing_44 : decode cX8_closeRing 44 = .ok (.iadd, 1) := by decide +kernel
theorem dX8_closeRing_45 : decode cX8_closeRing 45 = .ok (.istore_n 3, 1) := by decide +kernel
theorem dX8_closeRing_46 : decode cX8_closeRing 46 = .ok (.lload 4, 2) := by decide +kernel
theorem dX8_closeRing_48 : decode cX8_closeRing 48 = .ok (.lconst 1, 1) := by decide +kernel
theorem dX8_closeRing_49 : decode cX8_closeRing 49 = .ok (.bipush 6, 2) := by decide +kernel
theorem dX8_closeRing_51 : decode cX8_closeRing 51 = .ok (.aload_n 0, 1) := by decide +kernel
theorem dX8_closeRing_52 : decode cX8_closeRing 52 = .ok (.getfield 41, 3) := by decide +kernel
theorem dX8_closeRing_55 : decode cX8_closeRing 55 = .ok (.iload 7, 2) := by decide +kernel
theorem dX8_closeRing_57 : decode cX8_closeRing 57 = .ok (.iaload, 1) := by decide +kernel
theorem dX8_closeRing_58 : decode cX8_closeRing 58 = .ok (.imul, 1) := by decide +kernel
theorem dX8_closeRing_59 : decode cX8_closeRing 59 = .ok (.iload 8, 2) := by decide +kernel
theorem dX8_closeRing_61 : decode cX8_closeRing 61 = .ok (.iadd, 1) := by decide +kernel
theorem dX8_closeRing_62 : decode cX8_closeRing 62 = .ok (.lshl, 1) := by decide +kernel
theorem dX8_closeRing_63 : decode cX8_closeRing 63 = .ok (.lor, 1) := by decide +kernel
theorem dX8_closeRing_64 : decode cX8_closeRing 64 = .ok (.lstore 4, 2) := by decide +kernel
theorem dX8_closeRing_66 : decode cX8_closeRing 66 = .ok (.iload 6, 2) := by decide +kernel
theorem dX8_closeRing_68 : decode cX8_closeRing 68 = .ok (.iconst 1, 1) := by decide +kernel
theorem dX8_closeRing_69 : decode cX8_closeRing 69 = .ok (.aload_n 0, 1) := by decide +kernel
theorem dX8_closeRing_70 : decode cX8_closeRing 70 = .ok (.getfield 41, 3) := by decide +kernel
theorem dX8_closeRing_73 : decode cX8_closeRing 73 = .ok (.iload 7, 2) := by decide +kernel
theorem dX8_closeRing_75 : decode cX8_closeRing 75 = .ok (.iaload, 1) := by decide +kernel
theorem dX8_closeRing_76 : decode cX8_closeRing 76 = .ok (.ishl, 1) := by decide +kernel
theorem dX8_closeRing_77 : decode cX8_closeRing 77 = .ok (.ior, 1) := by decide +kernel
theorem dX8_closeRing_78 : decode cX8_closeRing 78 = .ok (.istore 6, 2) := by decide +kernel
theorem dX8_closeRing_80 : decode cX8_closeRing 80 = .ok (.iinc 7 1, 3) := by decide +kernel
theorem dX8_closeRing_83 : decode cX8_closeRing 83 = .ok (.goto (-72), 3) := by decide +kernel
theorem dX8_closeRing_86 : decode cX8_closeRing 86 = .ok (.aload_n 0, 1) := by decide +kernel
theorem dX8_closeRing_87 : decode cX8_closeRing 87 = .ok (.dup, 1) := by decide +kernel
theorem dX8_closeRing_88 : decode cX8_closeRing 88 = .ok (.getfield 109, 3) := by decide +kernel
theorem dX8_closeRing_91 : decode cX8_closeRing 91 = .ok (.iconst 1, 1) := by decide +kernel
theorem dX8_closeRing_92 : decode cX8_closeRing 92 = .ok (.iadd, 1) := by decide +kernel
theorem dX8_closeRing_93 : decode cX8_closeRing 93 = .ok (.putfield 109, 3) := by decide +kernel
theorem dX8_closeRing_96 : decode cX8_closeRing 96 = .ok (.aload_n 0, 1) := by decide +kernel
theorem dX8_closeRing_97 : decode cX8_closeRing 97 = .ok (.dup, 1) := by decide +kernel
theorem dX8_closeRing_98 : decode cX8_closeRing 98 = .ok (.getfield 112, 3) := by decide +kernel
theorem dX8_closeRing_101 : decode cX8_closeRing 101 = .ok (.lload 4, 2) := by decide +kernel
theorem dX8_closeRing_103 : decode cX8_closeRing 103 = .ok (.lor, 1) := by decide +kernel
theorem dX8_closeRing_104 : decode cX8_closeRing 104 = .ok (.putfield 112, 3) := by decide +kernel
theorem dX8_closeRing_107 : decode cX8_closeRing 107 = .ok (.aload_n 0, 1) := by decide +kernel
theorem dX8_closeRing_108 : decode cX8_closeRing 108 = .ok (.getfield 116, 3) := by decide +kernel
theorem dX8_closeRing_111 : decode cX8_closeRing 111 = .ok (.ifCond .eq 18, 3) := by decide +kernel
theorem dX8_closeRing_114 : decode cX8_closeRing 114 = .ok (.iload_n 3, 1) := by decide +kernel
theorem dX8_closeRing_115 : decode cX8_closeRing 115 = .ok (.aload_n 0, 1) := by decide +kernel
theorem dX8_closeRing_116 : decode cX8_closeRing 116 = .ok (.getfield 116, 3) := by decide +kernel
theorem dX8_closeRing_119 : decode cX8_closeRing 119 = .ok (.imul, 1) := by decide +kernel
theorem dX8_closeRing_120 : decode cX8_closeRing 120 = .ok (.aload_n 0, 1) := by decide +kernel
theorem dX8_closeRing_121 : decode cX8_closeRing 121 = .ok (.getfield 119, 3) := by decide +kernel
theorem dX8_closeRing_124 : decode cX8_closeRing 124 = .ok (.iload_n 2, 1) := by decide +kernel
theorem dX8_closeRing_125 : decode cX8_closeRing 125 = .ok (.imul, 1) := by decide +kernel
theorem dX8_closeRing_126 : decode cX8_closeRing 126 = .ok (.if_icmp .le 7, 3) := by decide +kernel
theorem dX8_closeRing_129 : decode cX8_closeRing 129 = .ok (.iconst 1, 1) := by decide +kernel
theorem dX8_closeRing_130 : decode cX8_closeRing 130 = .ok (.goto 4, 3) := by decide +kernel
theorem dX8_closeRing_133 : decode cX8_closeRing 133 = .ok (.iconst 0, 1) := by decide +kernel
theorem dX8_closeRing_134 : decode cX8_closeRing 134 = .ok (.istore 7, 2) := by decide +kernel
theorem dX8_closeRing_136 : decode cX8_closeRing 136 = .ok (.iload 7, 2) := by decide +kernel
theorem dX8_closeRing_138 : decode cX8_closeRing 138 = .ok (.ifCond .eq 23, 3) := by decide +kernel
theorem dX8_closeRing_141 : decode cX8_closeRing 141 = .ok (.aload_n 0, 1) := by decide +kernel
theorem dX8_closeRing_142 : decode cX8_closeRing 142 = .ok (.iload_n 3, 1) := by decide +kernel
theorem dX8_closeRing_143 : decode cX8_closeRing 143 = .ok (.putfield 119, 3) := by decide +kernel
theorem dX8_closeRing_146 : decode cX8_closeRing 146 = .ok (.aload_n 0, 1) := by decide +kernel
theorem dX8_closeRing_147 : decode cX8_closeRing 147 = .ok (.iload_n 2, 1) := by decide +kernel
theorem dX8_closeRing_148 : decode cX8_closeRing 148 = .ok (.putfield 116, 3) := by decide +kernel
theorem dX8_closeRing_151 : decode cX8_closeRing 151 = .ok (.aload_n 0, 1) := by decide +kernel
theorem dX8_closeRing_152 : decode cX8_closeRing 152 = .ok (.lconst 0, 1) := by decide +kernel
theorem dX8_closeRing_153 : decode cX8_closeRing 153 = .ok (.putfield 122, 3) := by decide +kernel
theorem dX8_closeRing_156 : decode cX8_closeRing 156 = .ok (.aload_n 0, 1) := by decide +kernel
theorem dX8_closeRing_157 : decode cX8_closeRing 157 = .ok (.iconst 0, 1) := by decide +kernel
theorem dX8_closeRing_158 : decode cX8_closeRing 158 = .ok (.putfield 125, 3) := by decide +kernel
theorem dX8_closeRing_161 : decode cX8_closeRing 161 = .ok (.iload 7, 2) := by decide +kernel
theorem dX8_closeRing_163 : decode cX8_closeRing 163 = .ok (.ifCond .ne 18, 3) := by decide +kernel
theorem dX8_closeRing_166 : decode cX8_closeRing 166 = .ok (.iload_n 3, 1) := by decide +kernel
theorem dX8_closeRing_167 : decode cX8_closeRing 167 = .ok (.aload_n 0, 1) := by decide +kernel
theorem dX8_closeRing_168 : decode cX8_closeRing 168 = .ok (.getfield 116, 3) := by decide +kernel
theorem dX8_closeRing_171 : decode cX8_closeRing 171 = .ok (.imul, 1) := by decide +kernel
theorem dX8_closeRing_172 : decode cX8_closeRing 172 = .ok (.aload_n 0, 1) := by decide +kernel
theorem dX8_closeRing_173 : decode cX8_closeRing 173 = .ok (.getfield 119, 3) := by decide +kernel
theorem dX8_closeRing_176 : decode cX8_closeRing 176 = .ok (.iload_n 2, 1) := by decide +kernel
theorem dX8_closeRing_177 : decode cX8_closeRing 177 = .ok (.imul, 1) := by decide +kernel
theorem dX8_closeRing_178 : decode cX8_closeRing 178 = .ok (.if_icmp .ne 25, 3) := by decide +kernel
theorem dX8_closeRing_181 : decode cX8_closeRing 181 = .ok (.aload_n 0, 1) := by decide +kernel
theorem dX8_closeRing_182 : decode cX8_closeRing 182 = .ok (.dup, 1) := by decide +kernel
theorem dX8_closeRing_183 : decode cX8_closeRing 183 = .ok (.getfield 122, 3) := by decide +kernel
theorem dX8_closeRing_186 : decode cX8_closeRing 186 = .ok (.lload 4, 2) := by decide +kernel
theorem dX8_closeRing_188 : decode cX8_closeRing 188 = .ok (.lor, 1) := by decide +kernel
theorem dX8_closeRing_189 : decode cX8_closeRing 189 = .ok (.putfield 122, 3) := by decide +kernel
theorem dX8_closeRing_192 : decode cX8_closeRing 192 = .ok (.aload_n 0, 1) := by decide +kernel
theorem dX8_closeRing_193 : decode cX8_closeRing 193 = .ok (.dup, 1) := by decide +kernel
theorem dX8_closeRing_194 : decode cX8_closeRing 194 = .ok (.getfield 125, 3) := by decide +kernel
theorem dX8_closeRing_197 : decode cX8_closeRing 197 = .ok (.iload 6, 2) := by decide +kernel
theorem dX8_closeRing_199 : decode cX8_closeRing 199 = .ok (.ior, 1) := by decide +kernel
theorem dX8_closeRing_200 : decode cX8_closeRing 200 = .ok (.putfield 125, 3) := by decide +kernel
theorem dX8_closeRing_203 : decode cX8_closeRing 203 = .ok (.return_, 1) := by decide +kernel
theorem dX8_isIn_0 : decode cX8_isIn 0 = .ok (.iconst 0, 1) := by decide +kernel
theorem dX8_isIn_1 : decode cX8_isIn 1 = .ok (.istore_n 3, 1) := by decide +kernel
theorem dX8_isIn_2 : decode cX8_isIn 2 = .ok (.iconst 0, 1) := by decide +kernel
theorem dX8_isIn_3 : decode cX8_isIn 3 = .ok (.istore 4, 2) := by decide +kernel
theorem dX8_isIn_5 : decode cX8_isIn 5 = .ok (.iload 4, 2) := by decide +kernel
theorem dX8_isIn_7 : decode cX8_isIn 7 = .ok (.iload_n 1, 1) := by decide +kernel
theorem dX8_isIn_8 : decode cX8_isIn 8 = .ok (.if_icmp .ge 27, 3) := by decide +kernel
theorem dX8_isIn_11 : decode cX8_isIn 11 = .ok (.iload_n 3, 1) := by decide +kernel
theorem dX8_isIn_12 : decode cX8_isIn 12 = .ok (.ifCond .ne 11, 3) := by decide +kernel
theorem dX8_isIn_15 : decode cX8_isIn 15 = .ok (.aload_n 0, 1) := by decide +kernel
theorem dX8_isIn_16 : decode cX8_isIn 16 = .ok (.iload 4, 2) := by decide +kernel
theorem dX8_isIn_18 : decode cX8_isIn 18 = .ok (.iaload, 1) := by decide +kernel
theorem dX8_isIn_19 : decode cX8_isIn 19 = .ok (.iload_n 2, 1) := by decide +kernel
theorem dX8_isIn_20 : decode cX8_isIn 20 = .ok (.if_icmp .ne 7, 3) := by decide +kernel
theorem dX8_isIn_23 : decode cX8_isIn 23 = .ok (.iconst 1, 1) := by decide +kernel
theorem dX8_isIn_24 : decode cX8_isIn 24 = .ok (.goto 4, 3) := by decide +kernel
theorem dX8_isIn_27 : decode cX8_isIn 27 = .ok (.iconst 0, 1) := by decide +kernel
theorem dX8_isIn_28 : decode cX8_isIn 28 = .ok (.istore_n 3, 1) := by decide +kernel
theorem dX8_isIn_29 : decode cX8_isIn 29 = .ok (.iinc 4 1, 3) := by decide +kernel
theorem dX8_isIn_32 : decode cX8_isIn 32 = .ok (.goto (-27), 3) := by decide +kernel
theorem dX8_isIn_35 : decode cX8_isIn 35 = .ok (.iload_n 3, 1) := by decide +kernel
theorem dX8_isIn_36 : decode cX8_isIn 36 = .ok (.ireturn, 1) := by decide +kernel
theorem dX8_ringsFrom_0 : decode cX8_ringsFrom 0 = .ok (.aload_n 0, 1) := by decide +kernel
theorem dX8_ringsFrom_1 : decode cX8_ringsFrom 1 = .ok (.getfield 41, 3) := by decide +kernel
theorem dX8_ringsFrom_4 : decode cX8_ringsFrom 4 = .ok (.iconst 0, 1) := by decide +kernel
theorem dX8_ringsFrom_5 : decode cX8_ringsFrom 5 = .ok (.iload_n 2, 1) := by decide +kernel
theorem dX8_ringsFrom_6 : decode cX8_ringsFrom 6 = .ok (.iastore, 1) := by decide +kernel
theorem dX8_ringsFrom_7 : decode cX8_ringsFrom 7 = .ok (.aload_n 0, 1) := by decide +kernel
theorem dX8_ringsFrom_8 : decode cX8_ringsFrom 8 = .ok (.getfield 44, 3) := by decide +kernel
theorem dX8_ringsFrom_11 : decode cX8_ringsFrom 11 = .ok (.iconst 0, 1) := by decide +kernel
theorem dX8_ringsFrom_12 : decode cX8_ringsFrom 12 = .ok (.iload_n 2, 1) := by decide +kernel
theorem dX8_ringsFrom_13 : decode cX8_ringsFrom 13 = .ok (.iastore, 1) := by decide +kernel
theorem dX8_ringsFrom_14 : decode cX8_ringsFrom 14 = .ok (.iconst 1, 1) := by decide +kernel
theorem dX8_ringsFrom_15 : decode cX8_ringsFrom 15 = .ok (.istore 4, 2) := by decide +kernel
theorem dX8_ringsFrom_17 : decode cX8_ringsFrom 17 = .ok (.iload 4, 2) := by decide +kernel
theorem dX8_ringsFrom_19 : decode cX8_ringsFrom 19 = .ok (.ifCond .le 136, 3) := by decide +kernel
theorem dX8_ringsFrom_22 : decode cX8_ringsFrom 22 = .ok (.aload_n 0, 1) := by decide +kernel
theorem dX8_ringsFrom_23 : decode cX8_ringsFrom 23 = .ok (.getfield 41, 3) := by decide +kernel
theorem dX8_ringsFrom_26 : decode cX8_ringsFrom 26 = .ok (.iload 4, 2) := by decide +kernel
theorem dX8_ringsFrom_28 : decode cX8_ringsFrom 28 = .ok (.iconst 1, 1) := by decide +kernel
theorem dX8_ringsFrom_29 : decode cX8_ringsFrom 29 = .ok (.isub, 1) := by decide +kernel
theorem dX8_ringsFrom_30 : decode cX8_ringsFrom 30 = .ok (.iaload, 1) := by decide +kernel
theorem dX8_ringsFrom_31 : decode cX8_ringsFrom 31 = .ok (.istore 5, 2) := by decide +kernel
theorem dX8_ringsFrom_33 : decode cX8_ringsFrom 33 = .ok (.aload_n 0, 1) := by decide +kernel
theorem dX8_ringsFrom_34 : decode cX8_ringsFrom 34 = .ok (.getfield 44, 3) := by decide +kernel
theorem dX8_ringsFrom_37 : decode cX8_ringsFrom 37 = .ok (.iload 4, 2) := by decide +kernel
theorem dX8_ringsFrom_39 : decode cX8_ringsFrom 39 = .ok (.iconst 1, 1) := by decide +kernel
theorem dX8_ringsFrom_40 : decode cX8_ringsFrom 40 = .ok (.isub, 1) := by decide +kernel
theorem dX8_ringsFrom_41 : decode cX8_ringsFrom 41 = .ok (.iaload, 1) := by decide +kernel
theorem dX8_ringsFrom_42 : decode cX8_ringsFrom 42 = .ok (.istore 6, 2) := by decide +kernel
theorem dX8_ringsFrom_44 : decode cX8_ringsFrom 44 = .ok (.aload_n 0, 1) := by decide +kernel
theorem dX8_ringsFrom_45 : decode cX8_ringsFrom 45 = .ok (.getfield 44, 3) := by decide +kernel
theorem dX8_ringsFrom_48 : decode cX8_ringsFrom 48 = .ok (.iload 4, 2) := by decide +kernel
theorem dX8_ringsFrom_50 : decode cX8_ringsFrom 50 = .ok (.iconst 1, 1) := by decide +kernel
theorem dX8_ringsFrom_51 : decode cX8_ringsFrom 51 = .ok (.isub, 1) := by decide +kernel
theorem dX8_ringsFrom_52 : decode cX8_ringsFrom 52 = .ok (.dup2, 1) := by decide +kernel
theorem dX8_ringsFrom_53 : decode cX8_ringsFrom 53 = .ok (.iaload, 1) := by decide +kernel
theorem dX8_ringsFrom_54 : decode cX8_ringsFrom 54 = .ok (.iconst 1, 1) := by decide +kernel
theorem dX8_ringsFrom_55 : decode cX8_ringsFrom 55 = .ok (.iadd, 1) := by decide +kernel
theorem dX8_ringsFrom_56 : decode cX8_ringsFrom 56 = .ok (.iastore, 1) := by decide +kernel
theorem dX8_ringsFrom_57 : decode cX8_ringsFrom 57 = .ok (.iload 6, 2) := by decide +kernel
theorem dX8_ringsFrom_59 : decode cX8_ringsFrom 59 = .ok (.aload_n 1, 1) := by decide +kernel
theorem dX8_ringsFrom_60 : decode cX8_ringsFrom 60 = .ok (.iconst 0, 1) := by decide +kernel
theorem dX8_ringsFrom_61 : decode cX8_ringsFrom 61 = .ok (.iaload, 1) := by decide +kernel
theorem dX8_ringsFrom_62 : decode cX8_ringsFrom 62 = .ok (.if_icmp .lt 9, 3) := by decide +kernel
theorem dX8_ringsFrom_65 : decode cX8_ringsFrom 65 = .ok (.iinc 4 (-1), 3) := by decide +kernel
theorem dX8_ringsFrom_68 : decode cX8_ringsFrom 68 = .ok (.goto 84, 3) := by decide +kernel
theorem dX8_ringsFrom_71 : decode cX8_ringsFrom 71 = .ok (.iload 6, 2) := by decide +kernel
theorem dX8_ringsFrom_73 : decode cX8_ringsFrom 73 = .ok (.iload_n 2, 1) := by decide +kernel
theorem dX8_ringsFrom_74 : decode cX8_ringsFrom 74 = .ok (.if_icmp .ne 24, 3) := by decide +kernel
theorem dX8_ringsFrom_77 : decode cX8_ringsFrom 77 = .ok (.aload_n 1, 1) := by decide +kernel
theorem dX8_ringsFrom_78 : decode cX8_ringsFrom 78 = .ok (.iload 5, 2) := by decide +kernel
theorem dX8_ringsFrom_80 : decode cX8_ringsFrom 80 = .ok (.iload 6, 2) := by decide +kernel
theorem dX8_ringsFrom_82 : decode cX8_ringsFrom 82 = .ok (.invokestatic 79, 3) := by decide +kernel
theorem dX8_ringsFrom_85 : decode cX8_ringsFrom 85 = .ok (.ifCond .eq 13, 3) := by decide +kernel
theorem dX8_ringsFrom_88 : decode cX8_ringsFrom 88 = .ok (.aload_n 0, 1) := by decide +kernel
theorem dX8_ringsFrom_89 : decode cX8_ringsFrom 89 = .ok (.aload_n 1, 1) := by decide +kernel
theorem dX8_ringsFrom_90 : decode cX8_ringsFrom 90 = .ok (.iload 4, 2) := by decide +kernel
theorem dX8_ringsFrom_92 : decode cX8_ringsFrom 92 = .ok (.invokevirtual 128, 3) := by decide +kernel
theorem dX8_ringsFrom_95 : decode cX8_ringsFrom 95 = .ok (.goto 57, 3) := by decide +kernel
theorem dX8_ringsFrom_98 : decode cX8_ringsFrom 98 = .ok (.aload_n 1, 1) := by decide +kernel
theorem dX8_ringsFrom_99 : decode cX8_ringsFrom 99 = .ok (.iload 5, 2) := by decide +kernel
theorem dX8_ringsFrom_101 : decode cX8_ringsFrom 101 = .ok (.iload 6, 2) := by decide +kernel
theorem dX8_ringsFrom_103 : decode cX8_ringsFrom 103 = .ok (.invokestatic 79, 3) := by decide +kernel
theorem dX8_ringsFrom_106 : decode cX8_ringsFrom 106 = .ok (.ifCond .eq 46, 3) := by decide +kernel
theorem dX8_ringsFrom_109 : decode cX8_ringsFrom 109 = .ok (.iload_n 3, 1) := by decide +kernel
theorem dX8_ringsFrom_110 : decode cX8_ringsFrom 110 = .ok (.iload 6, 2) := by decide +kernel
theorem dX8_ringsFrom_112 : decode cX8_ringsFrom 112 = .ok (.invokestatic 132, 3) := by decide +kernel
theorem dX8_ringsFrom_115 : decode cX8_ringsFrom 115 = .ok (.ifCond .eq 37, 3) := by decide +kernel
theorem dX8_ringsFrom_118 : decode cX8_ringsFrom 118 = .ok (.aload_n 0, 1) := by decide +kernel
theorem dX8_ringsFrom_119 : decode cX8_ringsFrom 119 = .ok (.getfield 41, 3) := by decide +kernel
theorem dX8_ringsFrom_122 : decode cX8_ringsFrom 122 = .ok (.iload 4, 2) := by decide +kernel
theorem dX8_ringsFrom_124 : decode cX8_ringsFrom 124 = .ok (.iload 6, 2) := by decide +kernel
theorem dX8_ringsFrom_126 : decode cX8_ringsFrom 126 = .ok (.invokestatic 136, 3) := by decide +kernel
theorem dX8_ringsFrom_129 : decode cX8_ringsFrom 129 = .ok (.ifCond .ne 23, 3) := by decide +kernel
theorem dX8_ringsFrom_132 : decode cX8_ringsFrom 132 = .ok (.aload_n 0, 1) := by decide +kernel
theorem dX8_ringsFrom_133 : decode cX8_ringsFrom 133 = .ok (.getfield 41, 3) := by decide +kernel
theorem dX8_ringsFrom_136 : decode cX8_ringsFrom 136 = .ok (.iload 4, 2) := by decide +kernel
theorem dX8_ringsFrom_138 : decode cX8_ringsFrom 138 = .ok (.iload 6, 2) := by decide +kernel
theorem dX8_ringsFrom_140 : decode cX8_ringsFrom 140 = .ok (.iastore, 1) := by decide +kernel
theorem dX8_ringsFrom_141 : decode cX8_ringsFrom 141 = .ok (.aload_n 0, 1) := by decide +kernel
theorem dX8_ringsFrom_142 : decode cX8_ringsFrom 142 = .ok (.getfield 44, 3) := by decide +kernel
theorem dX8_ringsFrom_145 : decode cX8_ringsFrom 145 = .ok (.iload 4, 2) := by decide +kernel
theorem dX8_ringsFrom_147 : decode cX8_ringsFrom 147 = .ok (.iload_n 2, 1) := by decide +kernel
theorem dX8_ringsFrom_148 : decode cX8_ringsFrom 148 = .ok (.iastore, 1) := by decide +kernel
theorem dX8_ringsFrom_149 : decode cX8_ringsFrom 149 = .ok (.iinc 4 1, 3) := by decide +kernel
theorem dX8_ringsFrom_152 : decode cX8_ringsFrom 152 = .ok (.goto (-135), 3) := by decide +kernel
theorem dX8_ringsFrom_155 : decode cX8_ringsFrom 155 = .ok (.return_, 1) := by decide +kernel
theorem dX8_findRings_0 : decode cX8_findRings 0 = .ok (.aload_n 0, 1) := by decide +kernel
theorem dX8_findRings_1 : decode cX8_findRings 1 = .ok (.iconst 0, 1) := by decide +kernel
theorem dX8_findRings_2 : decode cX8_findRings 2 = .ok (.putfield 109, 3) := by decide +kernel
theorem dX8_findRings_5 : decode cX8_findRings 5 = .ok (.aload_n 0, 1) := by decide +kernel
theorem dX8_findRings_6 : decode cX8_findRings 6 = .ok (.iconst 0, 1) := by decide +kernel
theorem dX8_findRings_7 : decode cX8_findRings 7 = .ok (.putfield 119, 3) := by decide +kernel
theorem dX8_findRings_10 : decode cX8_findRings 10 = .ok (.aload_n 0, 1) := by decide +kernel
theorem dX8_findRings_11 : decode cX8_findRings 11 = .ok (.iconst 0, 1) := by decide +kernel
theorem dX8_findRings_12 : decode cX8_findRings 12 = .ok (.putfield 116, 3) := by decide +kernel
theorem dX8_findRings_15 : decode cX8_findRings 15 = .ok (.aload_n 0, 1) := by decide +kernel
theorem dX8_findRings_16 : decode cX8_findRings 16 = .ok (.lconst 0, 1) := by decide +kernel
theorem dX8_findRings_17 : decode cX8_findRings 17 = .ok (.putfield 122, 3) := by decide +kernel
theorem dX8_findRings_20 : decode cX8_findRings 20 = .ok (.aload_n 0, 1) := by decide +kernel
theorem dX8_findRings_21 : decode cX8_findRings 21 = .ok (.iconst 0, 1) := by decide +kernel
theorem dX8_findRings_22 : decode cX8_findRings 22 = .ok (.putfield 125, 3) := by decide +kernel
theorem dX8_findRings_25 : decode cX8_findRings 25 = .ok (.aload_n 0, 1) := by decide +kernel
theorem dX8_findRings_26 : decode cX8_findRings 26 = .ok (.lconst 0, 1) := by decide +kernel
theorem dX8_findRings_27 : decode cX8_findRings 27 = .ok (.putfield 112, 3) := by decide +kernel
theorem dX8_findRings_30 : decode cX8_findRings 30 = .ok (.iconst 0, 1) := by decide +kernel
theorem dX8_findRings_31 : decode cX8_findRings 31 = .ok (.istore_n 3, 1) := by decide +kernel
theorem dX8_findRings_32 : decode cX8_findRings 32 = .ok (.iload_n 3, 1) := by decide +kernel
theorem dX8_findRings_33 : decode cX8_findRings 33 = .ok (.aload_n 1, 1) := by decide +kernel
theorem dX8_findRings_34 : decode cX8_findRings 34 = .ok (.iconst 0, 1) := by decide +kernel
theorem dX8_findRings_35 : decode cX8_findRings 35 = .ok (.iaload, 1) := by decide +kernel
theorem dX8_findRings_36 : decode cX8_findRings 36 = .ok (.if_icmp .ge 24, 3) := by decide +kernel
theorem dX8_findRings_39 : decode cX8_findRings 39 = .ok (.iload_n 2, 1) := by decide +kernel
theorem dX8_findRings_40 : decode cX8_findRings 40 = .ok (.iload_n 3, 1) := by decide +kernel
theorem dX8_findRings_41 : decode cX8_findRings 41 = .ok (.invokestatic 132, 3) := by decide +kernel
theorem dX8_findRings_44 : decode cX8_findRings 44 = .ok (.ifCond .eq 10, 3) := by decide +kernel
theorem dX8_findRings_47 : decode cX8_findRings 47 = .ok (.aload_n 0, 1) := by decide +kernel
theorem dX8_findRings_48 : decode cX8_findRings 48 = .ok (.aload_n 1, 1) := by decide +kernel
theorem dX8_findRings_49 : decode cX8_findRings 49 = .ok (.iload_n 3, 1) := by decide +kernel
theorem dX8_findRings_50 : decode cX8_findRings 50 = .ok (.iload_n 2, 1) := by decide +kernel
theorem dX8_findRings_51 : decode cX8_findRings 51 = .ok (.invokevirtual 139, 3) := by decide +kernel
theorem dX8_findRings_54 : decode cX8_findRings 54 = .ok (.iinc 3 1, 3) := by decide +kernel
theorem dX8_findRings_57 : decode cX8_findRings 57 = .ok (.goto (-25), 3) := by decide +kernel
theorem dX8_findRings_60 : decode cX8_findRings 60 = .ok (.return_, 1) := by decide +kernel
theorem dX8_find_0 : decode cX8_find 0 = .ok (.aload_n 0, 1) := by decide +kernel
theorem dX8_find_1 : decode cX8_find 1 = .ok (.aload_n 1, 1) := by decide +kernel
theorem dX8_find_2 : decode cX8_find 2 = .ok (.bipush 63, 2) := by decide +kernel
theorem dX8_find_4 : decode cX8_find 4 = .ok (.invokevirtual 143, 3) := by decide +kernel
theorem dX8_find_7 : decode cX8_find 7 = .ok (.return_, 1) := by decide +kernel
theorem dX8_isPeriod_0 : decode cX8_isPeriod 0 = .ok (.aload_n 0, 1) := by decide +kernel
theorem dX8_isPeriod_1 : decode cX8_isPeriod 1 = .ok (.aload_n 1, 1) := by decide +kernel
theorem dX8_isPeriod_2 : decode cX8_isPeriod 2 = .ok (.invokevirtual 146, 3) := by decide +kernel
theorem dX8_isPeriod_5 : decode cX8_isPeriod 5 = .ok (.aload_n 0, 1) := by decide +kernel
theorem dX8_isPeriod_6 : decode cX8_isPeriod 6 = .ok (.getfield 116, 3) := by decide +kernel
theorem dX8_isPeriod_9 : decode cX8_isPeriod 9 = .ok (.ifCond .eq 16, 3) := by decide +kernel
theorem dX8_isPeriod_12 : decode cX8_isPeriod 12 = .ok (.iload_n 2, 1) := by decide +kernel
theorem dX8_isPeriod_13 : decode cX8_isPeriod 13 = .ok (.aload_n 0, 1) := by decide +kernel
theorem dX8_isPeriod_14 : decode cX8_isPeriod 14 = .ok (.getfield 116, 3) := by decide +kernel
theorem dX8_isPeriod_17 : decode cX8_isPeriod 17 = .ok (.imul, 1) := by decide +kernel
theorem dX8_isPeriod_18 : decode cX8_isPeriod 18 = .ok (.aload_n 0, 1) := by decide +kernel
theorem dX8_isPeriod_19 : decode cX8_isPeriod 19 = .ok (.getfield 119, 3) := by decide +kernel
theorem dX8_isPeriod_22 : decode cX8_isPeriod 22 = .ok (.if_icmp .lt 7, 3) := by decide +kernel
theorem dX8_isPeriod_25 : decode cX8_isPeriod 25 = .ok (.iconst 1, 1) := by decide +kernel
theorem dX8_isPeriod_26 : decode cX8_isPeriod 26 = .ok (.goto 4, 3) := by decide +kernel
theorem dX8_isPeriod_29 : decode cX8_isPeriod 29 = .ok (.iconst 0, 1) := by decide +kernel
theorem dX8_isPeriod_30 : decode cX8_isPeriod 30 = .ok (.ireturn, 1) := by decide +kernel
theorem dX8_leastPeriod_0 : decode cX8_leastPeriod 0 = .ok (.iconst 0, 1) := by decide +kernel
theorem dX8_leastPeriod_1 : decode cX8_leastPeriod 1 = .ok (.istore_n 1, 1) := by decide +kernel
theorem dX8_leastPeriod_2 : decode cX8_leastPeriod 2 = .ok (.aload_n 0, 1) := by decide +kernel
theorem dX8_leastPeriod_3 : decode cX8_leastPeriod 3 = .ok (.aload_n 0, 1) := by decide +kernel
theorem dX8_leastPeriod_4 : decode cX8_leastPeriod 4 = .ok (.getfield 16, 3) := by decide +kernel
theorem dX8_leastPeriod_7 : decode cX8_leastPeriod 7 = .ok (.iload_n 1, 1) := by decide +kernel
theorem dX8_leastPeriod_8 : decode cX8_leastPeriod 8 = .ok (.invokevirtual 150, 3) := by decide +kernel
theorem dX8_leastPeriod_11 : decode cX8_leastPeriod 11 = .ok (.ifCond .ne 9, 3) := by decide +kernel
theorem dX8_leastPeriod_14 : decode cX8_leastPeriod 14 = .ok (.iinc 1 1, 3) := by decide +kernel
theorem dX8_leastPeriod_17 : decode cX8_leastPeriod 17 = .ok (.goto (-15), 3) := by decide +kernel
theorem dX8_leastPeriod_20 : decode cX8_leastPeriod 20 = .ok (.iload_n 1, 1) := by decide +kernel
theorem dX8_leastPeriod_21 : decode cX8_leastPeriod 21 = .ok (.ireturn, 1) := by decide +kernel
theorem dX8_about_0 : decode cX8_about 0 = .ok (.aload_n 0, 1) := by decide +kernel
theorem dX8_about_1 : decode cX8_about 1 = .ok (.iconst 0, 1) := by decide +kernel
theorem dX8_about_2 : decode cX8_about 2 = .ok (.putfield 59, 3) := by decide +kernel
theorem dX8_about_5 : decode cX8_about 5 = .ok (.aload_n 0, 1) := by decide +kernel
theorem dX8_about_6 : decode cX8_about 6 = .ok (.aload_n 0, 1) := by decide +kernel
theorem dX8_about_7 : decode cX8_about 7 = .ok (.getfield 16, 3) := by decide +kernel
theorem dX8_about_10 : decode cX8_about 10 = .ok (.invokevirtual 146, 3) := by decide +kernel
theorem dX8_about_13 : decode cX8_about 13 = .ok (.iload_n 1, 1) := by decide +kernel
theorem dX8_about_14 : decode cX8_about 14 = .ok (.tableswitch 123 0 9 #[54, 61, 69, 74, 90, 98, 103, 108, 113, 118], 54) := by decide +kernel
theorem dX8_about_68 : decode cX8_about 68 = .ok (.aload_n 0, 1) := by decide +kernel
theorem dX8_about_69 : decode cX8_about 69 = .ok (.getfield 16, 3) := by decide +kernel
theorem dX8_about_72 : decode cX8_about 72 = .ok (.iconst 0, 1) := by decide +kernel
theorem dX8_about_73 : decode cX8_about 73 = .ok (.iaload, 1) := by decide +kernel
theorem dX8_about_74 : decode cX8_about 74 = .ok (.ireturn, 1) := by decide +kernel
theorem dX8_about_75 : decode cX8_about 75 = .ok (.aload_n 0, 1) := by decide +kernel
theorem dX8_about_76 : decode cX8_about 76 = .ok (.getfield 16, 3) := by decide +kernel
theorem dX8_about_79 : decode cX8_about 79 = .ok (.invokestatic 105, 3) := by decide +kernel
theorem dX8_about_82 : decode cX8_about 82 = .ok (.ireturn, 1) := by decide +kernel
theorem dX8_about_83 : decode cX8_about 83 = .ok (.aload_n 0, 1) := by decide +kernel
theorem dX8_about_84 : decode cX8_about 84 = .ok (.getfield 109, 3) := by decide +kernel
theorem dX8_about_87 : decode cX8_about 87 = .ok (.ireturn, 1) := by decide +kernel
theorem dX8_about_88 : decode cX8_about 88 = .ok (.aload_n 0, 1) := by decide +kernel
theorem dX8_about_89 : decode cX8_about 89 = .ok (.getfield 16, 3) := by decide +kernel
theorem dX8_about_92 : decode cX8_about 92 = .ok (.invokestatic 105, 3) := by decide +kernel
theorem dX8_about_95 : decode cX8_about 95 = .ok (.aload_n 0, 1) := by decide +kernel
theorem dX8_about_96 : decode cX8_about 96 = .ok (.getfield 112, 3) := by decide +kernel
theorem dX8_about_99 : decode cX8_about 99 = .ok (.invokestatic 154, 3) := by decide +kernel
theorem dX8_about_102 : decode cX8_about 102 = .ok (.isub, 1) := by decide +kernel
theorem dX8_about_103 : decode cX8_about 103 = .ok (.ireturn, 1) := by decide +kernel
theorem dX8_about_104 : decode cX8_about 104 = .ok (.aload_n 0, 1) := by decide +kernel
theorem dX8_about_105 : decode cX8_about 105 = .ok (.getfield 122, 3) := by decide +kernel
theorem dX8_about_108 : decode cX8_about 108 = .ok (.invokestatic 154, 3) := by decide +kernel
theorem dX8_about_111 : decode cX8_about 111 = .ok (.ireturn, 1) := by decide +kernel
theorem dX8_about_112 : decode cX8_about 112 = .ok (.aload_n 0, 1) := by decide +kernel
theorem dX8_about_113 : decode cX8_about 113 = .ok (.getfield 125, 3) := by decide +kernel
theorem dX8_about_116 : decode cX8_about 116 = .ok (.ireturn, 1) := by decide +kernel
theorem dX8_about_117 : decode cX8_about 117 = .ok (.aload_n 0, 1) := by decide +kernel
theorem dX8_about_118 : decode cX8_about 118 = .ok (.invokevirtual 158, 3) := by decide +kernel
theorem dX8_about_121 : decode cX8_about 121 = .ok (.ireturn, 1) := by decide +kernel
theorem dX8_about_122 : decode cX8_about 122 = .ok (.aload_n 0, 1) := by decide +kernel
theorem dX8_about_123 : decode cX8_about 123 = .ok (.getfield 102, 3) := by decide +kernel
theorem dX8_about_126 : decode cX8_about 126 = .ok (.ireturn, 1) := by decide +kernel
theorem dX8_about_127 : decode cX8_about 127 = .ok (.aload_n 0, 1) := by decide +kernel
theorem dX8_about_128 : decode cX8_about 128 = .ok (.getfield 161, 3) := by decide +kernel
theorem dX8_about_131 : decode cX8_about 131 = .ok (.ireturn, 1) := by decide +kernel
theorem dX8_about_132 : decode cX8_about 132 = .ok (.aload_n 0, 1) := by decide +kernel
theorem dX8_about_133 : decode cX8_about 133 = .ok (.getfield 73, 3) := by decide +kernel
theorem dX8_about_136 : decode cX8_about 136 = .ok (.ireturn, 1) := by decide +kernel
theorem dX8_about_137 : decode cX8_about 137 = .ok (.bipush (-2), 2) := by decide +kernel
theorem dX8_about_139 : decode cX8_about 139 = .ok (.ireturn, 1) := by decide +kernel
theorem dX8_minutes_0 : decode cX8_minutes 0 = .ok (.aload_n 0, 1) := by decide +kernel
theorem dX8_minutes_1 : decode cX8_minutes 1 = .ok (.iconst 0, 1) := by decide +kernel
theorem dX8_minutes_2 : decode cX8_minutes 2 = .ok (.putfield 59, 3) := by decide +kernel
theorem dX8_minutes_5 : decode cX8_minutes 5 = .ok (.aload_n 0, 1) := by decide +kernel
theorem dX8_minutes_6 : decode cX8_minutes 6 = .ok (.iload_n 1, 1) := by decide +kernel
theorem dX8_minutes_7 : decode cX8_minutes 7 = .ok (.invokevirtual 164, 3) := by decide +kernel
theorem dX8_minutes_10 : decode cX8_minutes 10 = .ok (.ifCond .ne 11, 3) := by decide +kernel
theorem dX8_minutes_13 : decode cX8_minutes 13 = .ok (.aload_n 0, 1) := by decide +kernel
theorem dX8_minutes_14 : decode cX8_minutes 14 = .ok (.iload_n 2, 1) := by decide +kernel
theorem dX8_minutes_15 : decode cX8_minutes 15 = .ok (.invokevirtual 164, 3) := by decide +kernel
theorem dX8_minutes_18 : decode cX8_minutes 18 = .ok (.ifCond .eq 5, 3) := by decide +kernel
theorem dX8_minutes_21 : decode cX8_minutes 21 = .ok (.iconst (-1), 1) := by decide +kernel
theorem dX8_minutes_22 : decode cX8_minutes 22 = .ok (.ireturn, 1) := by decide +kernel
theorem dX8_minutes_23 : decode cX8_minutes 23 = .ok (.aload_n 0, 1) := by decide +kernel
theorem dX8_minutes_24 : decode cX8_minutes 24 = .ok (.getfield 16, 3) := by decide +kernel
theorem dX8_minutes_27 : decode cX8_minutes 27 = .ok (.iload_n 1, 1) := by decide +kernel
theorem dX8_minutes_28 : decode cX8_minutes 28 = .ok (.iload_n 2, 1) := by decide +kernel
theorem dX8_minutes_29 : decode cX8_minutes 29 = .ok (.invokestatic 79, 3) := by decide +kernel
theorem dX8_minutes_32 : decode cX8_minutes 32 = .ok (.ifCond .eq 15, 3) := by decide +kernel
theorem dX8_minutes_35 : decode cX8_minutes 35 = .ok (.aload_n 0, 1) := by decide +kernel
theorem dX8_minutes_36 : decode cX8_minutes 36 = .ok (.getfield 16, 3) := by decide +kernel
theorem dX8_minutes_39 : decode cX8_minutes 39 = .ok (.iload_n 1, 1) := by decide +kernel
theorem dX8_minutes_40 : decode cX8_minutes 40 = .ok (.iload_n 2, 1) := by decide +kernel
theorem dX8_minutes_41 : decode cX8_minutes 41 = .ok (.invokestatic 67, 3) := by decide +kernel
theorem dX8_minutes_44 : decode cX8_minutes 44 = .ok (.goto 5, 3) := by decide +kernel
theorem dX8_minutes_47 : decode cX8_minutes 47 = .ok (.bipush (-9), 2) := by decide +kernel
theorem dX8_minutes_49 : decode cX8_minutes 49 = .ok (.ireturn, 1) := by decide +kernel
theorem dX8_note_0 : decode cX8_note 0 = .ok (.aload_n 0, 1) := by decide +kernel
theorem dX8_note_1 : decode cX8_note 1 = .ok (.getfield 102, 3) := by decide +kernel
theorem dX8_note_4 : decode cX8_note 4 = .ok (.bipush 14, 2) := by decide +kernel
theorem dX8_note_6 : decode cX8_note 6 = .ok (.if_icmp .ne 43, 3) := by decide +kernel
theorem dX8_note_9 : decode cX8_note 9 = .ok (.iconst 0, 1) := by decide +kernel
theorem dX8_note_10 : decode cX8_note 10 = .ok (.istore_n 1, 1) := by decide +kernel
theorem dX8_note_11 : decode cX8_note 11 = .ok (.iload_n 1, 1) := by decide +kernel
theorem dX8_note_12 : decode cX8_note 12 = .ok (.sipush 481, 3) := by decide +kernel
theorem dX8_note_15 : decode cX8_note 15 = .ok (.if_icmp .ge 24, 3) := by decide +kernel
theorem dX8_note_18 : decode cX8_note 18 = .ok (.aload_n 0, 1) := by decide +kernel
theorem dX8_note_19 : decode cX8_note 19 = .ok (.getfield 22, 3) := by decide +kernel
theorem dX8_note_22 : decode cX8_note 22 = .ok (.iload_n 1, 1) := by decide +kernel
theorem dX8_note_23 : decode cX8_note 23 = .ok (.aload_n 0, 1) := by decide +kernel
theorem dX8_note_24 : decode cX8_note 24 = .ok (.getfield 22, 3) := by decide +kernel
theorem dX8_note_27 : decode cX8_note 27 = .ok (.iload_n 1, 1) := by decide +kernel
theorem dX8_note_28 : decode cX8_note 28 = .ok (.bipush 37, 2) := by decide +kernel
theorem dX8_note_30 : decode cX8_note 30 = .ok (.iadd, 1) := by decide +kernel
theorem dX8_note_31 : decode cX8_note 31 = .ok (.iaload, 1) := by decide +kernel
theorem dX8_note_32 : decode cX8_note 32 = .ok (.iastore, 1) := by decide +kernel
theorem dX8_note_33 : decode cX8_note 33 = .ok (.iinc 1 1, 3) := by decide +kernel
theorem dX8_note_36 : decode cX8_note 36 = .ok (.goto (-25), 3) := by decide +kernel
theorem dX8_note_39 : decode cX8_note 39 = .ok (.aload_n 0, 1) := by decide +kernel
theorem dX8_note_40 : decode cX8_note 40 = .ok (.dup, 1) := by decide +kernel
theorem dX8_note_41 : decode cX8_note 41 = .ok (.getfield 102, 3) := by decide +kernel
theorem dX8_note_44 : decode cX8_note 44 = .ok (.iconst 1, 1) := by decide +kernel
theorem dX8_note_45 : decode cX8_note 45 = .ok (.isub, 1) := by decide +kernel
theorem dX8_note_46 : decode cX8_note 46 = .ok (.putfield 102, 3) := by decide +kernel
theorem dX8_note_49 : decode cX8_note 49 = .ok (.iconst 0, 1) := by decide +kernel
theorem dX8_note_50 : decode cX8_note 50 = .ok (.istore_n 1, 1) := by decide +kernel
theorem dX8_note_51 : decode cX8_note 51 = .ok (.iload_n 1, 1) := by decide +kernel
theorem dX8_note_52 : decode cX8_note 52 = .ok (.bipush 37, 2) := by decide +kernel
theorem dX8_note_54 : decode cX8_note 54 = .ok (.if_icmp .ge 29, 3) := by decide +kernel
theorem dX8_note_57 : decode cX8_note 57 = .ok (.aload_n 0, 1) := by decide +kernel
theorem dX8_note_58 : decode cX8_note 58 = .ok (.getfield 22, 3) := by decide +kernel
theorem dX8_note_61 : decode cX8_note 61 = .ok (.bipush 37, 2) := by decide +kernel
theorem dX8_note_63 : decode cX8_note 63 = .ok (.aload_n 0, 1) := by decide +kernel
theorem dX8_note_64 : decode cX8_note 64 = .ok (.getfield 102, 3) := by decide +kernel
theorem dX8_note_67 : decode cX8_note 67 = .ok (.imul, 1) := by decide +kernel
theorem dX8_note_68 : decode cX8_note 68 = .ok (.iload_n 1, 1) := by decide +kernel
theorem dX8_note_69 : decode cX8_note 69 = .ok (.iadd, 1) := by decide +kernel
theorem dX8_note_70 : decode cX8_note 70 = .ok (.aload_n 0, 1) := by decide +kernel
theorem dX8_note_71 : decode cX8_note 71 = .ok (.getfield 16, 3) := by decide +kernel
theorem dX8_note_74 : decode cX8_note 74 = .ok (.iload_n 1, 1) := by decide +kernel
theorem dX8_note_75 : decode cX8_note 75 = .ok (.iaload, 1) := by decide +kernel
theorem dX8_note_76 : decode cX8_note 76 = .ok (.iastore, 1) := by decide +kernel
theorem dX8_note_77 : decode cX8_note 77 = .ok (.iinc 1 1, 3) := by decide +kernel
theorem dX8_note_80 : decode cX8_note 80 = .ok (.goto (-29), 3) := by decide +kernel
theorem dX8_note_83 : decode cX8_note 83 = .ok (.aload_n 0, 1) := by decide +kernel
theorem dX8_note_84 : decode cX8_note 84 = .ok (.dup, 1) := by decide +kernel
theorem dX8_note_85 : decode cX8_note 85 = .ok (.getfield 102, 3) := by decide +kernel
theorem dX8_note_88 : decode cX8_note 88 = .ok (.iconst 1, 1) := by decide +kernel
theorem dX8_note_89 : decode cX8_note 89 = .ok (.iadd, 1) := by decide +kernel
theorem dX8_note_90 : decode cX8_note 90 = .ok (.putfield 102, 3) := by decide +kernel
theorem dX8_note_93 : decode cX8_note 93 = .ok (.return_, 1) := by decide +kernel
theorem dX8_put_0 : decode cX8_put 0 = .ok (.aload_n 0, 1) := by decide +kernel
theorem dX8_put_1 : decode cX8_put 1 = .ok (.iconst 0, 1) := by decide +kernel
theorem dX8_put_2 : decode cX8_put 2 = .ok (.putfield 59, 3) := by decide +kernel
theorem dX8_put_5 : decode cX8_put 5 = .ok (.aload_n 0, 1) := by decide +kernel
theorem dX8_put_6 : decode cX8_put 6 = .ok (.iload_n 1, 1) := by decide +kernel
theorem dX8_put_7 : decode cX8_put 7 = .ok (.invokevirtual 164, 3) := by decide +kernel
theorem dX8_put_10 : decode cX8_put 10 = .ok (.ifCond .ne 11, 3) := by decide +kernel
theorem dX8_put_13 : decode cX8_put 13 = .ok (.aload_n 0, 1) := by decide +kernel
theorem dX8_put_14 : decode cX8_put 14 = .ok (.iload_n 2, 1) := by decide +kernel
theorem dX8_put_15 : decode cX8_put 15 = .ok (.invokevirtual 164, 3) := by decide +kernel
theorem dX8_put_18 : decode cX8_put 18 = .ok (.ifCond .eq 5, 3) := by decide +kernel
theorem dX8_put_21 : decode cX8_put 21 = .ok (.iconst (-1), 1) := by decide +kernel
theorem dX8_put_22 : decode cX8_put 22 = .ok (.ireturn, 1) := by decide +kernel
theorem dX8_put_23 : decode cX8_put 23 = .ok (.iload_n 3, 1) := by decide +kernel
theorem dX8_put_24 : decode cX8_put 24 = .ok (.i2l, 1) := by decide +kernel
theorem dX8_put_25 : decode cX8_put 25 = .ok (.lconst 0, 1) := by decide +kernel
theorem dX8_put_26 : decode cX8_put 26 = .ok (.ldc2_w 168, 3) := by decide +kernel
theorem dX8_put_29 : decode cX8_put 29 = .ok (.invokestatic 63, 3) := by decide +kernel
theorem dX8_put_32 : decode cX8_put 32 = .ok (.ifCond .ne 6, 3) := by decide +kernel
theorem dX8_put_35 : decode cX8_put 35 = .ok (.bipush (-2), 2) := by decide +kernel
theorem dX8_put_37 : decode cX8_put 37 = .ok (.ireturn, 1) := by decide +kernel
theorem dX8_put_38 : decode cX8_put 38 = .ok (.aload_n 0, 1) := by decide +kernel
theorem dX8_put_39 : decode cX8_put 39 = .ok (.getfield 16, 3) := by decide +kernel
theorem dX8_put_42 : decode cX8_put 42 = .ok (.iload_n 1, 1) := by decide +kernel
theorem dX8_put_43 : decode cX8_put 43 = .ok (.iload_n 2, 1) := by decide +kernel
theorem dX8_put_44 : decode cX8_put 44 = .ok (.invokestatic 79, 3) := by decide +kernel
theorem dX8_put_47 : decode cX8_put 47 = .ok (.ifCond .eq 6, 3) := by decide +kernel
theorem dX8_put_50 : decode cX8_put 50 = .ok (.bipush (-3), 2) := by decide +kernel
theorem dX8_put_52 : decode cX8_put 52 = .ok (.ireturn, 1) := by decide +kernel
theorem dX8_put_53 : decode cX8_put 53 = .ok (.aload_n 0, 1) := by decide +kernel
theorem dX8_put_54 : decode cX8_put 54 = .ok (.invokevirtual 170, 3) := by decide +kernel
theorem dX8_put_57 : decode cX8_put 57 = .ok (.aload_n 0, 1) := by decide +kernel
theorem dX8_put_58 : decode cX8_put 58 = .ok (.getfield 16, 3) := by decide +kernel
theorem dX8_put_61 : decode cX8_put 61 = .ok (.iconst 1, 1) := by decide +kernel
theorem dX8_put_62 : decode cX8_put 62 = .ok (.bipush 6, 2) := by decide +kernel
theorem dX8_put_64 : decode cX8_put 64 = .ok (.iload_n 1, 1) := by decide +kernel
theorem dX8_put_65 : decode cX8_put 65 = .ok (.imul, 1) := by decide +kernel
theorem dX8_put_66 : decode cX8_put 66 = .ok (.iadd, 1) := by decide +kernel
theorem dX8_put_67 : decode cX8_put 67 = .ok (.iload_n 2, 1) := by decide +kernel
theorem dX8_put_68 : decode cX8_put 68 = .ok (.iadd, 1) := by decide +kernel
theorem dX8_put_69 : decode cX8_put 69 = .ok (.iload_n 3, 1) := by decide +kernel
theorem dX8_put_70 : decode cX8_put 70 = .ok (.iconst 1, 1) := by decide +kernel
theorem dX8_put_71 : decode cX8_put 71 = .ok (.iadd, 1) := by decide +kernel
theorem dX8_put_72 : decode cX8_put 72 = .ok (.iastore, 1) := by decide +kernel
theorem dX8_put_73 : decode cX8_put 73 = .ok (.aload_n 0, 1) := by decide +kernel
theorem dX8_put_74 : decode cX8_put 74 = .ok (.getfield 16, 3) := by decide +kernel
theorem dX8_put_77 : decode cX8_put 77 = .ok (.invokestatic 105, 3) := by decide +kernel
theorem dX8_put_80 : decode cX8_put 80 = .ok (.ireturn, 1) := by decide +kernel
theorem dX8_cut_0 : decode cX8_cut 0 = .ok (.aload_n 0, 1) := by decide +kernel
theorem dX8_cut_1 : decode cX8_cut 1 = .ok (.iconst 0, 1) := by decide +kernel
theorem dX8_cut_2 : decode cX8_cut 2 = .ok (.putfield 59, 3) := by decide +kernel
theorem dX8_cut_5 : decode cX8_cut 5 = .ok (.aload_n 0, 1) := by decide +kernel
theorem dX8_cut_6 : decode cX8_cut 6 = .ok (.iload_n 1, 1) := by decide +kernel
theorem dX8_cut_7 : decode cX8_cut 7 = .ok (.invokevirtual 164, 3) := by decide +kernel
theorem dX8_cut_10 : decode cX8_cut 10 = .ok (.ifCond .ne 11, 3) := by decide +kernel
theorem dX8_cut_13 : decode cX8_cut 13 = .ok (.aload_n 0, 1) := by decide +kernel
theorem dX8_cut_14 : decode cX8_cut 14 = .ok (.iload_n 2, 1) := by decide +kernel
theorem dX8_cut_15 : decode cX8_cut 15 = .ok (.invokevirtual 164, 3) := by decide +kernel
theorem dX8_cut_18 : decode cX8_cut 18 = .ok (.ifCond .eq 5, 3) := by decide +kernel
theorem dX8_cut_21 : decode cX8_cut 21 = .ok (.iconst (-1), 1) := by decide +kernel
theorem dX8_cut_22 : decode cX8_cut 22 = .ok (.ireturn, 1) := by decide +kernel
theorem dX8_cut_23 : decode cX8_cut 23 = .ok (.aload_n 0, 1) := by decide +kernel
theorem dX8_cut_24 : decode cX8_cut 24 = .ok (.getfield 16, 3) := by decide +kernel
theorem dX8_cut_27 : decode cX8_cut 27 = .ok (.iload_n 1, 1) := by decide +kernel
theorem dX8_cut_28 : decode cX8_cut 28 = .ok (.iload_n 2, 1) := by decide +kernel
theorem dX8_cut_29 : decode cX8_cut 29 = .ok (.invokestatic 79, 3) := by decide +kernel
theorem dX8_cut_32 : decode cX8_cut 32 = .ok (.ifCond .ne 6, 3) := by decide +kernel
theorem dX8_cut_35 : decode cX8_cut 35 = .ok (.bipush (-3), 2) := by decide +kernel
theorem dX8_cut_37 : decode cX8_cut 37 = .ok (.ireturn, 1) := by decide +kernel
theorem dX8_cut_38 : decode cX8_cut 38 = .ok (.aload_n 0, 1) := by decide +kernel
theorem dX8_cut_39 : decode cX8_cut 39 = .ok (.invokevirtual 170, 3) := by decide +kernel
theorem dX8_cut_42 : decode cX8_cut 42 = .ok (.aload_n 0, 1) := by decide +kernel
theorem dX8_cut_43 : decode cX8_cut 43 = .ok (.getfield 16, 3) := by decide +kernel
theorem dX8_cut_46 : decode cX8_cut 46 = .ok (.iload_n 1, 1) := by decide +kernel
theorem dX8_cut_47 : decode cX8_cut 47 = .ok (.iload_n 2, 1) := by decide +kernel
theorem dX8_cut_48 : decode cX8_cut 48 = .ok (.invokestatic 67, 3) := by decide +kernel
theorem dX8_cut_51 : decode cX8_cut 51 = .ok (.istore_n 3, 1) := by decide +kernel
theorem dX8_cut_52 : decode cX8_cut 52 = .ok (.aload_n 0, 1) := by decide +kernel
theorem dX8_cut_53 : decode cX8_cut 53 = .ok (.getfield 16, 3) := by decide +kernel
theorem dX8_cut_56 : decode cX8_cut 56 = .ok (.iconst 1, 1) := by decide +kernel
theorem dX8_cut_57 : decode cX8_cut 57 = .ok (.bipush 6, 2) := by decide +kernel
theorem dX8_cut_59 : decode cX8_cut 59 = .ok (.iload_n 1, 1) := by decide +kernel
theorem dX8_cut_60 : decode cX8_cut 60 = .ok (.imul, 1) := by decide +kernel
theorem dX8_cut_61 : decode cX8_cut 61 = .ok (.iadd, 1) := by decide +kernel
theorem dX8_cut_62 : decode cX8_cut 62 = .ok (.iload_n 2, 1) := by decide +kernel
theorem dX8_cut_63 : decode cX8_cut 63 = .ok (.iadd, 1) := by decide +kernel
theorem dX8_cut_64 : decode cX8_cut 64 = .ok (.iconst 0, 1) := by decide +kernel
theorem dX8_cut_65 : decode cX8_cut 65 = .ok (.iastore, 1) := by decide +kernel
theorem dX8_cut_66 : decode cX8_cut 66 = .ok (.iload_n 3, 1) := by decide +kernel
theorem dX8_cut_67 : decode cX8_cut 67 = .ok (.ireturn, 1) := by decide +kernel
theorem dX8_time_0 : decode cX8_time 0 = .ok (.aload_n 0, 1) := by decide +kernel
theorem dX8_time_1 : decode cX8_time 1 = .ok (.iconst 0, 1) := by decide +kernel
theorem dX8_time_2 : decode cX8_time 2 = .ok (.putfield 59, 3) := by decide +kernel
theorem dX8_time_5 : decode cX8_time 5 = .ok (.aload_n 0, 1) := by decide +kernel
theorem dX8_time_6 : decode cX8_time 6 = .ok (.iload_n 1, 1) := by decide +kernel
theorem dX8_time_7 : decode cX8_time 7 = .ok (.invokevirtual 164, 3) := by decide +kernel
theorem dX8_time_10 : decode cX8_time 10 = .ok (.ifCond .ne 11, 3) := by decide +kernel
theorem dX8_time_13 : decode cX8_time 13 = .ok (.aload_n 0, 1) := by decide +kernel
theorem dX8_time_14 : decode cX8_time 14 = .ok (.iload_n 2, 1) := by decide +kernel
theorem dX8_time_15 : decode cX8_time 15 = .ok (.invokevirtual 164, 3) := by decide +kernel
theorem dX8_time_18 : decode cX8_time 18 = .ok (.ifCond .eq 5, 3) := by decide +kernel
theorem dX8_time_21 : decode cX8_time 21 = .ok (.iconst (-1), 1) := by decide +kernel
theorem dX8_time_22 : decode cX8_time 22 = .ok (.ireturn, 1) := by decide +kernel
theorem dX8_time_23 : decode cX8_time 23 = .ok (.iload_n 3, 1) := by decide +kernel
theorem dX8_time_24 : decode cX8_time 24 = .ok (.i2l, 1) := by decide +kernel
theorem dX8_time_25 : decode cX8_time 25 = .ok (.lconst 0, 1) := by decide +kernel
theorem dX8_time_26 : decode cX8_time 26 = .ok (.ldc2_w 168, 3) := by decide +kernel
theorem dX8_time_29 : decode cX8_time 29 = .ok (.invokestatic 63, 3) := by decide +kernel
theorem dX8_time_32 : decode cX8_time 32 = .ok (.ifCond .ne 6, 3) := by decide +kernel
theorem dX8_time_35 : decode cX8_time 35 = .ok (.bipush (-2), 2) := by decide +kernel
theorem dX8_time_37 : decode cX8_time 37 = .ok (.ireturn, 1) := by decide +kernel
theorem dX8_time_38 : decode cX8_time 38 = .ok (.aload_n 0, 1) := by decide +kernel
theorem dX8_time_39 : decode cX8_time 39 = .ok (.getfield 16, 3) := by decide +kernel
theorem dX8_time_42 : decode cX8_time 42 = .ok (.iload_n 1, 1) := by decide +kernel
theorem dX8_time_43 : decode cX8_time 43 = .ok (.iload_n 2, 1) := by decide +kernel
theorem dX8_time_44 : decode cX8_time 44 = .ok (.invokestatic 79, 3) := by decide +kernel
theorem dX8_time_47 : decode cX8_time 47 = .ok (.ifCond .ne 6, 3) := by decide +kernel
theorem dX8_time_50 : decode cX8_time 50 = .ok (.bipush (-3), 2) := by decide +kernel
theorem dX8_time_52 : decode cX8_time 52 = .ok (.ireturn, 1) := by decide +kernel
theorem dX8_time_53 : decode cX8_time 53 = .ok (.aload_n 0, 1) := by decide +kernel
theorem dX8_time_54 : decode cX8_time 54 = .ok (.invokevirtual 170, 3) := by decide +kernel
theorem dX8_time_57 : decode cX8_time 57 = .ok (.aload_n 0, 1) := by decide +kernel
theorem dX8_time_58 : decode cX8_time 58 = .ok (.getfield 16, 3) := by decide +kernel
theorem dX8_time_61 : decode cX8_time 61 = .ok (.iload_n 1, 1) := by decide +kernel
theorem dX8_time_62 : decode cX8_time 62 = .ok (.iload_n 2, 1) := by decide +kernel
theorem dX8_time_63 : decode cX8_time 63 = .ok (.invokestatic 67, 3) := by decide +kernel
theorem dX8_time_66 : decode cX8_time 66 = .ok (.istore 4, 2) := by decide +kernel
theorem dX8_time_68 : decode cX8_time 68 = .ok (.aload_n 0, 1) := by decide +kernel
theorem dX8_time_69 : decode cX8_time 69 = .ok (.getfield 16, 3) := by decide +kernel
theorem dX8_time_72 : decode cX8_time 72 = .ok (.iconst 1, 1) := by decide +kernel
theorem dX8_time_73 : decode cX8_time 73 = .ok (.bipush 6, 2) := by decide +kernel
theorem dX8_time_75 : decode cX8_time 75 = .ok (.iload_n 1, 1) := by decide +kernel
theorem dX8_time_76 : decode cX8_time 76 = .ok (.imul, 1) := by decide +kernel
theorem dX8_time_77 : decode cX8_time 77 = .ok (.iadd, 1) := by decide +kernel
theorem dX8_time_78 : decode cX8_time 78 = .ok (.iload_n 2, 1) := by decide +kernel
theorem dX8_time_79 : decode cX8_time 79 = .ok (.iadd, 1) := by decide +kernel
theorem dX8_time_80 : decode cX8_time 80 = .ok (.iload_n 3, 1) := by decide +kernel
theorem dX8_time_81 : decode cX8_time 81 = .ok (.iconst 1, 1) := by decide +kernel
theorem dX8_time_82 : decode cX8_time 82 = .ok (.iadd, 1) := by decide +kernel
theorem dX8_time_83 : decode cX8_time 83 = .ok (.iastore, 1) := by decide +kernel
theorem dX8_time_84 : decode cX8_time 84 = .ok (.iload 4, 2) := by decide +kernel
theorem dX8_time_86 : decode cX8_time 86 = .ok (.ireturn, 1) := by decide +kernel
theorem dX8_undo_0 : decode cX8_undo 0 = .ok (.aload_n 0, 1) := by decide +kernel
theorem dX8_undo_1 : decode cX8_undo 1 = .ok (.iconst 0, 1) := by decide +kernel
theorem dX8_undo_2 : decode cX8_undo 2 = .ok (.putfield 59, 3) := by decide +kernel
theorem dX8_undo_5 : decode cX8_undo 5 = .ok (.aload_n 0, 1) := by decide +kernel
theorem dX8_undo_6 : decode cX8_undo 6 = .ok (.getfield 102, 3) := by decide +kernel
theorem dX8_undo_9 : decode cX8_undo 9 = .ok (.ifCond .ne 6, 3) := by decide +kernel
theorem dX8_undo_12 : decode cX8_undo 12 = .ok (.bipush (-3), 2) := by decide +kernel
theorem dX8_undo_14 : decode cX8_undo 14 = .ok (.ireturn, 1) := by decide +kernel
theorem dX8_undo_15 : decode cX8_undo 15 = .ok (.aload_n 0, 1) := by decide +kernel
theorem dX8_undo_16 : decode cX8_undo 16 = .ok (.dup, 1) := by decide +kernel
theorem dX8_undo_17 : decode cX8_undo 17 = .ok (.getfield 102, 3) := by decide +kernel
theorem dX8_undo_20 : decode cX8_undo 20 = .ok (.iconst 1, 1) := by decide +kernel
theorem dX8_undo_21 : decode cX8_undo 21 = .ok (.isub, 1) := by decide +kernel
theorem dX8_undo_22 : decode cX8_undo 22 = .ok (.putfield 102, 3) := by decide +kernel
theorem dX8_undo_25 : decode cX8_undo 25 = .ok (.iconst 0, 1) := by decide +kernel
theorem dX8_undo_26 : decode cX8_undo 26 = .ok (.istore_n 1, 1) := by decide +kernel
theorem dX8_undo_27 : decode cX8_undo 27 = .ok (.iload_n 1, 1) := by decide +kernel
theorem dX8_undo_28 : decode cX8_undo 28 = .ok (.bipush 37, 2) := by decide +kernel
theorem dX8_undo_30 : decode cX8_undo 30 = .ok (.if_icmp .ge 29, 3) := by decide +kernel
theorem dX8_undo_33 : decode cX8_undo 33 = .ok (.aload_n 0, 1) := by decide +kernel
theorem dX8_undo_34 : decode cX8_undo 34 = .ok (.getfield 16, 3) := by decide +kernel
theorem dX8_undo_37 : decode cX8_undo 37 = .ok (.iload_n 1, 1) := by decide +kernel
theorem dX8_undo_38 : decode cX8_undo 38 = .ok (.aload_n 0, 1) := by decide +kernel
theorem dX8_undo_39 : decode cX8_undo 39 = .ok (.getfield 22, 3) := by decide +kernel
theorem dX8_undo_42 : decode cX8_undo 42 = .ok (.bipush 37, 2) := by decide +kernel
theorem dX8_undo_44 : decode cX8_undo 44 = .ok (.aload_n 0, 1) := by decide +kernel
theorem dX8_undo_45 : decode cX8_undo 45 = .ok (.getfield 102, 3) := by decide +kernel
theorem dX8_undo_48 : decode cX8_undo 48 = .ok (.imul, 1) := by decide +kernel
theorem dX8_undo_49 : decode cX8_undo 49 = .ok (.iload_n 1, 1) := by decide +kernel
theorem dX8_undo_50 : decode cX8_undo 50 = .ok (.iadd, 1) := by decide +kernel
theorem dX8_undo_51 : decode cX8_undo 51 = .ok (.iaload, 1) := by decide +kernel
theorem dX8_undo_52 : decode cX8_undo 52 = .ok (.iastore, 1) := by decide +kernel
theorem dX8_undo_53 : decode cX8_undo 53 = .ok (.iinc 1 1, 3) := by decide +kernel
theorem dX8_undo_56 : decode cX8_undo 56 = .ok (.goto (-29), 3) := by decide +kernel
theorem dX8_undo_59 : decode cX8_undo 59 = .ok (.aload_n 0, 1) := by decide +kernel
theorem dX8_undo_60 : decode cX8_undo 60 = .ok (.getfield 102, 3) := by decide +kernel
theorem dX8_undo_63 : decode cX8_undo 63 = .ok (.ireturn, 1) := by decide +kernel
theorem dX8_divisor_0 : decode cX8_divisor 0 = .ok (.iload_n 0, 1) := by decide +kernel
theorem dX8_divisor_1 : decode cX8_divisor 1 = .ok (.ifCond .ge 8, 3) := by decide +kernel
theorem dX8_divisor_4 : decode cX8_divisor 4 = .ok (.iload_n 0, 1) := by decide +kernel
theorem dX8_divisor_5 : decode cX8_divisor 5 = .ok (.ineg, 1) := by decide +kernel
theorem dX8_divisor_6 : decode cX8_divisor 6 = .ok (.goto 4, 3) := by decide +kernel
theorem dX8_divisor_9 : decode cX8_divisor 9 = .ok (.iload_n 0, 1) := by decide +kernel
theorem dX8_divisor_10 : decode cX8_divisor 10 = .ok (.istore_n 2, 1) := by decide +kernel
theorem dX8_divisor_11 : decode cX8_divisor 11 = .ok (.iload_n 1, 1) := by decide +kernel
theorem dX8_divisor_12 : decode cX8_divisor 12 = .ok (.istore_n 3, 1) := by decide +kernel
theorem dX8_divisor_13 : decode cX8_divisor 13 = .ok (.iload_n 3, 1) := by decide +kernel
theorem dX8_divisor_14 : decode cX8_divisor 14 = .ok (.ifCond .eq 16, 3) := by decide +kernel
theorem dX8_divisor_17 : decode cX8_divisor 17 = .ok (.iload_n 2, 1) := by decide +kernel
theorem dX8_divisor_18 : decode cX8_divisor 18 = .ok (.iload_n 3, 1) := by decide +kernel
theorem dX8_divisor_19 : decode cX8_divisor 19 = .ok (.irem, 1) := by decide +kernel
theorem dX8_divisor_20 : decode cX8_divisor 20 = .ok (.istore 4, 2) := by decide +kernel
theorem dX8_divisor_22 : decode cX8_divisor 22 = .ok (.iload_n 3, 1) := by decide +kernel
theorem dX8_divisor_23 : decode cX8_divisor 23 = .ok (.istore_n 2, 1) := by decide +kernel
theorem dX8_divisor_24 : decode cX8_divisor 24 = .ok (.iload 4, 2) := by decide +kernel
theorem dX8_divisor_26 : decode cX8_divisor 26 = .ok (.istore_n 3, 1) := by decide +kernel
theorem dX8_divisor_27 : decode cX8_divisor 27 = .ok (.goto (-14), 3) := by decide +kernel
theorem dX8_divisor_30 : decode cX8_divisor 30 = .ok (.iload_n 2, 1) := by decide +kernel
theorem dX8_divisor_31 : decode cX8_divisor 31 = .ok (.ireturn, 1) := by decide +kernel
theorem dX8_fraction_0 : decode cX8_fraction 0 = .ok (.iload_n 0, 1) := by decide +kernel
theorem dX8_fraction_1 : decode cX8_fraction 1 = .ok (.iload_n 1, 1) := by decide +kernel
theorem dX8_fraction_2 : decode cX8_fraction 2 = .ok (.invokestatic 173, 3) := by decide +kernel
theorem dX8_fraction_5 : decode cX8_fraction 5 = .ok (.istore_n 3, 1) := by decide +kernel
theorem dX8_fraction_6 : decode cX8_fraction 6 = .ok (.iload_n 2, 1) := by decide +kernel
theorem dX8_fraction_7 : decode cX8_fraction 7 = .ok (.ifCond .eq 9, 3) := by decide +kernel
theorem dX8_fraction_10 : decode cX8_fraction 10 = .ok (.iload_n 0, 1) := by decide +kernel
theorem dX8_fraction_11 : decode cX8_fraction 11 = .ok (.iload_n 3, 1) := by decide +kernel
theorem dX8_fraction_12 : decode cX8_fraction 12 = .ok (.idiv, 1) := by decide +kernel
theorem dX8_fraction_13 : decode cX8_fraction 13 = .ok (.goto 6, 3) := by decide +kernel
theorem dX8_fraction_16 : decode cX8_fraction 16 = .ok (.iload_n 1, 1) := by decide +kernel
theorem dX8_fraction_17 : decode cX8_fraction 17 = .ok (.iload_n 3, 1) := by decide +kernel
theorem dX8_fraction_18 : decode cX8_fraction 18 = .ok (.idiv, 1) := by decide +kernel
theorem dX8_fraction_19 : decode cX8_fraction 19 = .ok (.ireturn, 1) := by decide +kernel
theorem dX8_pace_0 : decode cX8_pace 0 = .ok (.aload_n 0, 1) := by decide +kernel
theorem dX8_pace_1 : decode cX8_pace 1 = .ok (.iconst 0, 1) := by decide +kernel
theorem dX8_pace_2 : decode cX8_pace 2 = .ok (.putfield 59, 3) := by decide +kernel
theorem dX8_pace_5 : decode cX8_pace 5 = .ok (.aload_n 0, 1) := by decide +kernel
theorem dX8_pace_6 : decode cX8_pace 6 = .ok (.aload_n 0, 1) := by decide +kernel
theorem dX8_pace_7 : decode cX8_pace 7 = .ok (.getfield 16, 3) := by decide +kernel
theorem dX8_pace_10 : decode cX8_pace 10 = .ok (.invokevirtual 146, 3) := by decide +kernel
theorem dX8_pace_13 : decode cX8_pace 13 = .ok (.aload_n 0, 1) := by decide +kernel
theorem dX8_pace_14 : decode cX8_pace 14 = .ok (.getfield 116, 3) := by decide +kernel
theorem dX8_pace_17 : decode cX8_pace 17 = .ok (.ifCond .ne 8, 3) := by decide +kernel
theorem dX8_pace_20 : decode cX8_pace 20 = .ok (.bipush (-9), 2) := by decide +kernel
theorem dX8_pace_22 : decode cX8_pace 22 = .ok (.goto 15, 3) := by decide +kernel
theorem dX8_pace_25 : decode cX8_pace 25 = .ok (.aload_n 0, 1) := by decide +kernel
theorem dX8_pace_26 : decode cX8_pace 26 = .ok (.getfield 119, 3) := by decide +kernel
theorem dX8_pace_29 : decode cX8_pace 29 = .ok (.aload_n 0, 1) := by decide +kernel
theorem dX8_pace_30 : decode cX8_pace 30 = .ok (.getfield 116, 3) := by decide +kernel
theorem dX8_pace_33 : decode cX8_pace 33 = .ok (.iload_n 1, 1) := by decide +kernel
theorem dX8_pace_34 : decode cX8_pace 34 = .ok (.invokestatic 177, 3) := by decide +kernel
theorem dX8_pace_37 : decode cX8_pace 37 = .ok (.ireturn, 1) := by decide +kernel
theorem dX8_critical_0 : decode cX8_critical 0 = .ok (.aload_n 0, 1) := by decide +kernel
theorem dX8_critical_1 : decode cX8_critical 1 = .ok (.iconst 0, 1) := by decide +kernel
theorem dX8_critical_2 : decode cX8_critical 2 = .ok (.putfield 59, 3) := by decide +kernel
theorem dX8_critical_5 : decode cX8_critical 5 = .ok (.aload_n 0, 1) := by decide +kernel
theorem dX8_critical_6 : decode cX8_critical 6 = .ok (.iload_n 1, 1) := by decide +kernel
theorem dX8_critical_7 : decode cX8_critical 7 = .ok (.invokevirtual 164, 3) := by decide +kernel
theorem dX8_critical_10 : decode cX8_critical 10 = .ok (.ifCond .ne 11, 3) := by decide +kernel
theorem dX8_critical_13 : decode cX8_critical 13 = .ok (.aload_n 0, 1) := by decide +kernel
theorem dX8_critical_14 : decode cX8_critical 14 = .ok (.iload_n 2, 1) := by decide +kernel
theorem dX8_critical_15 : decode cX8_critical 15 = .ok (.invokevirtual 164, 3) := by decide +kernel
theorem dX8_critical_18 : decode cX8_critical 18 = .ok (.ifCond .eq 5, 3) := by decide +kernel
theorem dX8_critical_21 : decode cX8_critical 21 = .ok (.iconst (-1), 1) := by decide +kernel
theorem dX8_critical_22 : decode cX8_critical 22 = .ok (.ireturn, 1) := by decide +kernel
theorem dX8_critical_23 : decode cX8_critical 23 = .ok (.aload_n 0, 1) := by decide +kernel
theorem dX8_critical_24 : decode cX8_critical 24 = .ok (.getfield 16, 3) := by decide +kernel
theorem dX8_critical_27 : decode cX8_critical 27 = .ok (.iload_n 1, 1) := by decide +kernel
theorem dX8_critical_28 : decode cX8_critical 28 = .ok (.iload_n 2, 1) := by decide +kernel
theorem dX8_critical_29 : decode cX8_critical 29 = .ok (.invokestatic 79, 3) := by decide +kernel
theorem dX8_critical_32 : decode cX8_critical 32 = .ok (.ifCond .ne 6, 3) := by decide +kernel
theorem dX8_critical_35 : decode cX8_critical 35 = .ok (.bipush (-3), 2) := by decide +kernel
theorem dX8_critical_37 : decode cX8_critical 37 = .ok (.ireturn, 1) := by decide +kernel
theorem dX8_critical_38 : decode cX8_critical 38 = .ok (.aload_n 0, 1) := by decide +kernel
theorem dX8_critical_39 : decode cX8_critical 39 = .ok (.aload_n 0, 1) := by decide +kernel
theorem dX8_critical_40 : decode cX8_critical 40 = .ok (.getfield 16, 3) := by decide +kernel
theorem dX8_critical_43 : decode cX8_critical 43 = .ok (.invokevirtual 146, 3) := by decide +kernel
theorem dX8_critical_46 : decode cX8_critical 46 = .ok (.aload_n 0, 1) := by decide +kernel
theorem dX8_critical_47 : decode cX8_critical 47 = .ok (.getfield 122, 3) := by decide +kernel
theorem dX8_critical_50 : decode cX8_critical 50 = .ok (.bipush 6, 2) := by decide +kernel
theorem dX8_critical_52 : decode cX8_critical 52 = .ok (.iload_n 1, 1) := by decide +kernel
theorem dX8_critical_53 : decode cX8_critical 53 = .ok (.imul, 1) := by decide +kernel
theorem dX8_critical_54 : decode cX8_critical 54 = .ok (.iload_n 2, 1) := by decide +kernel
theorem dX8_critical_55 : decode cX8_critical 55 = .ok (.iadd, 1) := by decide +kernel
theorem dX8_critical_56 : decode cX8_critical 56 = .ok (.lshr, 1) := by decide +kernel
theorem dX8_critical_57 : decode cX8_critical 57 = .ok (.lconst 1, 1) := by decide +kernel
theorem dX8_critical_58 : decode cX8_critical 58 = .ok (.land, 1) := by decide +kernel
theorem dX8_critical_59 : decode cX8_critical 59 = .ok (.l2i, 1) := by decide +kernel
theorem dX8_critical_60 : decode cX8_critical 60 = .ok (.ireturn, 1) := by decide +kernel
theorem dX8_layTimes_0 : decode cX8_layTimes 0 = .ok (.iconst 0, 1) := by decide +kernel
theorem dX8_layTimes_1 : decode cX8_layTimes 1 = .ok (.istore_n 3, 1) := by decide +kernel
theorem dX8_layTimes_2 : decode cX8_layTimes 2 = .ok (.iload_n 3, 1) := by decide +kernel
theorem dX8_layTimes_3 : decode cX8_layTimes 3 = .ok (.bipush 6, 2) := by decide +kernel
theorem dX8_layTimes_5 : decode cX8_layTimes 5 = .ok (.if_icmp .ge 16, 3) := by decide +kernel
theorem dX8_layTimes_8 : decode cX8_layTimes 8 = .ok (.aload_n 0, 1) := by decide +kernel
theorem dX8_layTimes_9 : decode cX8_layTimes 9 = .ok (.getfield 47, 3) := by decide +kernel
theorem dX8_layTimes_12 : decode cX8_layTimes 12 = .ok (.iload_n 3, 1) := by decide +kernel
theorem dX8_layTimes_13 : decode cX8_layTimes 13 = .ok (.iconst 0, 1) := by decide +kernel
theorem dX8_layTimes_14 : decode cX8_layTimes 14 = .ok (.iastore, 1) := by decide +kernel
theorem dX8_layTimes_15 : decode cX8_layTimes 15 = .ok (.iinc 3 1, 3) := by decide +kernel
theorem dX8_layTimes_18 : decode cX8_layTimes 18 = .ok (.goto (-16), 3) := by decide +kernel
theorem dX8_layTimes_21 : decode cX8_layTimes 21 = .ok (.iconst 0, 1) := by decide +kernel
theorem dX8_layTimes_22 : decode cX8_layTimes 22 = .ok (.istore_n 3, 1) := by decide +kernel
theorem dX8_layTimes_23 : decode cX8_layTimes 23 = .ok (.iload_n 3, 1) := by decide +kernel
theorem dX8_layTimes_24 : decode cX8_layTimes 24 = .ok (.bipush 6, 2) := by decide +kernel
theorem dX8_layTimes_26 : decode cX8_layTimes 26 = .ok (.if_icmp .ge 105, 3) := by decide +kernel
theorem dX8_layTimes_29 : decode cX8_layTimes 29 = .ok (.iconst 0, 1) := by decide +kernel
theorem dX8_layTimes_30 : decode cX8_layTimes 30 = .ok (.istore 4, 2) := by decide +kernel
theorem dX8_layTimes_32 : decode cX8_layTimes 32 = .ok (.iload 4, 2) := by decide +kernel
theorem dX8_layTimes_34 : decode cX8_layTimes 34 = .ok (.aload_n 1, 1) := by decide +kernel
theorem dX8_layTimes_35 : decode cX8_layTimes 35 = .ok (.iconst 0, 1) := by decide +kernel
theorem dX8_layTimes_36 : decode cX8_layTimes 36 = .ok (.iaload, 1) := by decide +kernel
theorem dX8_layTimes_37 : decode cX8_layTimes 37 = .ok (.if_icmp .ge 88, 3) := by decide +kernel
theorem dX8_layTimes_40 : decode cX8_layTimes 40 = .ok (.iconst 0, 1) := by decide +kernel
theorem dX8_layTimes_41 : decode cX8_layTimes 41 = .ok (.istore 5, 2) := by decide +kernel
theorem dX8_layTimes_43 : decode cX8_layTimes 43 = .ok (.iload 5, 2) := by decide +kernel
theorem dX8_layTimes_45 : decode cX8_layTimes 45 = .ok (.aload_n 1, 1) := by decide +kernel
theorem dX8_layTimes_46 : decode cX8_layTimes 46 = .ok (.iconst 0, 1) := by decide +kernel
theorem dX8_layTimes_47 : decode cX8_layTimes 47 = .ok (.iaload, 1) := by decide +kernel
theorem dX8_layTimes_48 : decode cX8_layTimes 48 = .ok (.if_icmp .ge 71, 3) := by decide +kernel
theorem dX8_layTimes_51 : decode cX8_layTimes 51 = .ok (.aload_n 0, 1) := by decide +kernel
theorem dX8_layTimes_52 : decode cX8_layTimes 52 = .ok (.getfield 47, 3) := by decide +kernel
theorem dX8_layTimes_55 : decode cX8_layTimes 55 = .ok (.iload 4, 2) := by decide +kernel
theorem dX8_layTimes_57 : decode cX8_layTimes 57 = .ok (.iaload, 1) := by decide +kernel
theorem dX8_layTimes_58 : decode cX8_layTimes 58 = .ok (.aload_n 1, 1) := by decide +kernel
theorem dX8_layTimes_59 : decode cX8_layTimes 59 = .ok (.iload 4, 2) := by decide +kernel
theorem dX8_layTimes_61 : decode cX8_layTimes 61 = .ok (.iload 5, 2) := by decide +kernel
theorem dX8_layTimes_63 : decode cX8_layTimes 63 = .ok (.invokestatic 67, 3) := by decide +kernel
theorem dX8_layTimes_66 : decode cX8_layTimes 66 = .ok (.iadd, 1) := by decide +kernel
theorem dX8_layTimes_67 : decode cX8_layTimes 67 = .ok (.iload_n 2, 1) := by decide +kernel
theorem dX8_layTimes_68 : decode cX8_layTimes 68 = .ok (.isub, 1) := by decide +kernel
theorem dX8_layTimes_69 : decode cX8_layTimes 69 = .ok (.istore 6, 2) := by decide +kernel
theorem dX8_layTimes_71 : decode cX8_layTimes 71 = .ok (.aload_n 0, 1) := by decide +kernel
theorem dX8_layTimes_72 : decode cX8_layTimes 72 = .ok (.getfield 47, 3) := by decide +kernel
theorem dX8_layTimes_75 : decode cX8_layTimes 75 = .ok (.iload 5, 2) := by decide +kernel
theorem dX8_layTimes_77 : decode cX8_layTimes 77 = .ok (.aload_n 1, 1) := by decide +kernel
theorem dX8_layTimes_78 : decode cX8_layTimes 78 = .ok (.iload 4, 2) := by decide +kernel
theorem dX8_layTimes_80 : decode cX8_layTimes 80 = .ok (.iload 5, 2) := by decide +kernel
theorem dX8_layTimes_82 : decode cX8_layTimes 82 = .ok (.invokestatic 79, 3) := by decide +kernel
theorem dX8_layTimes_85 : decode cX8_layTimes 85 = .ok (.ifCond .eq 20, 3) := by decide +kernel
theorem dX8_layTimes_88 : decode cX8_layTimes 88 = .ok (.iload 6, 2) := by decide +kernel
theorem dX8_layTimes_90 : decode cX8_layTimes 90 = .ok (.aload_n 0, 1) := by decide +kernel
theorem dX8_layTimes_91 : decode cX8_layTimes 91 = .ok (.getfield 47, 3) := by decide +kernel
theorem dX8_layTimes_94 : decode cX8_layTimes 94 = .ok (.iload 5, 2) := by decide +kernel
theorem dX8_layTimes_96 : decode cX8_layTimes 96 = .ok (.iaload, 1) := by decide +kernel
theorem dX8_layTimes_97 : decode cX8_layTimes 97 = .ok (.if_icmp .le 8, 3) := by decide +kernel
theorem dX8_layTimes_100 : decode cX8_layTimes 100 = .ok (.iload 6, 2) := by decide +kernel
theorem dX8_layTimes_102 : decode cX8_layTimes 102 = .ok (.goto 10, 3) := by decide +kernel
theorem dX8_layTimes_105 : decode cX8_layTimes 105 = .ok (.aload_n 0, 1) := by decide +kernel
theorem dX8_layTimes_106 : decode cX8_layTimes 106 = .ok (.getfield 47, 3) := by decide +kernel
theorem dX8_layTimes_109 : decode cX8_layTimes 109 = .ok (.iload 5, 2) := by decide +kernel
theorem dX8_layTimes_111 : decode cX8_layTimes 111 = .ok (.iaload, 1) := by decide +kernel
theorem dX8_layTimes_112 : decode cX8_layTimes 112 = .ok (.iastore, 1) := by decide +kernel
theorem dX8_layTimes_113 : decode cX8_layTimes 113 = .ok (.iinc 5 1, 3) := by decide +kernel
theorem dX8_layTimes_116 : decode cX8_layTimes 116 = .ok (.goto (-73), 3) := by decide +kernel
theorem dX8_layTimes_119 : decode cX8_layTimes 119 = .ok (.iinc 4 1, 3) := by decide +kernel
theorem dX8_layTimes_122 : decode cX8_layTimes 122 = .ok (.goto (-90), 3) := by decide +kernel
theorem dX8_layTimes_125 : decode cX8_layTimes 125 = .ok (.iinc 3 1, 3) := by decide +kernel
theorem dX8_layTimes_128 : decode cX8_layTimes 128 = .ok (.goto (-105), 3) := by decide +kernel
theorem dX8_layTimes_131 : decode cX8_layTimes 131 = .ok (.return_, 1) := by decide +kernel
theorem dX8_spareOf_0 : decode cX8_spareOf 0 = .ok (.aload_n 0, 1) := by decide +kernel
theorem dX8_spareOf_1 : decode cX8_spareOf 1 = .ok (.getfield 47, 3) := by decide +kernel
theorem dX8_spareOf_4 : decode cX8_spareOf 4 = .ok (.iload_n 3, 1) := by decide +kernel
theorem dX8_spareOf_5 : decode cX8_spareOf 5 = .ok (.iaload, 1) := by decide +kernel
theorem dX8_spareOf_6 : decode cX8_spareOf 6 = .ok (.iload 4, 2) := by decide +kernel
theorem dX8_spareOf_8 : decode cX8_spareOf 8 = .ok (.iadd, 1) := by decide +kernel
theorem dX8_spareOf_9 : decode cX8_spareOf 9 = .ok (.aload_n 0, 1) := by decide +kernel
theorem dX8_spareOf_10 : decode cX8_spareOf 10 = .ok (.getfield 47, 3) := by decide +kernel
theorem dX8_spareOf_13 : decode cX8_spareOf 13 = .ok (.iload_n 2, 1) := by decide +kernel
theorem dX8_spareOf_14 : decode cX8_spareOf 14 = .ok (.iaload, 1) := by decide +kernel
theorem dX8_spareOf_15 : decode cX8_spareOf 15 = .ok (.isub, 1) := by decide +kernel
theorem dX8_spareOf_16 : decode cX8_spareOf 16 = .ok (.aload_n 1, 1) := by decide +kernel
theorem dX8_spareOf_17 : decode cX8_spareOf 17 = .ok (.iload_n 2, 1) := by decide +kernel
theorem dX8_spareOf_18 : decode cX8_spareOf 18 = .ok (.iload_n 3, 1) := by decide +kernel
theorem dX8_spareOf_19 : decode cX8_spareOf 19 = .ok (.invokestatic 67, 3) := by decide +kernel
theorem dX8_spareOf_22 : decode cX8_spareOf 22 = .ok (.isub, 1) := by decide +kernel
theorem dX8_spareOf_23 : decode cX8_spareOf 23 = .ok (.ireturn, 1) := by decide +kernel
theorem dX8_departs_0 : decode cX8_departs 0 = .ok (.aload_n 0, 1) := by decide +kernel
theorem dX8_departs_1 : decode cX8_departs 1 = .ok (.iconst 0, 1) := by decide +kernel
theorem dX8_departs_2 : decode cX8_departs 2 = .ok (.putfield 59, 3) := by decide +kernel
theorem dX8_departs_5 : decode cX8_departs 5 = .ok (.aload_n 0, 1) := by decide +kernel
theorem dX8_departs_6 : decode cX8_departs 6 = .ok (.iload_n 1, 1) := by decide +kernel
theorem dX8_departs_7 : decode cX8_departs 7 = .ok (.invokevirtual 164, 3) := by decide +kernel
theorem dX8_departs_10 : decode cX8_departs 10 = .ok (.ifCond .eq 5, 3) := by decide +kernel
theorem dX8_departs_13 : decode cX8_departs 13 = .ok (.iconst (-1), 1) := by decide +kernel
theorem dX8_departs_14 : decode cX8_departs 14 = .ok (.ireturn, 1) := by decide +kernel
theorem dX8_departs_15 : decode cX8_departs 15 = .ok (.iload_n 2, 1) := by decide +kernel
theorem dX8_departs_16 : decode cX8_departs 16 = .ok (.i2l, 1) := by decide +kernel
theorem dX8_departs_17 : decode cX8_departs 17 = .ok (.lconst 0, 1) := by decide +kernel
theorem dX8_departs_18 : decode cX8_departs 18 = .ok (.ldc2_w 181, 3) := by decide +kernel
theorem dX8_departs_21 : decode cX8_departs 21 = .ok (.invokestatic 63, 3) := by decide +kernel
theorem dX8_departs_24 : decode cX8_departs 24 = .ok (.ifCond .ne 6, 3) := by decide +kernel
theorem dX8_departs_27 : decode cX8_departs 27 = .ok (.bipush (-2), 2) := by decide +kernel
theorem dX8_departs_29 : decode cX8_departs 29 = .ok (.ireturn, 1) := by decide +kernel
theorem dX8_departs_30 : decode cX8_departs 30 = .ok (.aload_n 0, 1) := by decide +kernel
theorem dX8_departs_31 : decode cX8_departs 31 = .ok (.aload_n 0, 1) := by decide +kernel
theorem dX8_departs_32 : decode cX8_departs 32 = .ok (.getfield 16, 3) := by decide +kernel
theorem dX8_departs_35 : decode cX8_departs 35 = .ok (.iload_n 2, 1) := by decide +kernel
theorem dX8_departs_36 : decode cX8_departs 36 = .ok (.invokevirtual 150, 3) := by decide +kernel
theorem dX8_departs_39 : decode cX8_departs 39 = .ok (.ifCond .ne 6, 3) := by decide +kernel
theorem dX8_departs_42 : decode cX8_departs 42 = .ok (.bipush (-3), 2) := by decide +kernel
theorem dX8_departs_44 : decode cX8_departs 44 = .ok (.ireturn, 1) := by decide +kernel
theorem dX8_departs_45 : decode cX8_departs 45 = .ok (.aload_n 0, 1) := by decide +kernel
theorem dX8_departs_46 : decode cX8_departs 46 = .ok (.aload_n 0, 1) := by decide +kernel
theorem dX8_departs_47 : decode cX8_departs 47 = .ok (.getfield 16, 3) := by decide +kernel
theorem dX8_departs_50 : decode cX8_departs 50 = .ok (.iload_n 2, 1) := by decide +kernel
theorem dX8_departs_51 : decode cX8_departs 51 = .ok (.invokevirtual 183, 3) := by decide +kernel
theorem dX8_departs_54 : decode cX8_departs 54 = .ok (.aload_n 0, 1) := by decide +kernel
theorem dX8_departs_55 : decode cX8_departs 55 = .ok (.getfield 47, 3) := by decide +kernel
theorem dX8_departs_58 : decode cX8_departs 58 = .ok (.iload_n 1, 1) := by decide +kernel
theorem dX8_departs_59 : decode cX8_departs 59 = .ok (.iaload, 1) := by decide +kernel
theorem dX8_departs_60 : decode cX8_departs 60 = .ok (.ireturn, 1) := by decide +kernel
theorem dX8_spare_0 : decode cX8_spare 0 = .ok (.aload_n 0, 1) := by decide +kernel
theorem dX8_spare_1 : decode cX8_spare 1 = .ok (.iconst 0, 1) := by decide +kernel
theorem dX8_spare_2 : decode cX8_spare 2 = .ok (.putfield 59, 3) := by decide +kernel
theorem dX8_spare_5 : decode cX8_spare 5 = .ok (.aload_n 0, 1) := by decide +kernel
theorem dX8_spare_6 : decode cX8_spare 6 = .ok (.iload_n 1, 1) := by decide +kernel
theorem dX8_spare_7 : decode cX8_spare 7 = .ok (.invokevirtual 164, 3) := by decide +kernel
theorem dX8_spare_10 : decode cX8_spare 10 = .ok (.ifCond .ne 11, 3) := by decide +kernel
theorem dX8_spare_13 : decode cX8_spare 13 = .ok (.aload_n 0, 1) := by decide +kernel
theorem dX8_spare_14 : decode cX8_spare 14 = .ok (.iload_n 2, 1) := by decide +kernel
theorem dX8_spare_15 : decode cX8_spare 15 = .ok (.invokevirtual 164, 3) := by decide +kernel
theorem dX8_spare_18 : decode cX8_spare 18 = .ok (.ifCond .eq 5, 3) := by decide +kernel
theorem dX8_spare_21 : decode cX8_spare 21 = .ok (.iconst (-1), 1) := by decide +kernel
theorem dX8_spare_22 : decode cX8_spare 22 = .ok (.ireturn, 1) := by decide +kernel
theorem dX8_spare_23 : decode cX8_spare 23 = .ok (.iload_n 3, 1) := by decide +kernel
theorem dX8_spare_24 : decode cX8_spare 24 = .ok (.i2l, 1) := by decide +kernel
theorem dX8_spare_25 : decode cX8_spare 25 = .ok (.lconst 0, 1) := by decide +kernel
theorem dX8_spare_26 : decode cX8_spare 26 = .ok (.ldc2_w 181, 3) := by decide +kernel
theorem dX8_spare_29 : decode cX8_spare 29 = .ok (.invokestatic 63, 3) := by decide +kernel
theorem dX8_spare_32 : decode cX8_spare 32 = .ok (.ifCond .ne 6, 3) := by decide +kernel
theorem dX8_spare_35 : decode cX8_spare 35 = .ok (.bipush (-2), 2) := by decide +kernel
theorem dX8_spare_37 : decode cX8_spare 37 = .ok (.ireturn, 1) := by decide +kernel
theorem dX8_spare_38 : decode cX8_spare 38 = .ok (.aload_n 0, 1) := by decide +kernel
theorem dX8_spare_39 : decode cX8_spare 39 = .ok (.getfield 16, 3) := by decide +kernel
theorem dX8_spare_42 : decode cX8_spare 42 = .ok (.iload_n 1, 1) := by decide +kernel
theorem dX8_spare_43 : decode cX8_spare 43 = .ok (.iload_n 2, 1) := by decide +kernel
theorem dX8_spare_44 : decode cX8_spare 44 = .ok (.invokestatic 79, 3) := by decide +kernel
theorem dX8_spare_47 : decode cX8_spare 47 = .ok (.ifCond .eq 15, 3) := by decide +kernel
theorem dX8_spare_50 : decode cX8_spare 50 = .ok (.aload_n 0, 1) := by decide +kernel
theorem dX8_spare_51 : decode cX8_spare 51 = .ok (.aload_n 0, 1) := by decide +kernel
theorem dX8_spare_52 : decode cX8_spare 52 = .ok (.getfield 16, 3) := by decide +kernel
theorem dX8_spare_55 : decode cX8_spare 55 = .ok (.iload_n 3, 1) := by decide +kernel
theorem dX8_spare_56 : decode cX8_spare 56 = .ok (.invokevirtual 150, 3) := by decide +kernel
theorem dX8_spare_59 : decode cX8_spare 59 = .ok (.ifCond .ne 6, 3) := by decide +kernel
theorem dX8_spare_62 : decode cX8_spare 62 = .ok (.bipush (-3), 2) := by decide +kernel
theorem dX8_spare_64 : decode cX8_spare 64 = .ok (.ireturn, 1) := by decide +kernel
theorem dX8_spare_65 : decode cX8_spare 65 = .ok (.aload_n 0, 1) := by decide +kernel
theorem dX8_spare_66 : decode cX8_spare 66 = .ok (.aload_n 0, 1) := by decide +kernel
theorem dX8_spare_67 : decode cX8_spare 67 = .ok (.getfield 16, 3) := by decide +kernel
theorem dX8_spare_70 : decode cX8_spare 70 = .ok (.iload_n 3, 1) := by decide +kernel
theorem dX8_spare_71 : decode cX8_spare 71 = .ok (.invokevirtual 183, 3) := by decide +kernel
theorem dX8_spare_74 : decode cX8_spare 74 = .ok (.aload_n 0, 1) := by decide +kernel
theorem dX8_spare_75 : decode cX8_spare 75 = .ok (.aload_n 0, 1) := by decide +kernel
theorem dX8_spare_76 : decode cX8_spare 76 = .ok (.getfield 16, 3) := by decide +kernel
theorem dX8_spare_79 : decode cX8_spare 79 = .ok (.iload_n 1, 1) := by decide +kernel
theorem dX8_spare_80 : decode cX8_spare 80 = .ok (.iload_n 2, 1) := by decide +kernel
theorem dX8_spare_81 : decode cX8_spare 81 = .ok (.iload_n 3, 1) := by decide +kernel
theorem dX8_spare_82 : decode cX8_spare 82 = .ok (.invokevirtual 186, 3) := by decide +kernel
theorem dX8_spare_85 : decode cX8_spare 85 = .ok (.ireturn, 1) := by decide +kernel
theorem dX8_beginLate_0 : decode cX8_beginLate 0 = .ok (.iconst 0, 1) := by decide +kernel
theorem dX8_beginLate_1 : decode cX8_beginLate 1 = .ok (.istore_n 3, 1) := by decide +kernel
