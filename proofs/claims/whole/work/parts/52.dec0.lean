theorem dX0_init_0 : decode cX0_init 0 = .ok (.aload_n 0, 1) := by decide +kernel
theorem dX0_init_1 : decode cX0_init 1 = .ok (.invokespecial 3, 3) := by decide +kernel
theorem dX0_init_4 : decode cX0_init 4 = .ok (.aload_n 0, 1) := by decide +kernel
theorem dX0_init_5 : decode cX0_init 5 = .ok (.bipush 6, 2) := by decide +kernel
theorem dX0_init_7 : decode cX0_init 7 = .ok (.newarray .int, 2) := by decide +kernel
theorem dX0_init_9 : decode cX0_init 9 = .ok (.putfield 9, 3) := by decide +kernel
theorem dX0_init_12 : decode cX0_init 12 = .ok (.aload_n 0, 1) := by decide +kernel
theorem dX0_init_13 : decode cX0_init 13 = .ok (.sipush 246, 3) := by decide +kernel
theorem dX0_init_16 : decode cX0_init 16 = .ok (.newarray .int, 2) := by decide +kernel
theorem dX0_init_18 : decode cX0_init 18 = .ok (.putfield 15, 3) := by decide +kernel
theorem dX0_init_21 : decode cX0_init 21 = .ok (.return_, 1) := by decide +kernel
theorem dX0_settle_0 : decode cX0_settle 0 = .ok (.aload_n 0, 1) := by decide +kernel
theorem dX0_settle_1 : decode cX0_settle 1 = .ok (.iload_n 2, 1) := by decide +kernel
theorem dX0_settle_2 : decode cX0_settle 2 = .ok (.putfield 18, 3) := by decide +kernel
theorem dX0_settle_5 : decode cX0_settle 5 = .ok (.aload_n 0, 1) := by decide +kernel
theorem dX0_settle_6 : decode cX0_settle 6 = .ok (.getfield 9, 3) := by decide +kernel
theorem dX0_settle_9 : decode cX0_settle 9 = .ok (.iconst 0, 1) := by decide +kernel
theorem dX0_settle_10 : decode cX0_settle 10 = .ok (.invokestatic 22, 3) := by decide +kernel
theorem dX0_settle_13 : decode cX0_settle 13 = .ok (.iconst 0, 1) := by decide +kernel
theorem dX0_settle_14 : decode cX0_settle 14 = .ok (.istore_n 3, 1) := by decide +kernel
theorem dX0_settle_15 : decode cX0_settle 15 = .ok (.iload_n 3, 1) := by decide +kernel
theorem dX0_settle_16 : decode cX0_settle 16 = .ok (.aload_n 1, 1) := by decide +kernel
theorem dX0_settle_17 : decode cX0_settle 17 = .ok (.getfield 28, 3) := by decide +kernel
theorem dX0_settle_20 : decode cX0_settle 20 = .ok (.if_icmp .ge 94, 3) := by decide +kernel
theorem dX0_settle_23 : decode cX0_settle 23 = .ok (.iconst 0, 1) := by decide +kernel
theorem dX0_settle_24 : decode cX0_settle 24 = .ok (.istore 4, 2) := by decide +kernel
theorem dX0_settle_26 : decode cX0_settle 26 = .ok (.iload 4, 2) := by decide +kernel
theorem dX0_settle_28 : decode cX0_settle 28 = .ok (.aload_n 1, 1) := by decide +kernel
theorem dX0_settle_29 : decode cX0_settle 29 = .ok (.getfield 28, 3) := by decide +kernel
theorem dX0_settle_32 : decode cX0_settle 32 = .ok (.if_icmp .ge 76, 3) := by decide +kernel
theorem dX0_settle_35 : decode cX0_settle 35 = .ok (.iconst 0, 1) := by decide +kernel
theorem dX0_settle_36 : decode cX0_settle 36 = .ok (.istore 5, 2) := by decide +kernel
theorem dX0_settle_38 : decode cX0_settle 38 = .ok (.iload 5, 2) := by decide +kernel
theorem dX0_settle_40 : decode cX0_settle 40 = .ok (.aload_n 1, 1) := by decide +kernel
theorem dX0_settle_41 : decode cX0_settle 41 = .ok (.getfield 28, 3) := by decide +kernel
theorem dX0_settle_44 : decode cX0_settle 44 = .ok (.if_icmp .ge 58, 3) := by decide +kernel
theorem dX0_settle_47 : decode cX0_settle 47 = .ok (.aload_n 1, 1) := by decide +kernel
theorem dX0_settle_48 : decode cX0_settle 48 = .ok (.iload 4, 2) := by decide +kernel
theorem dX0_settle_50 : decode cX0_settle 50 = .ok (.iload 5, 2) := by decide +kernel
theorem dX0_settle_52 : decode cX0_settle 52 = .ok (.invokevirtual 33, 3) := by decide +kernel
theorem dX0_settle_55 : decode cX0_settle 55 = .ok (.istore 6, 2) := by decide +kernel
theorem dX0_settle_57 : decode cX0_settle 57 = .ok (.iload 6, 2) := by decide +kernel
theorem dX0_settle_59 : decode cX0_settle 59 = .ok (.bipush (-9), 2) := by decide +kernel
theorem dX0_settle_61 : decode cX0_settle 61 = .ok (.if_icmp .eq 35, 3) := by decide +kernel
theorem dX0_settle_64 : decode cX0_settle 64 = .ok (.aload_n 0, 1) := by decide +kernel
theorem dX0_settle_65 : decode cX0_settle 65 = .ok (.getfield 9, 3) := by decide +kernel
theorem dX0_settle_68 : decode cX0_settle 68 = .ok (.iload 5, 2) := by decide +kernel
theorem dX0_settle_70 : decode cX0_settle 70 = .ok (.aload_n 0, 1) := by decide +kernel
theorem dX0_settle_71 : decode cX0_settle 71 = .ok (.getfield 9, 3) := by decide +kernel
theorem dX0_settle_74 : decode cX0_settle 74 = .ok (.iload 5, 2) := by decide +kernel
theorem dX0_settle_76 : decode cX0_settle 76 = .ok (.iaload, 1) := by decide +kernel
theorem dX0_settle_77 : decode cX0_settle 77 = .ok (.aload_n 0, 1) := by decide +kernel
theorem dX0_settle_78 : decode cX0_settle 78 = .ok (.getfield 9, 3) := by decide +kernel
theorem dX0_settle_81 : decode cX0_settle 81 = .ok (.iload 4, 2) := by decide +kernel
theorem dX0_settle_83 : decode cX0_settle 83 = .ok (.iaload, 1) := by decide +kernel
theorem dX0_settle_84 : decode cX0_settle 84 = .ok (.iload 6, 2) := by decide +kernel
theorem dX0_settle_86 : decode cX0_settle 86 = .ok (.iadd, 1) := by decide +kernel
theorem dX0_settle_87 : decode cX0_settle 87 = .ok (.aload_n 0, 1) := by decide +kernel
theorem dX0_settle_88 : decode cX0_settle 88 = .ok (.getfield 18, 3) := by decide +kernel
theorem dX0_settle_91 : decode cX0_settle 91 = .ok (.isub, 1) := by decide +kernel
theorem dX0_settle_92 : decode cX0_settle 92 = .ok (.invokestatic 37, 3) := by decide +kernel
theorem dX0_settle_95 : decode cX0_settle 95 = .ok (.iastore, 1) := by decide +kernel
theorem dX0_settle_96 : decode cX0_settle 96 = .ok (.iinc 5 1, 3) := by decide +kernel
theorem dX0_settle_99 : decode cX0_settle 99 = .ok (.goto (-61), 3) := by decide +kernel
theorem dX0_settle_102 : decode cX0_settle 102 = .ok (.iinc 4 1, 3) := by decide +kernel
theorem dX0_settle_105 : decode cX0_settle 105 = .ok (.goto (-79), 3) := by decide +kernel
theorem dX0_settle_108 : decode cX0_settle 108 = .ok (.iinc 3 1, 3) := by decide +kernel
theorem dX0_settle_111 : decode cX0_settle 111 = .ok (.goto (-96), 3) := by decide +kernel
theorem dX0_settle_114 : decode cX0_settle 114 = .ok (.return_, 1) := by decide +kernel
theorem dX0_timeOf_0 : decode cX0_timeOf 0 = .ok (.iload_n 1, 1) := by decide +kernel
theorem dX0_timeOf_1 : decode cX0_timeOf 1 = .ok (.ifCond .lt 18, 3) := by decide +kernel
theorem dX0_timeOf_4 : decode cX0_timeOf 4 = .ok (.iload_n 1, 1) := by decide +kernel
theorem dX0_timeOf_5 : decode cX0_timeOf 5 = .ok (.bipush 6, 2) := by decide +kernel
theorem dX0_timeOf_7 : decode cX0_timeOf 7 = .ok (.if_icmp .ge 12, 3) := by decide +kernel
theorem dX0_timeOf_10 : decode cX0_timeOf 10 = .ok (.aload_n 0, 1) := by decide +kernel
theorem dX0_timeOf_11 : decode cX0_timeOf 11 = .ok (.getfield 9, 3) := by decide +kernel
theorem dX0_timeOf_14 : decode cX0_timeOf 14 = .ok (.iload_n 1, 1) := by decide +kernel
theorem dX0_timeOf_15 : decode cX0_timeOf 15 = .ok (.iaload, 1) := by decide +kernel
theorem dX0_timeOf_16 : decode cX0_timeOf 16 = .ok (.goto 4, 3) := by decide +kernel
theorem dX0_timeOf_19 : decode cX0_timeOf 19 = .ok (.iconst 0, 1) := by decide +kernel
theorem dX0_timeOf_20 : decode cX0_timeOf 20 = .ok (.ireturn, 1) := by decide +kernel
theorem dX0_spareOf_0 : decode cX0_spareOf 0 = .ok (.aload_n 0, 1) := by decide +kernel
theorem dX0_spareOf_1 : decode cX0_spareOf 1 = .ok (.iload_n 3, 1) := by decide +kernel
theorem dX0_spareOf_2 : decode cX0_spareOf 2 = .ok (.invokevirtual 42, 3) := by decide +kernel
theorem dX0_spareOf_5 : decode cX0_spareOf 5 = .ok (.aload_n 0, 1) := by decide +kernel
theorem dX0_spareOf_6 : decode cX0_spareOf 6 = .ok (.getfield 18, 3) := by decide +kernel
theorem dX0_spareOf_9 : decode cX0_spareOf 9 = .ok (.iadd, 1) := by decide +kernel
theorem dX0_spareOf_10 : decode cX0_spareOf 10 = .ok (.aload_n 0, 1) := by decide +kernel
theorem dX0_spareOf_11 : decode cX0_spareOf 11 = .ok (.iload_n 2, 1) := by decide +kernel
theorem dX0_spareOf_12 : decode cX0_spareOf 12 = .ok (.invokevirtual 42, 3) := by decide +kernel
theorem dX0_spareOf_15 : decode cX0_spareOf 15 = .ok (.isub, 1) := by decide +kernel
theorem dX0_spareOf_16 : decode cX0_spareOf 16 = .ok (.aload_n 1, 1) := by decide +kernel
theorem dX0_spareOf_17 : decode cX0_spareOf 17 = .ok (.iload_n 2, 1) := by decide +kernel
theorem dX0_spareOf_18 : decode cX0_spareOf 18 = .ok (.iload_n 3, 1) := by decide +kernel
theorem dX0_spareOf_19 : decode cX0_spareOf 19 = .ok (.invokevirtual 33, 3) := by decide +kernel
theorem dX0_spareOf_22 : decode cX0_spareOf 22 = .ok (.isub, 1) := by decide +kernel
theorem dX0_spareOf_23 : decode cX0_spareOf 23 = .ok (.ireturn, 1) := by decide +kernel
theorem dX0_spread_0 : decode cX0_spread 0 = .ok (.iconst 0, 1) := by decide +kernel
theorem dX0_spread_1 : decode cX0_spread 1 = .ok (.istore 4, 2) := by decide +kernel
theorem dX0_spread_3 : decode cX0_spread 3 = .ok (.iload 4, 2) := by decide +kernel
theorem dX0_spread_5 : decode cX0_spread 5 = .ok (.aload_n 1, 1) := by decide +kernel
theorem dX0_spread_6 : decode cX0_spread 6 = .ok (.getfield 28, 3) := by decide +kernel
theorem dX0_spread_9 : decode cX0_spread 9 = .ok (.if_icmp .ge 28, 3) := by decide +kernel
theorem dX0_spread_12 : decode cX0_spread 12 = .ok (.aload_n 0, 1) := by decide +kernel
theorem dX0_spread_13 : decode cX0_spread 13 = .ok (.getfield 15, 3) := by decide +kernel
theorem dX0_spread_16 : decode cX0_spread 16 = .ok (.iload 4, 2) := by decide +kernel
theorem dX0_spread_18 : decode cX0_spread 18 = .ok (.iload 4, 2) := by decide +kernel
theorem dX0_spread_20 : decode cX0_spread 20 = .ok (.iload_n 2, 1) := by decide +kernel
theorem dX0_spread_21 : decode cX0_spread 21 = .ok (.if_icmp .ne 7, 3) := by decide +kernel
theorem dX0_spread_24 : decode cX0_spread 24 = .ok (.iconst 0, 1) := by decide +kernel
theorem dX0_spread_25 : decode cX0_spread 25 = .ok (.goto 5, 3) := by decide +kernel
theorem dX0_spread_28 : decode cX0_spread 28 = .ok (.ldc 46, 2) := by decide +kernel
theorem dX0_spread_30 : decode cX0_spread 30 = .ok (.iastore, 1) := by decide +kernel
theorem dX0_spread_31 : decode cX0_spread 31 = .ok (.iinc 4 1, 3) := by decide +kernel
theorem dX0_spread_34 : decode cX0_spread 34 = .ok (.goto (-31), 3) := by decide +kernel
theorem dX0_spread_37 : decode cX0_spread 37 = .ok (.iconst 1, 1) := by decide +kernel
theorem dX0_spread_38 : decode cX0_spread 38 = .ok (.istore 4, 2) := by decide +kernel
theorem dX0_spread_40 : decode cX0_spread 40 = .ok (.iload 4, 2) := by decide +kernel
theorem dX0_spread_42 : decode cX0_spread 42 = .ok (.iload_n 3, 1) := by decide +kernel
theorem dX0_spread_43 : decode cX0_spread 43 = .ok (.if_icmp .gt 58, 3) := by decide +kernel
theorem dX0_spread_46 : decode cX0_spread 46 = .ok (.iload 4, 2) := by decide +kernel
theorem dX0_spread_48 : decode cX0_spread 48 = .ok (.bipush 40, 2) := by decide +kernel
theorem dX0_spread_50 : decode cX0_spread 50 = .ok (.if_icmp .gt 51, 3) := by decide +kernel
theorem dX0_spread_53 : decode cX0_spread 53 = .ok (.iconst 0, 1) := by decide +kernel
theorem dX0_spread_54 : decode cX0_spread 54 = .ok (.istore 5, 2) := by decide +kernel
theorem dX0_spread_56 : decode cX0_spread 56 = .ok (.iload 5, 2) := by decide +kernel
theorem dX0_spread_58 : decode cX0_spread 58 = .ok (.aload_n 1, 1) := by decide +kernel
theorem dX0_spread_59 : decode cX0_spread 59 = .ok (.getfield 28, 3) := by decide +kernel
theorem dX0_spread_62 : decode cX0_spread 62 = .ok (.if_icmp .ge 33, 3) := by decide +kernel
theorem dX0_spread_65 : decode cX0_spread 65 = .ok (.aload_n 0, 1) := by decide +kernel
theorem dX0_spread_66 : decode cX0_spread 66 = .ok (.getfield 15, 3) := by decide +kernel
theorem dX0_spread_69 : decode cX0_spread 69 = .ok (.iload 4, 2) := by decide +kernel
theorem dX0_spread_71 : decode cX0_spread 71 = .ok (.bipush 6, 2) := by decide +kernel
theorem dX0_spread_73 : decode cX0_spread 73 = .ok (.imul, 1) := by decide +kernel
theorem dX0_spread_74 : decode cX0_spread 74 = .ok (.iload 5, 2) := by decide +kernel
theorem dX0_spread_76 : decode cX0_spread 76 = .ok (.iadd, 1) := by decide +kernel
theorem dX0_spread_77 : decode cX0_spread 77 = .ok (.aload_n 0, 1) := by decide +kernel
theorem dX0_spread_78 : decode cX0_spread 78 = .ok (.aload_n 1, 1) := by decide +kernel
theorem dX0_spread_79 : decode cX0_spread 79 = .ok (.iload 4, 2) := by decide +kernel
theorem dX0_spread_81 : decode cX0_spread 81 = .ok (.iconst 1, 1) := by decide +kernel
theorem dX0_spread_82 : decode cX0_spread 82 = .ok (.isub, 1) := by decide +kernel
theorem dX0_spread_83 : decode cX0_spread 83 = .ok (.iload 5, 2) := by decide +kernel
theorem dX0_spread_85 : decode cX0_spread 85 = .ok (.invokevirtual 47, 3) := by decide +kernel
theorem dX0_spread_88 : decode cX0_spread 88 = .ok (.iastore, 1) := by decide +kernel
theorem dX0_spread_89 : decode cX0_spread 89 = .ok (.iinc 5 1, 3) := by decide +kernel
theorem dX0_spread_92 : decode cX0_spread 92 = .ok (.goto (-36), 3) := by decide +kernel
theorem dX0_spread_95 : decode cX0_spread 95 = .ok (.iinc 4 1, 3) := by decide +kernel
theorem dX0_spread_98 : decode cX0_spread 98 = .ok (.goto (-58), 3) := by decide +kernel
theorem dX0_spread_101 : decode cX0_spread 101 = .ok (.return_, 1) := by decide +kernel
theorem dX0_leastSpare_0 : decode cX0_leastSpare 0 = .ok (.ldc 46, 2) := by decide +kernel
theorem dX0_leastSpare_2 : decode cX0_leastSpare 2 = .ok (.istore 4, 2) := by decide +kernel
theorem dX0_leastSpare_4 : decode cX0_leastSpare 4 = .ok (.iconst 0, 1) := by decide +kernel
theorem dX0_leastSpare_5 : decode cX0_leastSpare 5 = .ok (.istore 5, 2) := by decide +kernel
theorem dX0_leastSpare_7 : decode cX0_leastSpare 7 = .ok (.iload 5, 2) := by decide +kernel
theorem dX0_leastSpare_9 : decode cX0_leastSpare 9 = .ok (.aload_n 1, 1) := by decide +kernel
theorem dX0_leastSpare_10 : decode cX0_leastSpare 10 = .ok (.getfield 28, 3) := by decide +kernel
theorem dX0_leastSpare_13 : decode cX0_leastSpare 13 = .ok (.if_icmp .ge 60, 3) := by decide +kernel
theorem dX0_leastSpare_16 : decode cX0_leastSpare 16 = .ok (.aload_n 0, 1) := by decide +kernel
theorem dX0_leastSpare_17 : decode cX0_leastSpare 17 = .ok (.getfield 15, 3) := by decide +kernel
theorem dX0_leastSpare_20 : decode cX0_leastSpare 20 = .ok (.iload_n 2, 1) := by decide +kernel
theorem dX0_leastSpare_21 : decode cX0_leastSpare 21 = .ok (.bipush 6, 2) := by decide +kernel
theorem dX0_leastSpare_23 : decode cX0_leastSpare 23 = .ok (.imul, 1) := by decide +kernel
theorem dX0_leastSpare_24 : decode cX0_leastSpare 24 = .ok (.iload 5, 2) := by decide +kernel
theorem dX0_leastSpare_26 : decode cX0_leastSpare 26 = .ok (.iadd, 1) := by decide +kernel
theorem dX0_leastSpare_27 : decode cX0_leastSpare 27 = .ok (.iaload, 1) := by decide +kernel
theorem dX0_leastSpare_28 : decode cX0_leastSpare 28 = .ok (.istore 6, 2) := by decide +kernel
theorem dX0_leastSpare_30 : decode cX0_leastSpare 30 = .ok (.iload 6, 2) := by decide +kernel
theorem dX0_leastSpare_32 : decode cX0_leastSpare 32 = .ok (.ldc 46, 2) := by decide +kernel
theorem dX0_leastSpare_34 : decode cX0_leastSpare 34 = .ok (.if_icmp .eq 33, 3) := by decide +kernel
theorem dX0_leastSpare_37 : decode cX0_leastSpare 37 = .ok (.aload_n 1, 1) := by decide +kernel
theorem dX0_leastSpare_38 : decode cX0_leastSpare 38 = .ok (.iload 5, 2) := by decide +kernel
theorem dX0_leastSpare_40 : decode cX0_leastSpare 40 = .ok (.iload_n 3, 1) := by decide +kernel
theorem dX0_leastSpare_41 : decode cX0_leastSpare 41 = .ok (.invokevirtual 33, 3) := by decide +kernel
theorem dX0_leastSpare_44 : decode cX0_leastSpare 44 = .ok (.bipush (-9), 2) := by decide +kernel
theorem dX0_leastSpare_46 : decode cX0_leastSpare 46 = .ok (.if_icmp .eq 21, 3) := by decide +kernel
theorem dX0_leastSpare_49 : decode cX0_leastSpare 49 = .ok (.iload 4, 2) := by decide +kernel
theorem dX0_leastSpare_51 : decode cX0_leastSpare 51 = .ok (.iload 6, 2) := by decide +kernel
theorem dX0_leastSpare_53 : decode cX0_leastSpare 53 = .ok (.aload_n 0, 1) := by decide +kernel
theorem dX0_leastSpare_54 : decode cX0_leastSpare 54 = .ok (.aload_n 1, 1) := by decide +kernel
theorem dX0_leastSpare_55 : decode cX0_leastSpare 55 = .ok (.iload 5, 2) := by decide +kernel
theorem dX0_leastSpare_57 : decode cX0_leastSpare 57 = .ok (.iload_n 3, 1) := by decide +kernel
theorem dX0_leastSpare_58 : decode cX0_leastSpare 58 = .ok (.invokevirtual 51, 3) := by decide +kernel
theorem dX0_leastSpare_61 : decode cX0_leastSpare 61 = .ok (.iadd, 1) := by decide +kernel
theorem dX0_leastSpare_62 : decode cX0_leastSpare 62 = .ok (.invokestatic 54, 3) := by decide +kernel
theorem dX0_leastSpare_65 : decode cX0_leastSpare 65 = .ok (.istore 4, 2) := by decide +kernel
theorem dX0_leastSpare_67 : decode cX0_leastSpare 67 = .ok (.iinc 5 1, 3) := by decide +kernel
theorem dX0_leastSpare_70 : decode cX0_leastSpare 70 = .ok (.goto (-63), 3) := by decide +kernel
theorem dX0_leastSpare_73 : decode cX0_leastSpare 73 = .ok (.iload 4, 2) := by decide +kernel
theorem dX0_leastSpare_75 : decode cX0_leastSpare 75 = .ok (.ireturn, 1) := by decide +kernel
theorem dX0_lateness_0 : decode cX0_lateness 0 = .ok (.iload_n 2, 1) := by decide +kernel
theorem dX0_lateness_1 : decode cX0_lateness 1 = .ok (.ifCond .lt 19, 3) := by decide +kernel
theorem dX0_lateness_4 : decode cX0_lateness 4 = .ok (.iload_n 2, 1) := by decide +kernel
theorem dX0_lateness_5 : decode cX0_lateness 5 = .ok (.bipush 6, 2) := by decide +kernel
theorem dX0_lateness_7 : decode cX0_lateness 7 = .ok (.if_icmp .ge 13, 3) := by decide +kernel
theorem dX0_lateness_10 : decode cX0_lateness 10 = .ok (.iload_n 3, 1) := by decide +kernel
theorem dX0_lateness_11 : decode cX0_lateness 11 = .ok (.ifCond .lt 9, 3) := by decide +kernel
theorem dX0_lateness_14 : decode cX0_lateness 14 = .ok (.iload_n 3, 1) := by decide +kernel
theorem dX0_lateness_15 : decode cX0_lateness 15 = .ok (.bipush 40, 2) := by decide +kernel
theorem dX0_lateness_17 : decode cX0_lateness 17 = .ok (.if_icmp .le 5, 3) := by decide +kernel
theorem dX0_lateness_20 : decode cX0_lateness 20 = .ok (.iconst 0, 1) := by decide +kernel
theorem dX0_lateness_21 : decode cX0_lateness 21 = .ok (.ireturn, 1) := by decide +kernel
theorem dX0_lateness_22 : decode cX0_lateness 22 = .ok (.iconst 0, 1) := by decide +kernel
theorem dX0_lateness_23 : decode cX0_lateness 23 = .ok (.iload_n 1, 1) := by decide +kernel
theorem dX0_lateness_24 : decode cX0_lateness 24 = .ok (.aload_n 0, 1) := by decide +kernel
theorem dX0_lateness_25 : decode cX0_lateness 25 = .ok (.getfield 15, 3) := by decide +kernel
theorem dX0_lateness_28 : decode cX0_lateness 28 = .ok (.iload_n 3, 1) := by decide +kernel
theorem dX0_lateness_29 : decode cX0_lateness 29 = .ok (.bipush 6, 2) := by decide +kernel
theorem dX0_lateness_31 : decode cX0_lateness 31 = .ok (.imul, 1) := by decide +kernel
theorem dX0_lateness_32 : decode cX0_lateness 32 = .ok (.iload_n 2, 1) := by decide +kernel
theorem dX0_lateness_33 : decode cX0_lateness 33 = .ok (.iadd, 1) := by decide +kernel
theorem dX0_lateness_34 : decode cX0_lateness 34 = .ok (.iaload, 1) := by decide +kernel
theorem dX0_lateness_35 : decode cX0_lateness 35 = .ok (.isub, 1) := by decide +kernel
theorem dX0_lateness_36 : decode cX0_lateness 36 = .ok (.invokestatic 37, 3) := by decide +kernel
theorem dX0_lateness_39 : decode cX0_lateness 39 = .ok (.ireturn, 1) := by decide +kernel
theorem dX0_firstQuietRound_0 : decode cX0_firstQuietRound 0 = .ok (.iconst 1, 1) := by decide +kernel
theorem dX0_firstQuietRound_1 : decode cX0_firstQuietRound 1 = .ok (.istore_n 3, 1) := by decide +kernel
theorem dX0_firstQuietRound_2 : decode cX0_firstQuietRound 2 = .ok (.iload_n 3, 1) := by decide +kernel
theorem dX0_firstQuietRound_3 : decode cX0_firstQuietRound 3 = .ok (.bipush 40, 2) := by decide +kernel
theorem dX0_firstQuietRound_5 : decode cX0_firstQuietRound 5 = .ok (.if_icmp .gt 49, 3) := by decide +kernel
theorem dX0_firstQuietRound_8 : decode cX0_firstQuietRound 8 = .ok (.iconst 0, 1) := by decide +kernel
theorem dX0_firstQuietRound_9 : decode cX0_firstQuietRound 9 = .ok (.istore 4, 2) := by decide +kernel
theorem dX0_firstQuietRound_11 : decode cX0_firstQuietRound 11 = .ok (.iconst 0, 1) := by decide +kernel
theorem dX0_firstQuietRound_12 : decode cX0_firstQuietRound 12 = .ok (.istore 5, 2) := by decide +kernel
theorem dX0_firstQuietRound_14 : decode cX0_firstQuietRound 14 = .ok (.iload 5, 2) := by decide +kernel
theorem dX0_firstQuietRound_16 : decode cX0_firstQuietRound 16 = .ok (.iload_n 2, 1) := by decide +kernel
theorem dX0_firstQuietRound_17 : decode cX0_firstQuietRound 17 = .ok (.if_icmp .ge 24, 3) := by decide +kernel
theorem dX0_firstQuietRound_20 : decode cX0_firstQuietRound 20 = .ok (.iload 4, 2) := by decide +kernel
theorem dX0_firstQuietRound_22 : decode cX0_firstQuietRound 22 = .ok (.aload_n 0, 1) := by decide +kernel
theorem dX0_firstQuietRound_23 : decode cX0_firstQuietRound 23 = .ok (.iload_n 1, 1) := by decide +kernel
theorem dX0_firstQuietRound_24 : decode cX0_firstQuietRound 24 = .ok (.iload 5, 2) := by decide +kernel
theorem dX0_firstQuietRound_26 : decode cX0_firstQuietRound 26 = .ok (.iload_n 3, 1) := by decide +kernel
theorem dX0_firstQuietRound_27 : decode cX0_firstQuietRound 27 = .ok (.invokevirtual 57, 3) := by decide +kernel
theorem dX0_firstQuietRound_30 : decode cX0_firstQuietRound 30 = .ok (.invokestatic 37, 3) := by decide +kernel
theorem dX0_firstQuietRound_33 : decode cX0_firstQuietRound 33 = .ok (.istore 4, 2) := by decide +kernel
theorem dX0_firstQuietRound_35 : decode cX0_firstQuietRound 35 = .ok (.iinc 5 1, 3) := by decide +kernel
theorem dX0_firstQuietRound_38 : decode cX0_firstQuietRound 38 = .ok (.goto (-24), 3) := by decide +kernel
theorem dX0_firstQuietRound_41 : decode cX0_firstQuietRound 41 = .ok (.iload 4, 2) := by decide +kernel
theorem dX0_firstQuietRound_43 : decode cX0_firstQuietRound 43 = .ok (.ifCond .ne 5, 3) := by decide +kernel
theorem dX0_firstQuietRound_46 : decode cX0_firstQuietRound 46 = .ok (.iload_n 3, 1) := by decide +kernel
theorem dX0_firstQuietRound_47 : decode cX0_firstQuietRound 47 = .ok (.ireturn, 1) := by decide +kernel
theorem dX0_firstQuietRound_48 : decode cX0_firstQuietRound 48 = .ok (.iinc 3 1, 3) := by decide +kernel
theorem dX0_firstQuietRound_51 : decode cX0_firstQuietRound 51 = .ok (.goto (-49), 3) := by decide +kernel
theorem dX0_firstQuietRound_54 : decode cX0_firstQuietRound 54 = .ok (.bipush (-9), 2) := by decide +kernel
theorem dX0_firstQuietRound_56 : decode cX0_firstQuietRound 56 = .ok (.ireturn, 1) := by decide +kernel
theorem dX1_init_0 : decode cX1_init 0 = .ok (.aload_n 0, 1) := by decide +kernel
theorem dX1_init_1 : decode cX1_init 1 = .ok (.invokespecial 3, 3) := by decide +kernel
theorem dX1_init_4 : decode cX1_init 4 = .ok (.aload_n 0, 1) := by decide +kernel
theorem dX1_init_5 : decode cX1_init 5 = .ok (.bipush 14, 2) := by decide +kernel
theorem dX1_init_7 : decode cX1_init 7 = .ok (.newarray .int, 2) := by decide +kernel
theorem dX1_init_9 : decode cX1_init 9 = .ok (.putfield 9, 3) := by decide +kernel
theorem dX1_init_12 : decode cX1_init 12 = .ok (.aload_n 0, 1) := by decide +kernel
theorem dX1_init_13 : decode cX1_init 13 = .ok (.bipush 14, 2) := by decide +kernel
theorem dX1_init_15 : decode cX1_init 15 = .ok (.newarray .int, 2) := by decide +kernel
theorem dX1_init_17 : decode cX1_init 17 = .ok (.putfield 15, 3) := by decide +kernel
theorem dX1_init_20 : decode cX1_init 20 = .ok (.aload_n 0, 1) := by decide +kernel
theorem dX1_init_21 : decode cX1_init 21 = .ok (.bipush 14, 2) := by decide +kernel
theorem dX1_init_23 : decode cX1_init 23 = .ok (.newarray .int, 2) := by decide +kernel
theorem dX1_init_25 : decode cX1_init 25 = .ok (.putfield 18, 3) := by decide +kernel
theorem dX1_init_28 : decode cX1_init 28 = .ok (.return_, 1) := by decide +kernel
theorem dX1_forget_0 : decode cX1_forget 0 = .ok (.aload_n 0, 1) := by decide +kernel
theorem dX1_forget_1 : decode cX1_forget 1 = .ok (.iconst 0, 1) := by decide +kernel
theorem dX1_forget_2 : decode cX1_forget 2 = .ok (.putfield 21, 3) := by decide +kernel
theorem dX1_forget_5 : decode cX1_forget 5 = .ok (.return_, 1) := by decide +kernel
theorem dX1_add_0 : decode cX1_add 0 = .ok (.aload_n 0, 1) := by decide +kernel
theorem dX1_add_1 : decode cX1_add 1 = .ok (.getfield 21, 3) := by decide +kernel
theorem dX1_add_4 : decode cX1_add 4 = .ok (.bipush 14, 2) := by decide +kernel
theorem dX1_add_6 : decode cX1_add 6 = .ok (.if_icmp .lt 7, 3) := by decide +kernel
theorem dX1_add_9 : decode cX1_add 9 = .ok (.aload_n 0, 1) := by decide +kernel
theorem dX1_add_10 : decode cX1_add 10 = .ok (.invokevirtual 25, 3) := by decide +kernel
theorem dX1_add_13 : decode cX1_add 13 = .ok (.aload_n 0, 1) := by decide +kernel
theorem dX1_add_14 : decode cX1_add 14 = .ok (.getfield 21, 3) := by decide +kernel
theorem dX1_add_17 : decode cX1_add 17 = .ok (.ifCond .lt 12, 3) := by decide +kernel
theorem dX1_add_20 : decode cX1_add 20 = .ok (.aload_n 0, 1) := by decide +kernel
theorem dX1_add_21 : decode cX1_add 21 = .ok (.getfield 21, 3) := by decide +kernel
theorem dX1_add_24 : decode cX1_add 24 = .ok (.bipush 14, 2) := by decide +kernel
theorem dX1_add_26 : decode cX1_add 26 = .ok (.if_icmp .lt 4, 3) := by decide +kernel
theorem dX1_add_29 : decode cX1_add 29 = .ok (.return_, 1) := by decide +kernel
theorem dX1_add_30 : decode cX1_add 30 = .ok (.aload_n 0, 1) := by decide +kernel
theorem dX1_add_31 : decode cX1_add 31 = .ok (.getfield 9, 3) := by decide +kernel
theorem dX1_add_34 : decode cX1_add 34 = .ok (.aload_n 0, 1) := by decide +kernel
theorem dX1_add_35 : decode cX1_add 35 = .ok (.getfield 21, 3) := by decide +kernel
theorem dX1_add_38 : decode cX1_add 38 = .ok (.iload_n 1, 1) := by decide +kernel
theorem dX1_add_39 : decode cX1_add 39 = .ok (.iastore, 1) := by decide +kernel
theorem dX1_add_40 : decode cX1_add 40 = .ok (.aload_n 0, 1) := by decide +kernel
theorem dX1_add_41 : decode cX1_add 41 = .ok (.getfield 15, 3) := by decide +kernel
theorem dX1_add_44 : decode cX1_add 44 = .ok (.aload_n 0, 1) := by decide +kernel
theorem dX1_add_45 : decode cX1_add 45 = .ok (.getfield 21, 3) := by decide +kernel
theorem dX1_add_48 : decode cX1_add 48 = .ok (.iload_n 2, 1) := by decide +kernel
theorem dX1_add_49 : decode cX1_add 49 = .ok (.iastore, 1) := by decide +kernel
theorem dX1_add_50 : decode cX1_add 50 = .ok (.aload_n 0, 1) := by decide +kernel
theorem dX1_add_51 : decode cX1_add 51 = .ok (.getfield 18, 3) := by decide +kernel
theorem dX1_add_54 : decode cX1_add 54 = .ok (.aload_n 0, 1) := by decide +kernel
theorem dX1_add_55 : decode cX1_add 55 = .ok (.getfield 21, 3) := by decide +kernel
theorem dX1_add_58 : decode cX1_add 58 = .ok (.iload_n 3, 1) := by decide +kernel
theorem dX1_add_59 : decode cX1_add 59 = .ok (.iastore, 1) := by decide +kernel
theorem dX1_add_60 : decode cX1_add 60 = .ok (.aload_n 0, 1) := by decide +kernel
theorem dX1_add_61 : decode cX1_add 61 = .ok (.dup, 1) := by decide +kernel
theorem dX1_add_62 : decode cX1_add 62 = .ok (.getfield 21, 3) := by decide +kernel
theorem dX1_add_65 : decode cX1_add 65 = .ok (.iconst 1, 1) := by decide +kernel
theorem dX1_add_66 : decode cX1_add 66 = .ok (.iadd, 1) := by decide +kernel
theorem dX1_add_67 : decode cX1_add 67 = .ok (.putfield 21, 3) := by decide +kernel
theorem dX1_add_70 : decode cX1_add 70 = .ok (.return_, 1) := by decide +kernel
theorem dX1_takeBack_0 : decode cX1_takeBack 0 = .ok (.aload_n 0, 1) := by decide +kernel
theorem dX1_takeBack_1 : decode cX1_takeBack 1 = .ok (.getfield 21, 3) := by decide +kernel
theorem dX1_takeBack_4 : decode cX1_takeBack 4 = .ok (.iconst 1, 1) := by decide +kernel
theorem dX1_takeBack_5 : decode cX1_takeBack 5 = .ok (.if_icmp .lt 12, 3) := by decide +kernel
theorem dX1_takeBack_8 : decode cX1_takeBack 8 = .ok (.aload_n 0, 1) := by decide +kernel
theorem dX1_takeBack_9 : decode cX1_takeBack 9 = .ok (.getfield 21, 3) := by decide +kernel
theorem dX1_takeBack_12 : decode cX1_takeBack 12 = .ok (.bipush 14, 2) := by decide +kernel
theorem dX1_takeBack_14 : decode cX1_takeBack 14 = .ok (.if_icmp .le 4, 3) := by decide +kernel
theorem dX1_takeBack_17 : decode cX1_takeBack 17 = .ok (.return_, 1) := by decide +kernel
theorem dX1_takeBack_18 : decode cX1_takeBack 18 = .ok (.aload_n 0, 1) := by decide +kernel
theorem dX1_takeBack_19 : decode cX1_takeBack 19 = .ok (.dup, 1) := by decide +kernel
theorem dX1_takeBack_20 : decode cX1_takeBack 20 = .ok (.getfield 21, 3) := by decide +kernel
theorem dX1_takeBack_23 : decode cX1_takeBack 23 = .ok (.iconst 1, 1) := by decide +kernel
theorem dX1_takeBack_24 : decode cX1_takeBack 24 = .ok (.isub, 1) := by decide +kernel
theorem dX1_takeBack_25 : decode cX1_takeBack 25 = .ok (.putfield 21, 3) := by decide +kernel
theorem dX1_takeBack_28 : decode cX1_takeBack 28 = .ok (.aload_n 1, 1) := by decide +kernel
theorem dX1_takeBack_29 : decode cX1_takeBack 29 = .ok (.aload_n 0, 1) := by decide +kernel
theorem dX1_takeBack_30 : decode cX1_takeBack 30 = .ok (.getfield 9, 3) := by decide +kernel
theorem dX1_takeBack_33 : decode cX1_takeBack 33 = .ok (.aload_n 0, 1) := by decide +kernel
theorem dX1_takeBack_34 : decode cX1_takeBack 34 = .ok (.getfield 21, 3) := by decide +kernel
theorem dX1_takeBack_37 : decode cX1_takeBack 37 = .ok (.iaload, 1) := by decide +kernel
theorem dX1_takeBack_38 : decode cX1_takeBack 38 = .ok (.aload_n 0, 1) := by decide +kernel
theorem dX1_takeBack_39 : decode cX1_takeBack 39 = .ok (.getfield 15, 3) := by decide +kernel
theorem dX1_takeBack_42 : decode cX1_takeBack 42 = .ok (.aload_n 0, 1) := by decide +kernel
theorem dX1_takeBack_43 : decode cX1_takeBack 43 = .ok (.getfield 21, 3) := by decide +kernel
theorem dX1_takeBack_46 : decode cX1_takeBack 46 = .ok (.iaload, 1) := by decide +kernel
theorem dX1_takeBack_47 : decode cX1_takeBack 47 = .ok (.aload_n 0, 1) := by decide +kernel
theorem dX1_takeBack_48 : decode cX1_takeBack 48 = .ok (.getfield 18, 3) := by decide +kernel
theorem dX1_takeBack_51 : decode cX1_takeBack 51 = .ok (.aload_n 0, 1) := by decide +kernel
theorem dX1_takeBack_52 : decode cX1_takeBack 52 = .ok (.getfield 21, 3) := by decide +kernel
theorem dX1_takeBack_55 : decode cX1_takeBack 55 = .ok (.iaload, 1) := by decide +kernel
theorem dX1_takeBack_56 : decode cX1_takeBack 56 = .ok (.invokevirtual 28, 3) := by decide +kernel
theorem dX1_takeBack_59 : decode cX1_takeBack 59 = .ok (.pop, 1) := by decide +kernel
theorem dX1_takeBack_60 : decode cX1_takeBack 60 = .ok (.return_, 1) := by decide +kernel
theorem dX1_forgetFirst_0 : decode cX1_forgetFirst 0 = .ok (.iconst 1, 1) := by decide +kernel
theorem dX1_forgetFirst_1 : decode cX1_forgetFirst 1 = .ok (.istore_n 1, 1) := by decide +kernel
theorem dX1_forgetFirst_2 : decode cX1_forgetFirst 2 = .ok (.iload_n 1, 1) := by decide +kernel
theorem dX1_forgetFirst_3 : decode cX1_forgetFirst 3 = .ok (.bipush 14, 2) := by decide +kernel
theorem dX1_forgetFirst_5 : decode cX1_forgetFirst 5 = .ok (.if_icmp .ge 51, 3) := by decide +kernel
theorem dX1_forgetFirst_8 : decode cX1_forgetFirst 8 = .ok (.aload_n 0, 1) := by decide +kernel
theorem dX1_forgetFirst_9 : decode cX1_forgetFirst 9 = .ok (.getfield 9, 3) := by decide +kernel
theorem dX1_forgetFirst_12 : decode cX1_forgetFirst 12 = .ok (.iload_n 1, 1) := by decide +kernel
theorem dX1_forgetFirst_13 : decode cX1_forgetFirst 13 = .ok (.iconst 1, 1) := by decide +kernel
theorem dX1_forgetFirst_14 : decode cX1_forgetFirst 14 = .ok (.isub, 1) := by decide +kernel
theorem dX1_forgetFirst_15 : decode cX1_forgetFirst 15 = .ok (.aload_n 0, 1) := by decide +kernel
theorem dX1_forgetFirst_16 : decode cX1_forgetFirst 16 = .ok (.getfield 9, 3) := by decide +kernel
theorem dX1_forgetFirst_19 : decode cX1_forgetFirst 19 = .ok (.iload_n 1, 1) := by decide +kernel
theorem dX1_forgetFirst_20 : decode cX1_forgetFirst 20 = .ok (.iaload, 1) := by decide +kernel
theorem dX1_forgetFirst_21 : decode cX1_forgetFirst 21 = .ok (.iastore, 1) := by decide +kernel
theorem dX1_forgetFirst_22 : decode cX1_forgetFirst 22 = .ok (.aload_n 0, 1) := by decide +kernel
theorem dX1_forgetFirst_23 : decode cX1_forgetFirst 23 = .ok (.getfield 15, 3) := by decide +kernel
theorem dX1_forgetFirst_26 : decode cX1_forgetFirst 26 = .ok (.iload_n 1, 1) := by decide +kernel
theorem dX1_forgetFirst_27 : decode cX1_forgetFirst 27 = .ok (.iconst 1, 1) := by decide +kernel
theorem dX1_forgetFirst_28 : decode cX1_forgetFirst 28 = .ok (.isub, 1) := by decide +kernel
theorem dX1_forgetFirst_29 : decode cX1_forgetFirst 29 = .ok (.aload_n 0, 1) := by decide +kernel
theorem dX1_forgetFirst_30 : decode cX1_forgetFirst 30 = .ok (.getfield 15, 3) := by decide +kernel
theorem dX1_forgetFirst_33 : decode cX1_forgetFirst 33 = .ok (.iload_n 1, 1) := by decide +kernel
theorem dX1_forgetFirst_34 : decode cX1_forgetFirst 34 = .ok (.iaload, 1) := by decide +kernel
theorem dX1_forgetFirst_35 : decode cX1_forgetFirst 35 = .ok (.iastore, 1) := by decide +kernel
theorem dX1_forgetFirst_36 : decode cX1_forgetFirst 36 = .ok (.aload_n 0, 1) := by decide +kernel
theorem dX1_forgetFirst_37 : decode cX1_forgetFirst 37 = .ok (.getfield 18, 3) := by decide +kernel
theorem dX1_forgetFirst_40 : decode cX1_forgetFirst 40 = .ok (.iload_n 1, 1) := by decide +kernel
theorem dX1_forgetFirst_41 : decode cX1_forgetFirst 41 = .ok (.iconst 1, 1) := by decide +kernel
theorem dX1_forgetFirst_42 : decode cX1_forgetFirst 42 = .ok (.isub, 1) := by decide +kernel
theorem dX1_forgetFirst_43 : decode cX1_forgetFirst 43 = .ok (.aload_n 0, 1) := by decide +kernel
theorem dX1_forgetFirst_44 : decode cX1_forgetFirst 44 = .ok (.getfield 18, 3) := by decide +kernel
theorem dX1_forgetFirst_47 : decode cX1_forgetFirst 47 = .ok (.iload_n 1, 1) := by decide +kernel
theorem dX1_forgetFirst_48 : decode cX1_forgetFirst 48 = .ok (.iaload, 1) := by decide +kernel
theorem dX1_forgetFirst_49 : decode cX1_forgetFirst 49 = .ok (.iastore, 1) := by decide +kernel
theorem dX1_forgetFirst_50 : decode cX1_forgetFirst 50 = .ok (.iinc 1 1, 3) := by decide +kernel
theorem dX1_forgetFirst_53 : decode cX1_forgetFirst 53 = .ok (.goto (-51), 3) := by decide +kernel
theorem dX1_forgetFirst_56 : decode cX1_forgetFirst 56 = .ok (.aload_n 0, 1) := by decide +kernel
theorem dX1_forgetFirst_57 : decode cX1_forgetFirst 57 = .ok (.bipush 13, 2) := by decide +kernel
theorem dX1_forgetFirst_59 : decode cX1_forgetFirst 59 = .ok (.putfield 21, 3) := by decide +kernel
theorem dX1_forgetFirst_62 : decode cX1_forgetFirst 62 = .ok (.return_, 1) := by decide +kernel
theorem dX2_init_0 : decode cX2_init 0 = .ok (.aload_n 0, 1) := by decide +kernel
theorem dX2_init_1 : decode cX2_init 1 = .ok (.invokespecial 3, 3) := by decide +kernel
theorem dX2_init_4 : decode cX2_init 4 = .ok (.aload_n 0, 1) := by decide +kernel
theorem dX2_init_5 : decode cX2_init 5 = .ok (.bipush 36, 2) := by decide +kernel
theorem dX2_init_7 : decode cX2_init 7 = .ok (.newarray .int, 2) := by decide +kernel
theorem dX2_init_9 : decode cX2_init 9 = .ok (.putfield 9, 3) := by decide +kernel
theorem dX2_init_12 : decode cX2_init 12 = .ok (.aload_n 0, 1) := by decide +kernel
theorem dX2_init_13 : decode cX2_init 13 = .ok (.iconst 1, 1) := by decide +kernel
theorem dX2_init_14 : decode cX2_init 14 = .ok (.putfield 15, 3) := by decide +kernel
theorem dX2_init_17 : decode cX2_init 17 = .ok (.aload_n 0, 1) := by decide +kernel
theorem dX2_init_18 : decode cX2_init 18 = .ok (.getfield 9, 3) := by decide +kernel
theorem dX2_init_21 : decode cX2_init 21 = .ok (.bipush (-9), 2) := by decide +kernel
theorem dX2_init_23 : decode cX2_init 23 = .ok (.invokestatic 19, 3) := by decide +kernel
theorem dX2_init_26 : decode cX2_init 26 = .ok (.return_, 1) := by decide +kernel
theorem dX2_has_0 : decode cX2_has 0 = .ok (.iload_n 1, 1) := by decide +kernel
theorem dX2_has_1 : decode cX2_has 1 = .ok (.ifCond .lt 15, 3) := by decide +kernel
theorem dX2_has_4 : decode cX2_has 4 = .ok (.iload_n 1, 1) := by decide +kernel
theorem dX2_has_5 : decode cX2_has 5 = .ok (.aload_n 0, 1) := by decide +kernel
theorem dX2_has_6 : decode cX2_has 6 = .ok (.getfield 15, 3) := by decide +kernel
theorem dX2_has_9 : decode cX2_has 9 = .ok (.if_icmp .ge 7, 3) := by decide +kernel
theorem dX2_has_12 : decode cX2_has 12 = .ok (.iconst 1, 1) := by decide +kernel
theorem dX2_has_13 : decode cX2_has 13 = .ok (.goto 4, 3) := by decide +kernel
theorem dX2_has_16 : decode cX2_has 16 = .ok (.iconst 0, 1) := by decide +kernel
theorem dX2_has_17 : decode cX2_has 17 = .ok (.ireturn, 1) := by decide +kernel
theorem dX2_of_0 : decode cX2_of 0 = .ok (.iload_n 1, 1) := by decide +kernel
theorem dX2_of_1 : decode cX2_of 1 = .ok (.ifCond .lt 23, 3) := by decide +kernel
theorem dX2_of_4 : decode cX2_of 4 = .ok (.iload_n 1, 1) := by decide +kernel
theorem dX2_of_5 : decode cX2_of 5 = .ok (.aload_n 0, 1) := by decide +kernel
theorem dX2_of_6 : decode cX2_of 6 = .ok (.getfield 15, 3) := by decide +kernel
theorem dX2_of_9 : decode cX2_of 9 = .ok (.if_icmp .ge 15, 3) := by decide +kernel
theorem dX2_of_12 : decode cX2_of 12 = .ok (.iload_n 2, 1) := by decide +kernel
theorem dX2_of_13 : decode cX2_of 13 = .ok (.ifCond .lt 11, 3) := by decide +kernel
theorem dX2_of_16 : decode cX2_of 16 = .ok (.iload_n 2, 1) := by decide +kernel
theorem dX2_of_17 : decode cX2_of 17 = .ok (.aload_n 0, 1) := by decide +kernel
theorem dX2_of_18 : decode cX2_of 18 = .ok (.getfield 15, 3) := by decide +kernel
theorem dX2_of_21 : decode cX2_of 21 = .ok (.if_icmp .lt 6, 3) := by decide +kernel
theorem dX2_of_24 : decode cX2_of 24 = .ok (.bipush (-9), 2) := by decide +kernel
theorem dX2_of_26 : decode cX2_of 26 = .ok (.ireturn, 1) := by decide +kernel
theorem dX2_of_27 : decode cX2_of 27 = .ok (.aload_n 0, 1) := by decide +kernel
theorem dX2_of_28 : decode cX2_of 28 = .ok (.getfield 9, 3) := by decide +kernel
theorem dX2_of_31 : decode cX2_of 31 = .ok (.iload_n 1, 1) := by decide +kernel
theorem dX2_of_32 : decode cX2_of 32 = .ok (.bipush 6, 2) := by decide +kernel
theorem dX2_of_34 : decode cX2_of 34 = .ok (.imul, 1) := by decide +kernel
theorem dX2_of_35 : decode cX2_of 35 = .ok (.iload_n 2, 1) := by decide +kernel
theorem dX2_of_36 : decode cX2_of 36 = .ok (.iadd, 1) := by decide +kernel
theorem dX2_of_37 : decode cX2_of 37 = .ok (.iaload, 1) := by decide +kernel
theorem dX2_of_38 : decode cX2_of 38 = .ok (.ireturn, 1) := by decide +kernel
theorem dX2_lay_0 : decode cX2_lay 0 = .ok (.aload_n 0, 1) := by decide +kernel
theorem dX2_lay_1 : decode cX2_lay 1 = .ok (.iload_n 1, 1) := by decide +kernel
theorem dX2_lay_2 : decode cX2_lay 2 = .ok (.invokevirtual 25, 3) := by decide +kernel
theorem dX2_lay_5 : decode cX2_lay 5 = .ok (.ifCond .eq 11, 3) := by decide +kernel
theorem dX2_lay_8 : decode cX2_lay 8 = .ok (.aload_n 0, 1) := by decide +kernel
theorem dX2_lay_9 : decode cX2_lay 9 = .ok (.iload_n 2, 1) := by decide +kernel
theorem dX2_lay_10 : decode cX2_lay 10 = .ok (.invokevirtual 25, 3) := by decide +kernel
theorem dX2_lay_13 : decode cX2_lay 13 = .ok (.ifCond .ne 5, 3) := by decide +kernel
theorem dX2_lay_16 : decode cX2_lay 16 = .ok (.iconst 0, 1) := by decide +kernel
theorem dX2_lay_17 : decode cX2_lay 17 = .ok (.ireturn, 1) := by decide +kernel
theorem dX2_lay_18 : decode cX2_lay 18 = .ok (.aload_n 0, 1) := by decide +kernel
theorem dX2_lay_19 : decode cX2_lay 19 = .ok (.getfield 9, 3) := by decide +kernel
theorem dX2_lay_22 : decode cX2_lay 22 = .ok (.iload_n 1, 1) := by decide +kernel
theorem dX2_lay_23 : decode cX2_lay 23 = .ok (.bipush 6, 2) := by decide +kernel
theorem dX2_lay_25 : decode cX2_lay 25 = .ok (.imul, 1) := by decide +kernel
theorem dX2_lay_26 : decode cX2_lay 26 = .ok (.iload_n 2, 1) := by decide +kernel
theorem dX2_lay_27 : decode cX2_lay 27 = .ok (.iadd, 1) := by decide +kernel
theorem dX2_lay_28 : decode cX2_lay 28 = .ok (.iload_n 3, 1) := by decide +kernel
theorem dX2_lay_29 : decode cX2_lay 29 = .ok (.iastore, 1) := by decide +kernel
theorem dX2_lay_30 : decode cX2_lay 30 = .ok (.iconst 1, 1) := by decide +kernel
theorem dX2_lay_31 : decode cX2_lay 31 = .ok (.ireturn, 1) := by decide +kernel
theorem dX2_leadsToAll_0 : decode cX2_leadsToAll 0 = .ok (.iconst 0, 1) := by decide +kernel
theorem dX2_leadsToAll_1 : decode cX2_leadsToAll 1 = .ok (.istore_n 2, 1) := by decide +kernel
theorem dX2_leadsToAll_2 : decode cX2_leadsToAll 2 = .ok (.iload_n 2, 1) := by decide +kernel
theorem dX2_leadsToAll_3 : decode cX2_leadsToAll 3 = .ok (.aload_n 0, 1) := by decide +kernel
theorem dX2_leadsToAll_4 : decode cX2_leadsToAll 4 = .ok (.getfield 15, 3) := by decide +kernel
theorem dX2_leadsToAll_7 : decode cX2_leadsToAll 7 = .ok (.if_icmp .ge 22, 3) := by decide +kernel
theorem dX2_leadsToAll_10 : decode cX2_leadsToAll 10 = .ok (.aload_n 0, 1) := by decide +kernel
theorem dX2_leadsToAll_11 : decode cX2_leadsToAll 11 = .ok (.iload_n 1, 1) := by decide +kernel
theorem dX2_leadsToAll_12 : decode cX2_leadsToAll 12 = .ok (.iload_n 2, 1) := by decide +kernel
theorem dX2_leadsToAll_13 : decode cX2_leadsToAll 13 = .ok (.invokevirtual 29, 3) := by decide +kernel
theorem dX2_leadsToAll_16 : decode cX2_leadsToAll 16 = .ok (.bipush (-9), 2) := by decide +kernel
theorem dX2_leadsToAll_18 : decode cX2_leadsToAll 18 = .ok (.if_icmp .ne 5, 3) := by decide +kernel
theorem dX2_leadsToAll_21 : decode cX2_leadsToAll 21 = .ok (.iconst 0, 1) := by decide +kernel
theorem dX2_leadsToAll_22 : decode cX2_leadsToAll 22 = .ok (.ireturn, 1) := by decide +kernel
theorem dX2_leadsToAll_23 : decode cX2_leadsToAll 23 = .ok (.iinc 2 1, 3) := by decide +kernel
theorem dX2_leadsToAll_26 : decode cX2_leadsToAll 26 = .ok (.goto (-24), 3) := by decide +kernel
theorem dX2_leadsToAll_29 : decode cX2_leadsToAll 29 = .ok (.iconst 1, 1) := by decide +kernel
theorem dX2_leadsToAll_30 : decode cX2_leadsToAll 30 = .ok (.ireturn, 1) := by decide +kernel
theorem dX2_waits_0 : decode cX2_waits 0 = .ok (.iconst 0, 1) := by decide +kernel
theorem dX2_waits_1 : decode cX2_waits 1 = .ok (.istore_n 1, 1) := by decide +kernel
theorem dX2_waits_2 : decode cX2_waits 2 = .ok (.iconst 0, 1) := by decide +kernel
theorem dX2_waits_3 : decode cX2_waits 3 = .ok (.istore_n 2, 1) := by decide +kernel
theorem dX2_waits_4 : decode cX2_waits 4 = .ok (.iload_n 2, 1) := by decide +kernel
theorem dX2_waits_5 : decode cX2_waits 5 = .ok (.bipush 36, 2) := by decide +kernel
theorem dX2_waits_7 : decode cX2_waits 7 = .ok (.if_icmp .ge 23, 3) := by decide +kernel
theorem dX2_waits_10 : decode cX2_waits 10 = .ok (.aload_n 0, 1) := by decide +kernel
theorem dX2_waits_11 : decode cX2_waits 11 = .ok (.getfield 9, 3) := by decide +kernel
theorem dX2_waits_14 : decode cX2_waits 14 = .ok (.iload_n 2, 1) := by decide +kernel
theorem dX2_waits_15 : decode cX2_waits 15 = .ok (.iaload, 1) := by decide +kernel
theorem dX2_waits_16 : decode cX2_waits 16 = .ok (.bipush (-9), 2) := by decide +kernel
theorem dX2_waits_18 : decode cX2_waits 18 = .ok (.if_icmp .eq 6, 3) := by decide +kernel
theorem dX2_waits_21 : decode cX2_waits 21 = .ok (.iinc 1 1, 3) := by decide +kernel
theorem dX2_waits_24 : decode cX2_waits 24 = .ok (.iinc 2 1, 3) := by decide +kernel
theorem dX2_waits_27 : decode cX2_waits 27 = .ok (.goto (-23), 3) := by decide +kernel
theorem dX2_waits_30 : decode cX2_waits 30 = .ok (.iload_n 1, 1) := by decide +kernel
theorem dX2_waits_31 : decode cX2_waits 31 = .ok (.ireturn, 1) := by decide +kernel
theorem dX2_begin_0 : decode cX2_begin 0 = .ok (.aload_n 0, 1) := by decide +kernel
theorem dX2_begin_1 : decode cX2_begin 1 = .ok (.iconst 1, 1) := by decide +kernel
theorem dX2_begin_2 : decode cX2_begin 2 = .ok (.bipush 6, 2) := by decide +kernel
theorem dX2_begin_4 : decode cX2_begin 4 = .ok (.iload_n 1, 1) := by decide +kernel
theorem dX2_begin_5 : decode cX2_begin 5 = .ok (.invokestatic 33, 3) := by decide +kernel
theorem dX2_begin_8 : decode cX2_begin 8 = .ok (.invokestatic 38, 3) := by decide +kernel
theorem dX2_begin_11 : decode cX2_begin 11 = .ok (.putfield 15, 3) := by decide +kernel
theorem dX2_begin_14 : decode cX2_begin 14 = .ok (.aload_n 0, 1) := by decide +kernel
theorem dX2_begin_15 : decode cX2_begin 15 = .ok (.getfield 9, 3) := by decide +kernel
theorem dX2_begin_18 : decode cX2_begin 18 = .ok (.bipush (-9), 2) := by decide +kernel
theorem dX2_begin_20 : decode cX2_begin 20 = .ok (.invokestatic 19, 3) := by decide +kernel
theorem dX2_begin_23 : decode cX2_begin 23 = .ok (.return_, 1) := by decide +kernel
theorem dX2_copyFrom_0 : decode cX2_copyFrom 0 = .ok (.aload_n 0, 1) := by decide +kernel
theorem dX2_copyFrom_1 : decode cX2_copyFrom 1 = .ok (.aload_n 1, 1) := by decide +kernel
theorem dX2_copyFrom_2 : decode cX2_copyFrom 2 = .ok (.getfield 15, 3) := by decide +kernel
theorem dX2_copyFrom_5 : decode cX2_copyFrom 5 = .ok (.putfield 15, 3) := by decide +kernel
theorem dX2_copyFrom_8 : decode cX2_copyFrom 8 = .ok (.aload_n 1, 1) := by decide +kernel
theorem dX2_copyFrom_9 : decode cX2_copyFrom 9 = .ok (.getfield 9, 3) := by decide +kernel
theorem dX2_copyFrom_12 : decode cX2_copyFrom 12 = .ok (.iconst 0, 1) := by decide +kernel
theorem dX2_copyFrom_13 : decode cX2_copyFrom 13 = .ok (.aload_n 0, 1) := by decide +kernel
theorem dX2_copyFrom_14 : decode cX2_copyFrom 14 = .ok (.getfield 9, 3) := by decide +kernel
theorem dX2_copyFrom_17 : decode cX2_copyFrom 17 = .ok (.iconst 0, 1) := by decide +kernel
theorem dX2_copyFrom_18 : decode cX2_copyFrom 18 = .ok (.bipush 36, 2) := by decide +kernel
theorem dX2_copyFrom_20 : decode cX2_copyFrom 20 = .ok (.invokestatic 41, 3) := by decide +kernel
theorem dX2_copyFrom_23 : decode cX2_copyFrom 23 = .ok (.return_, 1) := by decide +kernel
theorem dX3_init_0 : decode cX3_init 0 = .ok (.aload_n 0, 1) := by decide +kernel
theorem dX3_init_1 : decode cX3_init 1 = .ok (.invokespecial 3, 3) := by decide +kernel
theorem dX3_init_4 : decode cX3_init 4 = .ok (.return_, 1) := by decide +kernel
theorem dX3_read_0 : decode cX3_read 0 = .ok (.aload_n 3, 1) := by decide +kernel
theorem dX3_read_1 : decode cX3_read 1 = .ok (.iconst 1, 1) := by decide +kernel
theorem dX3_read_2 : decode cX3_read 2 = .ok (.invokevirtual 9, 3) := by decide +kernel
theorem dX3_read_5 : decode cX3_read 5 = .ok (.iconst 0, 1) := by decide +kernel
theorem dX3_read_6 : decode cX3_read 6 = .ok (.istore 4, 2) := by decide +kernel
theorem dX3_read_8 : decode cX3_read 8 = .ok (.iload 4, 2) := by decide +kernel
theorem dX3_read_10 : decode cX3_read 10 = .ok (.iload_n 2, 1) := by decide +kernel
theorem dX3_read_11 : decode cX3_read 11 = .ok (.if_icmp .ge 33, 3) := by decide +kernel
theorem dX3_read_14 : decode cX3_read 14 = .ok (.iload 4, 2) := by decide +kernel
theorem dX3_read_16 : decode cX3_read 16 = .ok (.aload_n 1, 1) := by decide +kernel
theorem dX3_read_17 : decode cX3_read 17 = .ok (.arraylength, 1) := by decide +kernel
theorem dX3_read_18 : decode cX3_read 18 = .ok (.if_icmp .ge 26, 3) := by decide +kernel
theorem dX3_read_21 : decode cX3_read 21 = .ok (.aload_n 0, 1) := by decide +kernel
theorem dX3_read_22 : decode cX3_read 22 = .ok (.iload 4, 2) := by decide +kernel
theorem dX3_read_24 : decode cX3_read 24 = .ok (.aload_n 1, 1) := by decide +kernel
theorem dX3_read_25 : decode cX3_read 25 = .ok (.iload 4, 2) := by decide +kernel
theorem dX3_read_27 : decode cX3_read 27 = .ok (.iaload, 1) := by decide +kernel
theorem dX3_read_28 : decode cX3_read 28 = .ok (.aload_n 3, 1) := by decide +kernel
theorem dX3_read_29 : decode cX3_read 29 = .ok (.invokevirtual 15, 3) := by decide +kernel
theorem dX3_read_32 : decode cX3_read 32 = .ok (.ifCond .ne 6, 3) := by decide +kernel
theorem dX3_read_35 : decode cX3_read 35 = .ok (.iload 4, 2) := by decide +kernel
theorem dX3_read_37 : decode cX3_read 37 = .ok (.ireturn, 1) := by decide +kernel
theorem dX3_read_38 : decode cX3_read 38 = .ok (.iinc 4 1, 3) := by decide +kernel
theorem dX3_read_41 : decode cX3_read 41 = .ok (.goto (-33), 3) := by decide +kernel
theorem dX3_read_44 : decode cX3_read 44 = .ok (.iload_n 2, 1) := by decide +kernel
theorem dX3_read_45 : decode cX3_read 45 = .ok (.iconst 2, 1) := by decide +kernel
theorem dX3_read_46 : decode cX3_read 46 = .ok (.if_icmp .lt 15, 3) := by decide +kernel
theorem dX3_read_49 : decode cX3_read 49 = .ok (.iload_n 2, 1) := by decide +kernel
theorem dX3_read_50 : decode cX3_read 50 = .ok (.iconst 2, 1) := by decide +kernel
theorem dX3_read_51 : decode cX3_read 51 = .ok (.isub, 1) := by decide +kernel
theorem dX3_read_52 : decode cX3_read 52 = .ok (.iconst 3, 1) := by decide +kernel
theorem dX3_read_53 : decode cX3_read 53 = .ok (.irem, 1) := by decide +kernel
theorem dX3_read_54 : decode cX3_read 54 = .ok (.ifCond .ne 7, 3) := by decide +kernel
theorem dX3_read_57 : decode cX3_read 57 = .ok (.iconst 1, 1) := by decide +kernel
theorem dX3_read_58 : decode cX3_read 58 = .ok (.goto 4, 3) := by decide +kernel
theorem dX3_read_61 : decode cX3_read 61 = .ok (.iconst 0, 1) := by decide +kernel
theorem dX3_read_62 : decode cX3_read 62 = .ok (.istore 4, 2) := by decide +kernel
theorem dX3_read_64 : decode cX3_read 64 = .ok (.iload 4, 2) := by decide +kernel
theorem dX3_read_66 : decode cX3_read 66 = .ok (.ifCond .eq 8, 3) := by decide +kernel
theorem dX3_read_69 : decode cX3_read 69 = .ok (.bipush (-9), 2) := by decide +kernel
theorem dX3_read_71 : decode cX3_read 71 = .ok (.goto 4, 3) := by decide +kernel
theorem dX3_read_74 : decode cX3_read 74 = .ok (.iload_n 2, 1) := by decide +kernel
theorem dX3_read_75 : decode cX3_read 75 = .ok (.ireturn, 1) := by decide +kernel
theorem dX3_takes_0 : decode cX3_takes 0 = .ok (.iload_n 2, 1) := by decide +kernel
theorem dX3_takes_1 : decode cX3_takes 1 = .ok (.bipush 48, 2) := by decide +kernel
theorem dX3_takes_3 : decode cX3_takes 3 = .ok (.isub, 1) := by decide +kernel
theorem dX3_takes_4 : decode cX3_takes 4 = .ok (.istore 4, 2) := by decide +kernel
theorem dX3_takes_6 : decode cX3_takes 6 = .ok (.iload_n 1, 1) := by decide +kernel
theorem dX3_takes_7 : decode cX3_takes 7 = .ok (.ifCond .ne 15, 3) := by decide +kernel
theorem dX3_takes_10 : decode cX3_takes 10 = .ok (.iload_n 2, 1) := by decide +kernel
theorem dX3_takes_11 : decode cX3_takes 11 = .ok (.bipush 78, 2) := by decide +kernel
theorem dX3_takes_13 : decode cX3_takes 13 = .ok (.if_icmp .ne 7, 3) := by decide +kernel
theorem dX3_takes_16 : decode cX3_takes 16 = .ok (.iconst 1, 1) := by decide +kernel
theorem dX3_takes_17 : decode cX3_takes 17 = .ok (.goto 4, 3) := by decide +kernel
theorem dX3_takes_20 : decode cX3_takes 20 = .ok (.iconst 0, 1) := by decide +kernel
theorem dX3_takes_21 : decode cX3_takes 21 = .ok (.ireturn, 1) := by decide +kernel
theorem dX3_takes_22 : decode cX3_takes 22 = .ok (.iload_n 1, 1) := by decide +kernel
theorem dX3_takes_23 : decode cX3_takes 23 = .ok (.iconst 1, 1) := by decide +kernel
theorem dX3_takes_24 : decode cX3_takes 24 = .ok (.if_icmp .ne 28, 3) := by decide +kernel
theorem dX3_takes_27 : decode cX3_takes 27 = .ok (.aload_n 3, 1) := by decide +kernel
theorem dX3_takes_28 : decode cX3_takes 28 = .ok (.iload 4, 2) := by decide +kernel
theorem dX3_takes_30 : decode cX3_takes 30 = .ok (.invokevirtual 9, 3) := by decide +kernel
theorem dX3_takes_33 : decode cX3_takes 33 = .ok (.iload 4, 2) := by decide +kernel
theorem dX3_takes_35 : decode cX3_takes 35 = .ok (.iconst 1, 1) := by decide +kernel
theorem dX3_takes_36 : decode cX3_takes 36 = .ok (.if_icmp .lt 14, 3) := by decide +kernel
theorem dX3_takes_39 : decode cX3_takes 39 = .ok (.iload 4, 2) := by decide +kernel
theorem dX3_takes_41 : decode cX3_takes 41 = .ok (.bipush 6, 2) := by decide +kernel
theorem dX3_takes_43 : decode cX3_takes 43 = .ok (.if_icmp .gt 7, 3) := by decide +kernel
theorem dX3_takes_46 : decode cX3_takes 46 = .ok (.iconst 1, 1) := by decide +kernel
theorem dX3_takes_47 : decode cX3_takes 47 = .ok (.goto 4, 3) := by decide +kernel
theorem dX3_takes_50 : decode cX3_takes 50 = .ok (.iconst 0, 1) := by decide +kernel
theorem dX3_takes_51 : decode cX3_takes 51 = .ok (.ireturn, 1) := by decide +kernel
theorem dX3_takes_52 : decode cX3_takes 52 = .ok (.iload_n 1, 1) := by decide +kernel
theorem dX3_takes_53 : decode cX3_takes 53 = .ok (.iconst 2, 1) := by decide +kernel
theorem dX3_takes_54 : decode cX3_takes 54 = .ok (.isub, 1) := by decide +kernel
theorem dX3_takes_55 : decode cX3_takes 55 = .ok (.iconst 3, 1) := by decide +kernel
theorem dX3_takes_56 : decode cX3_takes 56 = .ok (.irem, 1) := by decide +kernel
theorem dX3_takes_57 : decode cX3_takes 57 = .ok (.lookupswitch 107 #[(0, 27), (1, 67)], 27) := by decide +kernel
theorem dX3_takes_84 : decode cX3_takes 84 = .ok (.aload_n 0, 1) := by decide +kernel
theorem dX3_takes_85 : decode cX3_takes 85 = .ok (.iload 4, 2) := by decide +kernel
theorem dX3_takes_87 : decode cX3_takes 87 = .ok (.putfield 21, 3) := by decide +kernel
theorem dX3_takes_90 : decode cX3_takes 90 = .ok (.iload_n 1, 1) := by decide +kernel
theorem dX3_takes_91 : decode cX3_takes 91 = .ok (.bipush 38, 2) := by decide +kernel
theorem dX3_takes_93 : decode cX3_takes 93 = .ok (.if_icmp .ge 29, 3) := by decide +kernel
theorem dX3_takes_96 : decode cX3_takes 96 = .ok (.aload_n 3, 1) := by decide +kernel
theorem dX3_takes_97 : decode cX3_takes 97 = .ok (.aload_n 0, 1) := by decide +kernel
theorem dX3_takes_98 : decode cX3_takes 98 = .ok (.getfield 21, 3) := by decide +kernel
theorem dX3_takes_101 : decode cX3_takes 101 = .ok (.invokevirtual 25, 3) := by decide +kernel
theorem dX3_takes_104 : decode cX3_takes 104 = .ok (.ifCond .eq 18, 3) := by decide +kernel
theorem dX3_takes_107 : decode cX3_takes 107 = .ok (.aload_n 3, 1) := by decide +kernel
theorem dX3_takes_108 : decode cX3_takes 108 = .ok (.aload_n 0, 1) := by decide +kernel
theorem dX3_takes_109 : decode cX3_takes 109 = .ok (.getfield 21, 3) := by decide +kernel
theorem dX3_takes_112 : decode cX3_takes 112 = .ok (.invokevirtual 29, 3) := by decide +kernel
theorem dX3_takes_115 : decode cX3_takes 115 = .ok (.ifCond .ne 7, 3) := by decide +kernel
theorem dX3_takes_118 : decode cX3_takes 118 = .ok (.iconst 1, 1) := by decide +kernel
theorem dX3_takes_119 : decode cX3_takes 119 = .ok (.goto 4, 3) := by decide +kernel
theorem dX3_takes_122 : decode cX3_takes 122 = .ok (.iconst 0, 1) := by decide +kernel
theorem dX3_takes_123 : decode cX3_takes 123 = .ok (.ireturn, 1) := by decide +kernel
theorem dX3_takes_124 : decode cX3_takes 124 = .ok (.aload_n 0, 1) := by decide +kernel
theorem dX3_takes_125 : decode cX3_takes 125 = .ok (.iload 4, 2) := by decide +kernel
theorem dX3_takes_127 : decode cX3_takes 127 = .ok (.putfield 32, 3) := by decide +kernel
theorem dX3_takes_130 : decode cX3_takes 130 = .ok (.aload_n 3, 1) := by decide +kernel
theorem dX3_takes_131 : decode cX3_takes 131 = .ok (.aload_n 0, 1) := by decide +kernel
theorem dX3_takes_132 : decode cX3_takes 132 = .ok (.getfield 32, 3) := by decide +kernel
theorem dX3_takes_135 : decode cX3_takes 135 = .ok (.invokevirtual 25, 3) := by decide +kernel
theorem dX3_takes_138 : decode cX3_takes 138 = .ok (.ifCond .eq 24, 3) := by decide +kernel
theorem dX3_takes_141 : decode cX3_takes 141 = .ok (.aload_n 3, 1) := by decide +kernel
theorem dX3_takes_142 : decode cX3_takes 142 = .ok (.aload_n 0, 1) := by decide +kernel
theorem dX3_takes_143 : decode cX3_takes 143 = .ok (.getfield 21, 3) := by decide +kernel
theorem dX3_takes_146 : decode cX3_takes 146 = .ok (.aload_n 0, 1) := by decide +kernel
theorem dX3_takes_147 : decode cX3_takes 147 = .ok (.getfield 32, 3) := by decide +kernel
theorem dX3_takes_150 : decode cX3_takes 150 = .ok (.invokevirtual 35, 3) := by decide +kernel
theorem dX3_takes_153 : decode cX3_takes 153 = .ok (.bipush (-9), 2) := by decide +kernel
theorem dX3_takes_155 : decode cX3_takes 155 = .ok (.if_icmp .ne 7, 3) := by decide +kernel
theorem dX3_takes_158 : decode cX3_takes 158 = .ok (.iconst 1, 1) := by decide +kernel
theorem dX3_takes_159 : decode cX3_takes 159 = .ok (.goto 4, 3) := by decide +kernel
theorem dX3_takes_162 : decode cX3_takes 162 = .ok (.iconst 0, 1) := by decide +kernel
theorem dX3_takes_163 : decode cX3_takes 163 = .ok (.ireturn, 1) := by decide +kernel
theorem dX3_takes_164 : decode cX3_takes 164 = .ok (.iload 4, 2) := by decide +kernel
theorem dX3_takes_166 : decode cX3_takes 166 = .ok (.ifCond .lt 31, 3) := by decide +kernel
theorem dX3_takes_169 : decode cX3_takes 169 = .ok (.iload 4, 2) := by decide +kernel
theorem dX3_takes_171 : decode cX3_takes 171 = .ok (.bipush 9, 2) := by decide +kernel
theorem dX3_takes_173 : decode cX3_takes 173 = .ok (.if_icmp .gt 24, 3) := by decide +kernel
theorem dX3_takes_176 : decode cX3_takes 176 = .ok (.aload_n 3, 1) := by decide +kernel
theorem dX3_takes_177 : decode cX3_takes 177 = .ok (.aload_n 0, 1) := by decide +kernel
theorem dX3_takes_178 : decode cX3_takes 178 = .ok (.getfield 21, 3) := by decide +kernel
theorem dX3_takes_181 : decode cX3_takes 181 = .ok (.aload_n 0, 1) := by decide +kernel
theorem dX3_takes_182 : decode cX3_takes 182 = .ok (.getfield 32, 3) := by decide +kernel
theorem dX3_takes_185 : decode cX3_takes 185 = .ok (.iload 4, 2) := by decide +kernel
theorem dX3_takes_187 : decode cX3_takes 187 = .ok (.invokevirtual 39, 3) := by decide +kernel
theorem dX3_takes_190 : decode cX3_takes 190 = .ok (.ifCond .eq 7, 3) := by decide +kernel
theorem dX3_takes_193 : decode cX3_takes 193 = .ok (.iconst 1, 1) := by decide +kernel
theorem dX3_takes_194 : decode cX3_takes 194 = .ok (.goto 4, 3) := by decide +kernel
theorem dX3_takes_197 : decode cX3_takes 197 = .ok (.iconst 0, 1) := by decide +kernel
theorem dX3_takes_198 : decode cX3_takes 198 = .ok (.ireturn, 1) := by decide +kernel
theorem dX4_init_0 : decode cX4_init 0 = .ok (.aload_n 0, 1) := by decide +kernel
theorem dX4_init_1 : decode cX4_init 1 = .ok (.invokespecial 3, 3) := by decide +kernel
theorem dX4_init_4 : decode cX4_init 4 = .ok (.aload_n 0, 1) := by decide +kernel
theorem dX4_init_5 : decode cX4_init 5 = .ok (.sipush 384, 3) := by decide +kernel
theorem dX4_init_8 : decode cX4_init 8 = .ok (.newarray .int, 2) := by decide +kernel
theorem dX4_init_10 : decode cX4_init 10 = .ok (.putfield 9, 3) := by decide +kernel
theorem dX4_init_13 : decode cX4_init 13 = .ok (.aload_n 0, 1) := by decide +kernel
theorem dX4_init_14 : decode cX4_init 14 = .ok (.sipush 384, 3) := by decide +kernel
theorem dX4_init_17 : decode cX4_init 17 = .ok (.newarray .int, 2) := by decide +kernel
theorem dX4_init_19 : decode cX4_init 19 = .ok (.putfield 15, 3) := by decide +kernel
theorem dX4_init_22 : decode cX4_init 22 = .ok (.aload_n 0, 1) := by decide +kernel
theorem dX4_init_23 : decode cX4_init 23 = .ok (.bipush 64, 2) := by decide +kernel
theorem dX4_init_25 : decode cX4_init 25 = .ok (.newarray .int, 2) := by decide +kernel
theorem dX4_init_27 : decode cX4_init 27 = .ok (.putfield 18, 3) := by decide +kernel
theorem dX4_init_30 : decode cX4_init 30 = .ok (.return_, 1) := by decide +kernel
theorem dX4_fill_0 : decode cX4_fill 0 = .ok (.aload_n 0, 1) := by decide +kernel
theorem dX4_fill_1 : decode cX4_fill 1 = .ok (.getfield 9, 3) := by decide +kernel
theorem dX4_fill_4 : decode cX4_fill 4 = .ok (.iconst 0, 1) := by decide +kernel
theorem dX4_fill_5 : decode cX4_fill 5 = .ok (.invokestatic 21, 3) := by decide +kernel
theorem dX4_fill_8 : decode cX4_fill 8 = .ok (.aload_n 0, 1) := by decide +kernel
theorem dX4_fill_9 : decode cX4_fill 9 = .ok (.getfield 15, 3) := by decide +kernel
theorem dX4_fill_12 : decode cX4_fill 12 = .ok (.iconst 0, 1) := by decide +kernel
theorem dX4_fill_13 : decode cX4_fill 13 = .ok (.invokestatic 21, 3) := by decide +kernel
theorem dX4_fill_16 : decode cX4_fill 16 = .ok (.aload_n 0, 1) := by decide +kernel
theorem dX4_fill_17 : decode cX4_fill 17 = .ok (.getfield 18, 3) := by decide +kernel
theorem dX4_fill_20 : decode cX4_fill 20 = .ok (.iconst 0, 1) := by decide +kernel
theorem dX4_fill_21 : decode cX4_fill 21 = .ok (.invokestatic 21, 3) := by decide +kernel
theorem dX4_fill_24 : decode cX4_fill 24 = .ok (.aload_n 0, 1) := by decide +kernel
theorem dX4_fill_25 : decode cX4_fill 25 = .ok (.iconst 0, 1) := by decide +kernel
theorem dX4_fill_26 : decode cX4_fill 26 = .ok (.putfield 27, 3) := by decide +kernel
theorem dX4_fill_29 : decode cX4_fill 29 = .ok (.iconst 0, 1) := by decide +kernel
theorem dX4_fill_30 : decode cX4_fill 30 = .ok (.istore_n 2, 1) := by decide +kernel
theorem dX4_fill_31 : decode cX4_fill 31 = .ok (.iload_n 2, 1) := by decide +kernel
theorem dX4_fill_32 : decode cX4_fill 32 = .ok (.aload_n 1, 1) := by decide +kernel
theorem dX4_fill_33 : decode cX4_fill 33 = .ok (.getfield 31, 3) := by decide +kernel
theorem dX4_fill_36 : decode cX4_fill 36 = .ok (.if_icmp .ge 23, 3) := by decide +kernel
theorem dX4_fill_39 : decode cX4_fill 39 = .ok (.aload_n 0, 1) := by decide +kernel
theorem dX4_fill_40 : decode cX4_fill 40 = .ok (.getfield 9, 3) := by decide +kernel
theorem dX4_fill_43 : decode cX4_fill 43 = .ok (.iconst 1, 1) := by decide +kernel
theorem dX4_fill_44 : decode cX4_fill 44 = .ok (.iload_n 2, 1) := by decide +kernel
theorem dX4_fill_45 : decode cX4_fill 45 = .ok (.ishl, 1) := by decide +kernel
theorem dX4_fill_46 : decode cX4_fill 46 = .ok (.bipush 6, 2) := by decide +kernel
theorem dX4_fill_48 : decode cX4_fill 48 = .ok (.imul, 1) := by decide +kernel
theorem dX4_fill_49 : decode cX4_fill 49 = .ok (.iload_n 2, 1) := by decide +kernel
theorem dX4_fill_50 : decode cX4_fill 50 = .ok (.iadd, 1) := by decide +kernel
theorem dX4_fill_51 : decode cX4_fill 51 = .ok (.iconst 1, 1) := by decide +kernel
theorem dX4_fill_52 : decode cX4_fill 52 = .ok (.iastore, 1) := by decide +kernel
theorem dX4_fill_53 : decode cX4_fill 53 = .ok (.iinc 2 1, 3) := by decide +kernel
theorem dX4_fill_56 : decode cX4_fill 56 = .ok (.goto (-25), 3) := by decide +kernel
theorem dX4_fill_59 : decode cX4_fill 59 = .ok (.iconst 1, 1) := by decide +kernel
theorem dX4_fill_60 : decode cX4_fill 60 = .ok (.istore_n 2, 1) := by decide +kernel
theorem dX4_fill_61 : decode cX4_fill 61 = .ok (.iload_n 2, 1) := by decide +kernel
theorem dX4_fill_62 : decode cX4_fill 62 = .ok (.iconst 1, 1) := by decide +kernel
theorem dX4_fill_63 : decode cX4_fill 63 = .ok (.aload_n 1, 1) := by decide +kernel
theorem dX4_fill_64 : decode cX4_fill 64 = .ok (.getfield 31, 3) := by decide +kernel
theorem dX4_fill_67 : decode cX4_fill 67 = .ok (.ishl, 1) := by decide +kernel
theorem dX4_fill_68 : decode cX4_fill 68 = .ok (.if_icmp .ge 32, 3) := by decide +kernel
theorem dX4_fill_71 : decode cX4_fill 71 = .ok (.iconst 0, 1) := by decide +kernel
theorem dX4_fill_72 : decode cX4_fill 72 = .ok (.istore_n 3, 1) := by decide +kernel
theorem dX4_fill_73 : decode cX4_fill 73 = .ok (.iload_n 3, 1) := by decide +kernel
theorem dX4_fill_74 : decode cX4_fill 74 = .ok (.aload_n 1, 1) := by decide +kernel
theorem dX4_fill_75 : decode cX4_fill 75 = .ok (.getfield 31, 3) := by decide +kernel
theorem dX4_fill_78 : decode cX4_fill 78 = .ok (.if_icmp .ge 16, 3) := by decide +kernel
theorem dX4_fill_81 : decode cX4_fill 81 = .ok (.aload_n 0, 1) := by decide +kernel
theorem dX4_fill_82 : decode cX4_fill 82 = .ok (.aload_n 1, 1) := by decide +kernel
theorem dX4_fill_83 : decode cX4_fill 83 = .ok (.iload_n 2, 1) := by decide +kernel
theorem dX4_fill_84 : decode cX4_fill 84 = .ok (.iload_n 3, 1) := by decide +kernel
theorem dX4_fill_85 : decode cX4_fill 85 = .ok (.invokevirtual 36, 3) := by decide +kernel
theorem dX4_fill_88 : decode cX4_fill 88 = .ok (.iinc 3 1, 3) := by decide +kernel
theorem dX4_fill_91 : decode cX4_fill 91 = .ok (.goto (-18), 3) := by decide +kernel
theorem dX4_fill_94 : decode cX4_fill 94 = .ok (.iinc 2 1, 3) := by decide +kernel
theorem dX4_fill_97 : decode cX4_fill 97 = .ok (.goto (-36), 3) := by decide +kernel
theorem dX4_fill_100 : decode cX4_fill 100 = .ok (.aload_n 0, 1) := by decide +kernel
theorem dX4_fill_101 : decode cX4_fill 101 = .ok (.aload_n 1, 1) := by decide +kernel
theorem dX4_fill_102 : decode cX4_fill 102 = .ok (.getfield 31, 3) := by decide +kernel
theorem dX4_fill_105 : decode cX4_fill 105 = .ok (.invokevirtual 40, 3) := by decide +kernel
theorem dX4_fill_108 : decode cX4_fill 108 = .ok (.return_, 1) := by decide +kernel
theorem dX4_lowestOf_0 : decode cX4_lowestOf 0 = .ok (.iconst 0, 1) := by decide +kernel
theorem dX4_lowestOf_1 : decode cX4_lowestOf 1 = .ok (.istore_n 1, 1) := by decide +kernel
theorem dX4_lowestOf_2 : decode cX4_lowestOf 2 = .ok (.iload_n 1, 1) := by decide +kernel
theorem dX4_lowestOf_3 : decode cX4_lowestOf 3 = .ok (.iconst 5, 1) := by decide +kernel
theorem dX4_lowestOf_4 : decode cX4_lowestOf 4 = .ok (.if_icmp .ge 17, 3) := by decide +kernel
theorem dX4_lowestOf_7 : decode cX4_lowestOf 7 = .ok (.iload_n 0, 1) := by decide +kernel
theorem dX4_lowestOf_8 : decode cX4_lowestOf 8 = .ok (.iload_n 1, 1) := by decide +kernel
theorem dX4_lowestOf_9 : decode cX4_lowestOf 9 = .ok (.ishr, 1) := by decide +kernel
theorem dX4_lowestOf_10 : decode cX4_lowestOf 10 = .ok (.iconst 1, 1) := by decide +kernel
theorem dX4_lowestOf_11 : decode cX4_lowestOf 11 = .ok (.iand, 1) := by decide +kernel
theorem dX4_lowestOf_12 : decode cX4_lowestOf 12 = .ok (.ifCond .ne 9, 3) := by decide +kernel
theorem dX4_lowestOf_15 : decode cX4_lowestOf 15 = .ok (.iinc 1 1, 3) := by decide +kernel
theorem dX4_lowestOf_18 : decode cX4_lowestOf 18 = .ok (.goto (-16), 3) := by decide +kernel
theorem dX4_lowestOf_21 : decode cX4_lowestOf 21 = .ok (.iload_n 1, 1) := by decide +kernel
theorem dX4_lowestOf_22 : decode cX4_lowestOf 22 = .ok (.ireturn, 1) := by decide +kernel
theorem dX4_goOn_0 : decode cX4_goOn 0 = .ok (.aload_n 0, 1) := by decide +kernel
theorem dX4_goOn_1 : decode cX4_goOn 1 = .ok (.getfield 9, 3) := by decide +kernel
theorem dX4_goOn_4 : decode cX4_goOn 4 = .ok (.iload_n 2, 1) := by decide +kernel
theorem dX4_goOn_5 : decode cX4_goOn 5 = .ok (.bipush 6, 2) := by decide +kernel
theorem dX4_goOn_7 : decode cX4_goOn 7 = .ok (.imul, 1) := by decide +kernel
theorem dX4_goOn_8 : decode cX4_goOn 8 = .ok (.iload_n 3, 1) := by decide +kernel
theorem dX4_goOn_9 : decode cX4_goOn 9 = .ok (.iadd, 1) := by decide +kernel
theorem dX4_goOn_10 : decode cX4_goOn 10 = .ok (.iaload, 1) := by decide +kernel
theorem dX4_goOn_11 : decode cX4_goOn 11 = .ok (.istore 4, 2) := by decide +kernel
theorem dX4_goOn_13 : decode cX4_goOn 13 = .ok (.aload_n 0, 1) := by decide +kernel
theorem dX4_goOn_14 : decode cX4_goOn 14 = .ok (.getfield 15, 3) := by decide +kernel
theorem dX4_goOn_17 : decode cX4_goOn 17 = .ok (.iload_n 2, 1) := by decide +kernel
theorem dX4_goOn_18 : decode cX4_goOn 18 = .ok (.bipush 6, 2) := by decide +kernel
theorem dX4_goOn_20 : decode cX4_goOn 20 = .ok (.imul, 1) := by decide +kernel
theorem dX4_goOn_21 : decode cX4_goOn 21 = .ok (.iload_n 3, 1) := by decide +kernel
theorem dX4_goOn_22 : decode cX4_goOn 22 = .ok (.iadd, 1) := by decide +kernel
theorem dX4_goOn_23 : decode cX4_goOn 23 = .ok (.iaload, 1) := by decide +kernel
theorem dX4_goOn_24 : decode cX4_goOn 24 = .ok (.istore 5, 2) := by decide +kernel
theorem dX4_goOn_26 : decode cX4_goOn 26 = .ok (.iload 4, 2) := by decide +kernel
theorem dX4_goOn_28 : decode cX4_goOn 28 = .ok (.ifCond .ne 4, 3) := by decide +kernel
theorem dX4_goOn_31 : decode cX4_goOn 31 = .ok (.return_, 1) := by decide +kernel
theorem dX4_goOn_32 : decode cX4_goOn 32 = .ok (.iload_n 2, 1) := by decide +kernel
theorem dX4_goOn_33 : decode cX4_goOn 33 = .ok (.invokestatic 44, 3) := by decide +kernel
theorem dX4_goOn_36 : decode cX4_goOn 36 = .ok (.istore 6, 2) := by decide +kernel
theorem dX4_goOn_38 : decode cX4_goOn 38 = .ok (.aload_n 1, 1) := by decide +kernel
theorem dX4_goOn_39 : decode cX4_goOn 39 = .ok (.iload_n 3, 1) := by decide +kernel
theorem dX4_goOn_40 : decode cX4_goOn 40 = .ok (.iload 6, 2) := by decide +kernel
theorem dX4_goOn_42 : decode cX4_goOn 42 = .ok (.invokevirtual 48, 3) := by decide +kernel
theorem dX4_goOn_45 : decode cX4_goOn 45 = .ok (.istore 7, 2) := by decide +kernel
theorem dX4_goOn_47 : decode cX4_goOn 47 = .ok (.iload 7, 2) := by decide +kernel
theorem dX4_goOn_49 : decode cX4_goOn 49 = .ok (.bipush (-9), 2) := by decide +kernel
theorem dX4_goOn_51 : decode cX4_goOn 51 = .ok (.if_icmp .eq 43, 3) := by decide +kernel
theorem dX4_goOn_54 : decode cX4_goOn 54 = .ok (.aload_n 0, 1) := by decide +kernel
theorem dX4_goOn_55 : decode cX4_goOn 55 = .ok (.dup, 1) := by decide +kernel
theorem dX4_goOn_56 : decode cX4_goOn 56 = .ok (.getfield 27, 3) := by decide +kernel
theorem dX4_goOn_59 : decode cX4_goOn 59 = .ok (.iload 4, 2) := by decide +kernel
theorem dX4_goOn_61 : decode cX4_goOn 61 = .ok (.iadd, 1) := by decide +kernel
theorem dX4_goOn_62 : decode cX4_goOn 62 = .ok (.putfield 27, 3) := by decide +kernel
theorem dX4_goOn_65 : decode cX4_goOn 65 = .ok (.aload_n 0, 1) := by decide +kernel
theorem dX4_goOn_66 : decode cX4_goOn 66 = .ok (.getfield 18, 3) := by decide +kernel
theorem dX4_goOn_69 : decode cX4_goOn 69 = .ok (.iload_n 2, 1) := by decide +kernel
theorem dX4_goOn_70 : decode cX4_goOn 70 = .ok (.aload_n 0, 1) := by decide +kernel
theorem dX4_goOn_71 : decode cX4_goOn 71 = .ok (.getfield 18, 3) := by decide +kernel
theorem dX4_goOn_74 : decode cX4_goOn 74 = .ok (.iload_n 2, 1) := by decide +kernel
theorem dX4_goOn_75 : decode cX4_goOn 75 = .ok (.iaload, 1) := by decide +kernel
theorem dX4_goOn_76 : decode cX4_goOn 76 = .ok (.iload 5, 2) := by decide +kernel
theorem dX4_goOn_78 : decode cX4_goOn 78 = .ok (.iload 7, 2) := by decide +kernel
theorem dX4_goOn_80 : decode cX4_goOn 80 = .ok (.iadd, 1) := by decide +kernel
theorem dX4_goOn_81 : decode cX4_goOn 81 = .ok (.getstatic 52, 3) := by decide +kernel
theorem dX4_goOn_84 : decode cX4_goOn 84 = .ok (.iload_n 2, 1) := by decide +kernel
theorem dX4_goOn_85 : decode cX4_goOn 85 = .ok (.invokestatic 55, 3) := by decide +kernel
theorem dX4_goOn_88 : decode cX4_goOn 88 = .ok (.iaload, 1) := by decide +kernel
theorem dX4_goOn_89 : decode cX4_goOn 89 = .ok (.imul, 1) := by decide +kernel
theorem dX4_goOn_90 : decode cX4_goOn 90 = .ok (.invokestatic 60, 3) := by decide +kernel
theorem dX4_goOn_93 : decode cX4_goOn 93 = .ok (.iastore, 1) := by decide +kernel
theorem dX4_goOn_94 : decode cX4_goOn 94 = .ok (.iload 6, 2) := by decide +kernel
theorem dX4_goOn_96 : decode cX4_goOn 96 = .ok (.iconst 1, 1) := by decide +kernel
theorem dX4_goOn_97 : decode cX4_goOn 97 = .ok (.iadd, 1) := by decide +kernel
theorem dX4_goOn_98 : decode cX4_goOn 98 = .ok (.istore 8, 2) := by decide +kernel
theorem dX4_goOn_100 : decode cX4_goOn 100 = .ok (.iload 8, 2) := by decide +kernel
theorem dX4_goOn_102 : decode cX4_goOn 102 = .ok (.aload_n 1, 1) := by decide +kernel
theorem dX4_goOn_103 : decode cX4_goOn 103 = .ok (.getfield 31, 3) := by decide +kernel
theorem dX4_goOn_106 : decode cX4_goOn 106 = .ok (.if_icmp .ge 82, 3) := by decide +kernel
theorem dX4_goOn_109 : decode cX4_goOn 109 = .ok (.aload_n 1, 1) := by decide +kernel
theorem dX4_goOn_110 : decode cX4_goOn 110 = .ok (.iload_n 3, 1) := by decide +kernel
theorem dX4_goOn_111 : decode cX4_goOn 111 = .ok (.iload 8, 2) := by decide +kernel
theorem dX4_goOn_113 : decode cX4_goOn 113 = .ok (.invokevirtual 48, 3) := by decide +kernel
theorem dX4_goOn_116 : decode cX4_goOn 116 = .ok (.istore 9, 2) := by decide +kernel
theorem dX4_goOn_118 : decode cX4_goOn 118 = .ok (.iload 9, 2) := by decide +kernel
theorem dX4_goOn_120 : decode cX4_goOn 120 = .ok (.bipush (-9), 2) := by decide +kernel
theorem dX4_goOn_122 : decode cX4_goOn 122 = .ok (.if_icmp .eq 60, 3) := by decide +kernel
theorem dX4_goOn_125 : decode cX4_goOn 125 = .ok (.iload_n 2, 1) := by decide +kernel
theorem dX4_goOn_126 : decode cX4_goOn 126 = .ok (.iload 8, 2) := by decide +kernel
theorem dX4_goOn_128 : decode cX4_goOn 128 = .ok (.ishr, 1) := by decide +kernel
theorem dX4_goOn_129 : decode cX4_goOn 129 = .ok (.iconst 1, 1) := by decide +kernel
theorem dX4_goOn_130 : decode cX4_goOn 130 = .ok (.iand, 1) := by decide +kernel
theorem dX4_goOn_131 : decode cX4_goOn 131 = .ok (.ifCond .ne 51, 3) := by decide +kernel
theorem dX4_goOn_134 : decode cX4_goOn 134 = .ok (.iload_n 2, 1) := by decide +kernel
theorem dX4_goOn_135 : decode cX4_goOn 135 = .ok (.iconst 1, 1) := by decide +kernel
theorem dX4_goOn_136 : decode cX4_goOn 136 = .ok (.iload 8, 2) := by decide +kernel
theorem dX4_goOn_138 : decode cX4_goOn 138 = .ok (.ishl, 1) := by decide +kernel
theorem dX4_goOn_139 : decode cX4_goOn 139 = .ok (.ior, 1) := by decide +kernel
theorem dX4_goOn_140 : decode cX4_goOn 140 = .ok (.bipush 6, 2) := by decide +kernel
theorem dX4_goOn_142 : decode cX4_goOn 142 = .ok (.imul, 1) := by decide +kernel
theorem dX4_goOn_143 : decode cX4_goOn 143 = .ok (.iload 8, 2) := by decide +kernel
theorem dX4_goOn_145 : decode cX4_goOn 145 = .ok (.iadd, 1) := by decide +kernel
theorem dX4_goOn_146 : decode cX4_goOn 146 = .ok (.istore 10, 2) := by decide +kernel
theorem dX4_goOn_148 : decode cX4_goOn 148 = .ok (.aload_n 0, 1) := by decide +kernel
theorem dX4_goOn_149 : decode cX4_goOn 149 = .ok (.getfield 9, 3) := by decide +kernel
theorem dX4_goOn_152 : decode cX4_goOn 152 = .ok (.iload 10, 2) := by decide +kernel
theorem dX4_goOn_154 : decode cX4_goOn 154 = .ok (.dup2, 1) := by decide +kernel
theorem dX4_goOn_155 : decode cX4_goOn 155 = .ok (.iaload, 1) := by decide +kernel
theorem dX4_goOn_156 : decode cX4_goOn 156 = .ok (.iload 4, 2) := by decide +kernel
theorem dX4_goOn_158 : decode cX4_goOn 158 = .ok (.iadd, 1) := by decide +kernel
theorem dX4_goOn_159 : decode cX4_goOn 159 = .ok (.iastore, 1) := by decide +kernel
theorem dX4_goOn_160 : decode cX4_goOn 160 = .ok (.aload_n 0, 1) := by decide +kernel
theorem dX4_goOn_161 : decode cX4_goOn 161 = .ok (.getfield 15, 3) := by decide +kernel
theorem dX4_goOn_164 : decode cX4_goOn 164 = .ok (.iload 10, 2) := by decide +kernel
theorem dX4_goOn_166 : decode cX4_goOn 166 = .ok (.aload_n 0, 1) := by decide +kernel
theorem dX4_goOn_167 : decode cX4_goOn 167 = .ok (.getfield 15, 3) := by decide +kernel
theorem dX4_goOn_170 : decode cX4_goOn 170 = .ok (.iload 10, 2) := by decide +kernel
theorem dX4_goOn_172 : decode cX4_goOn 172 = .ok (.iaload, 1) := by decide +kernel
theorem dX4_goOn_173 : decode cX4_goOn 173 = .ok (.iload 5, 2) := by decide +kernel
theorem dX4_goOn_175 : decode cX4_goOn 175 = .ok (.iload 9, 2) := by decide +kernel
theorem dX4_goOn_177 : decode cX4_goOn 177 = .ok (.iadd, 1) := by decide +kernel
theorem dX4_goOn_178 : decode cX4_goOn 178 = .ok (.invokestatic 60, 3) := by decide +kernel
theorem dX4_goOn_181 : decode cX4_goOn 181 = .ok (.iastore, 1) := by decide +kernel
theorem dX4_goOn_182 : decode cX4_goOn 182 = .ok (.iinc 8 1, 3) := by decide +kernel
theorem dX4_goOn_185 : decode cX4_goOn 185 = .ok (.goto (-85), 3) := by decide +kernel
theorem dX4_goOn_188 : decode cX4_goOn 188 = .ok (.return_, 1) := by decide +kernel
theorem dX4_takeWithin_0 : decode cX4_takeWithin 0 = .ok (.iconst 1, 1) := by decide +kernel
theorem dX4_takeWithin_1 : decode cX4_takeWithin 1 = .ok (.istore_n 2, 1) := by decide +kernel
theorem dX4_takeWithin_2 : decode cX4_takeWithin 2 = .ok (.iload_n 2, 1) := by decide +kernel
theorem dX4_takeWithin_3 : decode cX4_takeWithin 3 = .ok (.iconst 1, 1) := by decide +kernel
theorem dX4_takeWithin_4 : decode cX4_takeWithin 4 = .ok (.iload_n 1, 1) := by decide +kernel
theorem dX4_takeWithin_5 : decode cX4_takeWithin 5 = .ok (.ishl, 1) := by decide +kernel
theorem dX4_takeWithin_6 : decode cX4_takeWithin 6 = .ok (.if_icmp .ge 49, 3) := by decide +kernel
theorem dX4_takeWithin_9 : decode cX4_takeWithin 9 = .ok (.iconst 0, 1) := by decide +kernel
theorem dX4_takeWithin_10 : decode cX4_takeWithin 10 = .ok (.istore_n 3, 1) := by decide +kernel
theorem dX4_takeWithin_11 : decode cX4_takeWithin 11 = .ok (.iload_n 3, 1) := by decide +kernel
theorem dX4_takeWithin_12 : decode cX4_takeWithin 12 = .ok (.iload_n 1, 1) := by decide +kernel
theorem dX4_takeWithin_13 : decode cX4_takeWithin 13 = .ok (.if_icmp .ge 36, 3) := by decide +kernel
theorem dX4_takeWithin_16 : decode cX4_takeWithin 16 = .ok (.aload_n 0, 1) := by decide +kernel
theorem dX4_takeWithin_17 : decode cX4_takeWithin 17 = .ok (.getfield 18, 3) := by decide +kernel
theorem dX4_takeWithin_20 : decode cX4_takeWithin 20 = .ok (.iload_n 2, 1) := by decide +kernel
theorem dX4_takeWithin_21 : decode cX4_takeWithin 21 = .ok (.aload_n 0, 1) := by decide +kernel
theorem dX4_takeWithin_22 : decode cX4_takeWithin 22 = .ok (.getfield 18, 3) := by decide +kernel
theorem dX4_takeWithin_25 : decode cX4_takeWithin 25 = .ok (.iload_n 2, 1) := by decide +kernel
theorem dX4_takeWithin_26 : decode cX4_takeWithin 26 = .ok (.iaload, 1) := by decide +kernel
theorem dX4_takeWithin_27 : decode cX4_takeWithin 27 = .ok (.aload_n 0, 1) := by decide +kernel
theorem dX4_takeWithin_28 : decode cX4_takeWithin 28 = .ok (.getfield 18, 3) := by decide +kernel
theorem dX4_takeWithin_31 : decode cX4_takeWithin 31 = .ok (.iload_n 2, 1) := by decide +kernel
theorem dX4_takeWithin_32 : decode cX4_takeWithin 32 = .ok (.iconst 1, 1) := by decide +kernel
theorem dX4_takeWithin_33 : decode cX4_takeWithin 33 = .ok (.iload_n 3, 1) := by decide +kernel
theorem dX4_takeWithin_34 : decode cX4_takeWithin 34 = .ok (.ishl, 1) := by decide +kernel
theorem dX4_takeWithin_35 : decode cX4_takeWithin 35 = .ok (.iconst (-1), 1) := by decide +kernel
theorem dX4_takeWithin_36 : decode cX4_takeWithin 36 = .ok (.ixor, 1) := by decide +kernel
theorem dX4_takeWithin_37 : decode cX4_takeWithin 37 = .ok (.iand, 1) := by decide +kernel
theorem dX4_takeWithin_38 : decode cX4_takeWithin 38 = .ok (.iaload, 1) := by decide +kernel
theorem dX4_takeWithin_39 : decode cX4_takeWithin 39 = .ok (.invokestatic 60, 3) := by decide +kernel
theorem dX4_takeWithin_42 : decode cX4_takeWithin 42 = .ok (.iastore, 1) := by decide +kernel
theorem dX4_takeWithin_43 : decode cX4_takeWithin 43 = .ok (.iinc 3 1, 3) := by decide +kernel
theorem dX4_takeWithin_46 : decode cX4_takeWithin 46 = .ok (.goto (-35), 3) := by decide +kernel
theorem dX4_takeWithin_49 : decode cX4_takeWithin 49 = .ok (.iinc 2 1, 3) := by decide +kernel
theorem dX4_takeWithin_52 : decode cX4_takeWithin 52 = .ok (.goto (-50), 3) := by decide +kernel
theorem dX4_takeWithin_55 : decode cX4_takeWithin 55 = .ok (.return_, 1) := by decide +kernel
theorem dX4_added_0 : decode cX4_added 0 = .ok (.iconst 0, 1) := by decide +kernel
theorem dX4_added_1 : decode cX4_added 1 = .ok (.istore_n 3, 1) := by decide +kernel
theorem dX4_added_2 : decode cX4_added 2 = .ok (.iconst 0, 1) := by decide +kernel
theorem dX4_added_3 : decode cX4_added 3 = .ok (.istore 4, 2) := by decide +kernel
theorem dX4_added_5 : decode cX4_added 5 = .ok (.iload 4, 2) := by decide +kernel
theorem dX4_added_7 : decode cX4_added 7 = .ok (.iconst 1, 1) := by decide +kernel
theorem dX4_added_8 : decode cX4_added 8 = .ok (.iload_n 2, 1) := by decide +kernel
theorem dX4_added_9 : decode cX4_added 9 = .ok (.ishl, 1) := by decide +kernel
theorem dX4_added_10 : decode cX4_added 10 = .ok (.if_icmp .ge 69, 3) := by decide +kernel
theorem dX4_added_13 : decode cX4_added 13 = .ok (.iload 4, 2) := by decide +kernel
theorem dX4_added_15 : decode cX4_added 15 = .ok (.iload_n 1, 1) := by decide +kernel
theorem dX4_added_16 : decode cX4_added 16 = .ok (.ishr, 1) := by decide +kernel
theorem dX4_added_17 : decode cX4_added 17 = .ok (.iconst 1, 1) := by decide +kernel
theorem dX4_added_18 : decode cX4_added 18 = .ok (.iand, 1) := by decide +kernel
theorem dX4_added_19 : decode cX4_added 19 = .ok (.ifCond .ne 54, 3) := by decide +kernel
theorem dX4_added_22 : decode cX4_added 22 = .ok (.iload 4, 2) := by decide +kernel
theorem dX4_added_24 : decode cX4_added 24 = .ok (.invokestatic 55, 3) := by decide +kernel
theorem dX4_added_27 : decode cX4_added 27 = .ok (.istore 5, 2) := by decide +kernel
theorem dX4_added_29 : decode cX4_added 29 = .ok (.getstatic 65, 3) := by decide +kernel
theorem dX4_added_32 : decode cX4_added 32 = .ok (.iload 5, 2) := by decide +kernel
theorem dX4_added_34 : decode cX4_added 34 = .ok (.iaload, 1) := by decide +kernel
theorem dX4_added_35 : decode cX4_added 35 = .ok (.getstatic 65, 3) := by decide +kernel
theorem dX4_added_38 : decode cX4_added 38 = .ok (.iload_n 2, 1) := by decide +kernel
theorem dX4_added_39 : decode cX4_added 39 = .ok (.iconst 1, 1) := by decide +kernel
theorem dX4_added_40 : decode cX4_added 40 = .ok (.isub, 1) := by decide +kernel
theorem dX4_added_41 : decode cX4_added 41 = .ok (.iload 5, 2) := by decide +kernel
theorem dX4_added_43 : decode cX4_added 43 = .ok (.isub, 1) := by decide +kernel
theorem dX4_added_44 : decode cX4_added 44 = .ok (.iaload, 1) := by decide +kernel
theorem dX4_added_45 : decode cX4_added 45 = .ok (.imul, 1) := by decide +kernel
theorem dX4_added_46 : decode cX4_added 46 = .ok (.istore 6, 2) := by decide +kernel
theorem dX4_added_48 : decode cX4_added 48 = .ok (.iload_n 3, 1) := by decide +kernel
theorem dX4_added_49 : decode cX4_added 49 = .ok (.iload 6, 2) := by decide +kernel
theorem dX4_added_51 : decode cX4_added 51 = .ok (.aload_n 0, 1) := by decide +kernel
theorem dX4_added_52 : decode cX4_added 52 = .ok (.getfield 18, 3) := by decide +kernel
theorem dX4_added_55 : decode cX4_added 55 = .ok (.iload 4, 2) := by decide +kernel
theorem dX4_added_57 : decode cX4_added 57 = .ok (.iconst 1, 1) := by decide +kernel
theorem dX4_added_58 : decode cX4_added 58 = .ok (.iload_n 1, 1) := by decide +kernel
theorem dX4_added_59 : decode cX4_added 59 = .ok (.ishl, 1) := by decide +kernel
theorem dX4_added_60 : decode cX4_added 60 = .ok (.ior, 1) := by decide +kernel
theorem dX4_added_61 : decode cX4_added 61 = .ok (.iaload, 1) := by decide +kernel
theorem dX4_added_62 : decode cX4_added 62 = .ok (.aload_n 0, 1) := by decide +kernel
theorem dX4_added_63 : decode cX4_added 63 = .ok (.getfield 18, 3) := by decide +kernel
theorem dX4_added_66 : decode cX4_added 66 = .ok (.iload 4, 2) := by decide +kernel
theorem dX4_added_68 : decode cX4_added 68 = .ok (.iaload, 1) := by decide +kernel
theorem dX4_added_69 : decode cX4_added 69 = .ok (.isub, 1) := by decide +kernel
theorem dX4_added_70 : decode cX4_added 70 = .ok (.imul, 1) := by decide +kernel
theorem dX4_added_71 : decode cX4_added 71 = .ok (.iadd, 1) := by decide +kernel
theorem dX4_added_72 : decode cX4_added 72 = .ok (.istore_n 3, 1) := by decide +kernel
theorem dX4_added_73 : decode cX4_added 73 = .ok (.iinc 4 1, 3) := by decide +kernel
theorem dX4_added_76 : decode cX4_added 76 = .ok (.goto (-71), 3) := by decide +kernel
theorem dX4_added_79 : decode cX4_added 79 = .ok (.iload_n 3, 1) := by decide +kernel
theorem dX4_added_80 : decode cX4_added 80 = .ok (.ireturn, 1) := by decide +kernel
theorem dX5_init_0 : decode cX5_init 0 = .ok (.aload_n 0, 1) := by decide +kernel
theorem dX5_init_1 : decode cX5_init 1 = .ok (.invokespecial 3, 3) := by decide +kernel
theorem dX5_init_4 : decode cX5_init 4 = .ok (.aload_n 0, 1) := by decide +kernel
theorem dX5_init_5 : decode cX5_init 5 = .ok (.bipush 6, 2) := by decide +kernel
theorem dX5_init_7 : decode cX5_init 7 = .ok (.newarray .int, 2) := by decide +kernel
theorem dX5_init_9 : decode cX5_init 9 = .ok (.putfield 9, 3) := by decide +kernel
theorem dX5_init_12 : decode cX5_init 12 = .ok (.aload_n 0, 1) := by decide +kernel
theorem dX5_init_13 : decode cX5_init 13 = .ok (.bipush 6, 2) := by decide +kernel
theorem dX5_init_15 : decode cX5_init 15 = .ok (.newarray .int, 2) := by decide +kernel
theorem dX5_init_17 : decode cX5_init 17 = .ok (.putfield 15, 3) := by decide +kernel
theorem dX5_init_20 : decode cX5_init 20 = .ok (.aload_n 0, 1) := by decide +kernel
theorem dX5_init_21 : decode cX5_init 21 = .ok (.bipush 6, 2) := by decide +kernel
theorem dX5_init_23 : decode cX5_init 23 = .ok (.newarray .int, 2) := by decide +kernel
theorem dX5_init_25 : decode cX5_init 25 = .ok (.putfield 18, 3) := by decide +kernel
theorem dX5_init_28 : decode cX5_init 28 = .ok (.return_, 1) := by decide +kernel
theorem dX5_add_0 : decode cX5_add 0 = .ok (.aload_n 0, 1) := by decide +kernel
theorem dX5_add_1 : decode cX5_add 1 = .ok (.getfield 21, 3) := by decide +kernel
theorem dX5_add_4 : decode cX5_add 4 = .ok (.ifCond .lt 12, 3) := by decide +kernel
theorem dX5_add_7 : decode cX5_add 7 = .ok (.aload_n 0, 1) := by decide +kernel
theorem dX5_add_8 : decode cX5_add 8 = .ok (.getfield 21, 3) := by decide +kernel
theorem dX5_add_11 : decode cX5_add 11 = .ok (.bipush 6, 2) := by decide +kernel
theorem dX5_add_13 : decode cX5_add 13 = .ok (.if_icmp .lt 5, 3) := by decide +kernel
theorem dX5_add_16 : decode cX5_add 16 = .ok (.iconst 0, 1) := by decide +kernel
theorem dX5_add_17 : decode cX5_add 17 = .ok (.ireturn, 1) := by decide +kernel
theorem dX5_add_18 : decode cX5_add 18 = .ok (.aload_n 0, 1) := by decide +kernel
theorem dX5_add_19 : decode cX5_add 19 = .ok (.getfield 9, 3) := by decide +kernel
theorem dX5_add_22 : decode cX5_add 22 = .ok (.aload_n 0, 1) := by decide +kernel
theorem dX5_add_23 : decode cX5_add 23 = .ok (.getfield 21, 3) := by decide +kernel
theorem dX5_add_26 : decode cX5_add 26 = .ok (.iload_n 1, 1) := by decide +kernel
theorem dX5_add_27 : decode cX5_add 27 = .ok (.iastore, 1) := by decide +kernel
theorem dX5_add_28 : decode cX5_add 28 = .ok (.aload_n 0, 1) := by decide +kernel
theorem dX5_add_29 : decode cX5_add 29 = .ok (.getfield 15, 3) := by decide +kernel
theorem dX5_add_32 : decode cX5_add 32 = .ok (.aload_n 0, 1) := by decide +kernel
theorem dX5_add_33 : decode cX5_add 33 = .ok (.getfield 21, 3) := by decide +kernel
theorem dX5_add_36 : decode cX5_add 36 = .ok (.iload_n 2, 1) := by decide +kernel
theorem dX5_add_37 : decode cX5_add 37 = .ok (.iastore, 1) := by decide +kernel
theorem dX5_add_38 : decode cX5_add 38 = .ok (.aload_n 0, 1) := by decide +kernel
theorem dX5_add_39 : decode cX5_add 39 = .ok (.getfield 18, 3) := by decide +kernel
theorem dX5_add_42 : decode cX5_add 42 = .ok (.aload_n 0, 1) := by decide +kernel
theorem dX5_add_43 : decode cX5_add 43 = .ok (.getfield 21, 3) := by decide +kernel
theorem dX5_add_46 : decode cX5_add 46 = .ok (.iload_n 3, 1) := by decide +kernel
theorem dX5_add_47 : decode cX5_add 47 = .ok (.iastore, 1) := by decide +kernel
theorem dX5_add_48 : decode cX5_add 48 = .ok (.aload_n 0, 1) := by decide +kernel
theorem dX5_add_49 : decode cX5_add 49 = .ok (.dup, 1) := by decide +kernel
theorem dX5_add_50 : decode cX5_add 50 = .ok (.getfield 21, 3) := by decide +kernel
theorem dX5_add_53 : decode cX5_add 53 = .ok (.iconst 1, 1) := by decide +kernel
theorem dX5_add_54 : decode cX5_add 54 = .ok (.iadd, 1) := by decide +kernel
theorem dX5_add_55 : decode cX5_add 55 = .ok (.putfield 21, 3) := by decide +kernel
theorem dX5_add_58 : decode cX5_add 58 = .ok (.iconst 1, 1) := by decide +kernel
theorem dX5_add_59 : decode cX5_add 59 = .ok (.ireturn, 1) := by decide +kernel
theorem dX5_fits_0 : decode cX5_fits 0 = .ok (.iconst 0, 1) := by decide +kernel
theorem dX5_fits_1 : decode cX5_fits 1 = .ok (.istore 4, 2) := by decide +kernel
theorem dX5_fits_3 : decode cX5_fits 3 = .ok (.iload 4, 2) := by decide +kernel
theorem dX5_fits_5 : decode cX5_fits 5 = .ok (.aload_n 0, 1) := by decide +kernel
theorem dX5_fits_6 : decode cX5_fits 6 = .ok (.getfield 21, 3) := by decide +kernel
theorem dX5_fits_9 : decode cX5_fits 9 = .ok (.if_icmp .ge 79, 3) := by decide +kernel
theorem dX5_fits_12 : decode cX5_fits 12 = .ok (.iload 4, 2) := by decide +kernel
theorem dX5_fits_14 : decode cX5_fits 14 = .ok (.bipush 6, 2) := by decide +kernel
theorem dX5_fits_16 : decode cX5_fits 16 = .ok (.if_icmp .ge 72, 3) := by decide +kernel
theorem dX5_fits_19 : decode cX5_fits 19 = .ok (.aload_n 0, 1) := by decide +kernel
theorem dX5_fits_20 : decode cX5_fits 20 = .ok (.getfield 9, 3) := by decide +kernel
theorem dX5_fits_23 : decode cX5_fits 23 = .ok (.iload 4, 2) := by decide +kernel
theorem dX5_fits_25 : decode cX5_fits 25 = .ok (.iaload, 1) := by decide +kernel
theorem dX5_fits_26 : decode cX5_fits 26 = .ok (.iload_n 3, 1) := by decide +kernel
theorem dX5_fits_27 : decode cX5_fits 27 = .ok (.if_icmp .ge 29, 3) := by decide +kernel
theorem dX5_fits_30 : decode cX5_fits 30 = .ok (.aload_n 1, 1) := by decide +kernel
theorem dX5_fits_31 : decode cX5_fits 31 = .ok (.iload_n 2, 1) := by decide +kernel
theorem dX5_fits_32 : decode cX5_fits 32 = .ok (.aload_n 0, 1) := by decide +kernel
theorem dX5_fits_33 : decode cX5_fits 33 = .ok (.getfield 9, 3) := by decide +kernel
theorem dX5_fits_36 : decode cX5_fits 36 = .ok (.iload 4, 2) := by decide +kernel
theorem dX5_fits_38 : decode cX5_fits 38 = .ok (.iaload, 1) := by decide +kernel
theorem dX5_fits_39 : decode cX5_fits 39 = .ok (.aload_n 0, 1) := by decide +kernel
theorem dX5_fits_40 : decode cX5_fits 40 = .ok (.getfield 15, 3) := by decide +kernel
theorem dX5_fits_43 : decode cX5_fits 43 = .ok (.iload 4, 2) := by decide +kernel
theorem dX5_fits_45 : decode cX5_fits 45 = .ok (.iaload, 1) := by decide +kernel
theorem dX5_fits_46 : decode cX5_fits 46 = .ok (.invokevirtual 25, 3) := by decide +kernel
theorem dX5_fits_49 : decode cX5_fits 49 = .ok (.ifCond .le 7, 3) := by decide +kernel
theorem dX5_fits_52 : decode cX5_fits 52 = .ok (.iconst 1, 1) := by decide +kernel
theorem dX5_fits_53 : decode cX5_fits 53 = .ok (.goto 4, 3) := by decide +kernel
theorem dX5_fits_56 : decode cX5_fits 56 = .ok (.iconst 0, 1) := by decide +kernel
theorem dX5_fits_57 : decode cX5_fits 57 = .ok (.istore 5, 2) := by decide +kernel
theorem dX5_fits_59 : decode cX5_fits 59 = .ok (.iload 5, 2) := by decide +kernel
theorem dX5_fits_61 : decode cX5_fits 61 = .ok (.aload_n 0, 1) := by decide +kernel
theorem dX5_fits_62 : decode cX5_fits 62 = .ok (.getfield 18, 3) := by decide +kernel
theorem dX5_fits_65 : decode cX5_fits 65 = .ok (.iload 4, 2) := by decide +kernel
theorem dX5_fits_67 : decode cX5_fits 67 = .ok (.iaload, 1) := by decide +kernel
theorem dX5_fits_68 : decode cX5_fits 68 = .ok (.iconst 1, 1) := by decide +kernel
theorem dX5_fits_69 : decode cX5_fits 69 = .ok (.if_icmp .ne 7, 3) := by decide +kernel
theorem dX5_fits_72 : decode cX5_fits 72 = .ok (.iconst 1, 1) := by decide +kernel
theorem dX5_fits_73 : decode cX5_fits 73 = .ok (.goto 4, 3) := by decide +kernel
theorem dX5_fits_76 : decode cX5_fits 76 = .ok (.iconst 0, 1) := by decide +kernel
theorem dX5_fits_77 : decode cX5_fits 77 = .ok (.if_icmp .eq 5, 3) := by decide +kernel
theorem dX5_fits_80 : decode cX5_fits 80 = .ok (.iconst 0, 1) := by decide +kernel
theorem dX5_fits_81 : decode cX5_fits 81 = .ok (.ireturn, 1) := by decide +kernel
theorem dX5_fits_82 : decode cX5_fits 82 = .ok (.iinc 4 1, 3) := by decide +kernel
theorem dX5_fits_85 : decode cX5_fits 85 = .ok (.goto (-82), 3) := by decide +kernel
theorem dX5_fits_88 : decode cX5_fits 88 = .ok (.iconst 1, 1) := by decide +kernel
theorem dX5_fits_89 : decode cX5_fits 89 = .ok (.ireturn, 1) := by decide +kernel
theorem dX6_init_0 : decode cX6_init 0 = .ok (.aload_n 0, 1) := by decide +kernel
theorem dX6_init_1 : decode cX6_init 1 = .ok (.invokespecial 3, 3) := by decide +kernel
theorem dX6_init_4 : decode cX6_init 4 = .ok (.aload_n 0, 1) := by decide +kernel
theorem dX6_init_5 : decode cX6_init 5 = .ok (.bipush 42, 2) := by decide +kernel
theorem dX6_init_7 : decode cX6_init 7 = .ok (.newarray .int, 2) := by decide +kernel
theorem dX6_init_9 : decode cX6_init 9 = .ok (.putfield 9, 3) := by decide +kernel
theorem dX6_init_12 : decode cX6_init 12 = .ok (.aload_n 0, 1) := by decide +kernel
theorem dX6_init_13 : decode cX6_init 13 = .ok (.bipush 36, 2) := by decide +kernel
theorem dX6_init_15 : decode cX6_init 15 = .ok (.newarray .int, 2) := by decide +kernel
theorem dX6_init_17 : decode cX6_init 17 = .ok (.putfield 15, 3) := by decide +kernel
theorem dX6_init_20 : decode cX6_init 20 = .ok (.return_, 1) := by decide +kernel
theorem dX6_isKept_0 : decode cX6_isKept 0 = .ok (.aload_n 0, 1) := by decide +kernel
theorem dX6_isKept_1 : decode cX6_isKept 1 = .ok (.aload_n 1, 1) := by decide +kernel
theorem dX6_isKept_2 : decode cX6_isKept 2 = .ok (.invokevirtual 18, 3) := by decide +kernel
theorem dX6_isKept_5 : decode cX6_isKept 5 = .ok (.bipush 60, 2) := by decide +kernel
theorem dX6_isKept_7 : decode cX6_isKept 7 = .ok (.iload_n 2, 1) := by decide +kernel
theorem dX6_isKept_8 : decode cX6_isKept 8 = .ok (.imul, 1) := by decide +kernel
theorem dX6_isKept_9 : decode cX6_isKept 9 = .ok (.if_icmp .gt 7, 3) := by decide +kernel
theorem dX6_isKept_12 : decode cX6_isKept 12 = .ok (.iconst 1, 1) := by decide +kernel
theorem dX6_isKept_13 : decode cX6_isKept 13 = .ok (.goto 4, 3) := by decide +kernel
theorem dX6_isKept_16 : decode cX6_isKept 16 = .ok (.iconst 0, 1) := by decide +kernel
theorem dX6_isKept_17 : decode cX6_isKept 17 = .ok (.ireturn, 1) := by decide +kernel
theorem dX6_slowest_0 : decode cX6_slowest 0 = .ok (.iconst 0, 1) := by decide +kernel
theorem dX6_slowest_1 : decode cX6_slowest 1 = .ok (.istore_n 2, 1) := by decide +kernel
theorem dX6_slowest_2 : decode cX6_slowest 2 = .ok (.iload_n 2, 1) := by decide +kernel
theorem dX6_slowest_3 : decode cX6_slowest 3 = .ok (.aload_n 1, 1) := by decide +kernel
theorem dX6_slowest_4 : decode cX6_slowest 4 = .ok (.getfield 22, 3) := by decide +kernel
theorem dX6_slowest_7 : decode cX6_slowest 7 = .ok (.if_icmp .ge 16, 3) := by decide +kernel
theorem dX6_slowest_10 : decode cX6_slowest 10 = .ok (.aload_n 0, 1) := by decide +kernel
theorem dX6_slowest_11 : decode cX6_slowest 11 = .ok (.getfield 9, 3) := by decide +kernel
theorem dX6_slowest_14 : decode cX6_slowest 14 = .ok (.iload_n 2, 1) := by decide +kernel
theorem dX6_slowest_15 : decode cX6_slowest 15 = .ok (.iconst 0, 1) := by decide +kernel
theorem dX6_slowest_16 : decode cX6_slowest 16 = .ok (.iastore, 1) := by decide +kernel
theorem dX6_slowest_17 : decode cX6_slowest 17 = .ok (.iinc 2 1, 3) := by decide +kernel
theorem dX6_slowest_20 : decode cX6_slowest 20 = .ok (.goto (-18), 3) := by decide +kernel
theorem dX6_slowest_23 : decode cX6_slowest 23 = .ok (.iconst 1, 1) := by decide +kernel
theorem dX6_slowest_24 : decode cX6_slowest 24 = .ok (.istore_n 2, 1) := by decide +kernel
theorem dX6_slowest_25 : decode cX6_slowest 25 = .ok (.iload_n 2, 1) := by decide +kernel
theorem dX6_slowest_26 : decode cX6_slowest 26 = .ok (.aload_n 1, 1) := by decide +kernel
theorem dX6_slowest_27 : decode cX6_slowest 27 = .ok (.getfield 22, 3) := by decide +kernel
theorem dX6_slowest_30 : decode cX6_slowest 30 = .ok (.if_icmp .gt 45, 3) := by decide +kernel
theorem dX6_slowest_33 : decode cX6_slowest 33 = .ok (.iconst 0, 1) := by decide +kernel
theorem dX6_slowest_34 : decode cX6_slowest 34 = .ok (.istore_n 3, 1) := by decide +kernel
theorem dX6_slowest_35 : decode cX6_slowest 35 = .ok (.iload_n 3, 1) := by decide +kernel
theorem dX6_slowest_36 : decode cX6_slowest 36 = .ok (.aload_n 1, 1) := by decide +kernel
theorem dX6_slowest_37 : decode cX6_slowest 37 = .ok (.getfield 22, 3) := by decide +kernel
theorem dX6_slowest_40 : decode cX6_slowest 40 = .ok (.if_icmp .ge 29, 3) := by decide +kernel
theorem dX6_slowest_43 : decode cX6_slowest 43 = .ok (.aload_n 0, 1) := by decide +kernel
theorem dX6_slowest_44 : decode cX6_slowest 44 = .ok (.getfield 9, 3) := by decide +kernel
theorem dX6_slowest_47 : decode cX6_slowest 47 = .ok (.iload_n 2, 1) := by decide +kernel
theorem dX6_slowest_48 : decode cX6_slowest 48 = .ok (.bipush 6, 2) := by decide +kernel
theorem dX6_slowest_50 : decode cX6_slowest 50 = .ok (.imul, 1) := by decide +kernel
theorem dX6_slowest_51 : decode cX6_slowest 51 = .ok (.iload_n 3, 1) := by decide +kernel
theorem dX6_slowest_52 : decode cX6_slowest 52 = .ok (.iadd, 1) := by decide +kernel
theorem dX6_slowest_53 : decode cX6_slowest 53 = .ok (.aload_n 0, 1) := by decide +kernel
theorem dX6_slowest_54 : decode cX6_slowest 54 = .ok (.aload_n 1, 1) := by decide +kernel
theorem dX6_slowest_55 : decode cX6_slowest 55 = .ok (.iload_n 2, 1) := by decide +kernel
theorem dX6_slowest_56 : decode cX6_slowest 56 = .ok (.iconst 1, 1) := by decide +kernel
theorem dX6_slowest_57 : decode cX6_slowest 57 = .ok (.isub, 1) := by decide +kernel
theorem dX6_slowest_58 : decode cX6_slowest 58 = .ok (.iload_n 3, 1) := by decide +kernel
theorem dX6_slowest_59 : decode cX6_slowest 59 = .ok (.invokevirtual 28, 3) := by decide +kernel
theorem dX6_slowest_62 : decode cX6_slowest 62 = .ok (.iastore, 1) := by decide +kernel
theorem dX6_slowest_63 : decode cX6_slowest 63 = .ok (.iinc 3 1, 3) := by decide +kernel
theorem dX6_slowest_66 : decode cX6_slowest 66 = .ok (.goto (-31), 3) := by decide +kernel
theorem dX6_slowest_69 : decode cX6_slowest 69 = .ok (.iinc 2 1, 3) := by decide +kernel
theorem dX6_slowest_72 : decode cX6_slowest 72 = .ok (.goto (-47), 3) := by decide +kernel
theorem dX6_slowest_75 : decode cX6_slowest 75 = .ok (.iconst (-1), 1) := by decide +kernel
theorem dX6_slowest_76 : decode cX6_slowest 76 = .ok (.istore_n 2, 1) := by decide +kernel
theorem dX6_slowest_77 : decode cX6_slowest 77 = .ok (.iconst 0, 1) := by decide +kernel
theorem dX6_slowest_78 : decode cX6_slowest 78 = .ok (.istore_n 3, 1) := by decide +kernel
theorem dX6_slowest_79 : decode cX6_slowest 79 = .ok (.iload_n 3, 1) := by decide +kernel
theorem dX6_slowest_80 : decode cX6_slowest 80 = .ok (.aload_n 1, 1) := by decide +kernel
theorem dX6_slowest_81 : decode cX6_slowest 81 = .ok (.getfield 22, 3) := by decide +kernel
theorem dX6_slowest_84 : decode cX6_slowest 84 = .ok (.if_icmp .ge 23, 3) := by decide +kernel
theorem dX6_slowest_87 : decode cX6_slowest 87 = .ok (.iload_n 2, 1) := by decide +kernel
theorem dX6_slowest_88 : decode cX6_slowest 88 = .ok (.aload_n 0, 1) := by decide +kernel
theorem dX6_slowest_89 : decode cX6_slowest 89 = .ok (.aload_n 1, 1) := by decide +kernel
theorem dX6_slowest_90 : decode cX6_slowest 90 = .ok (.getfield 22, 3) := by decide +kernel
theorem dX6_slowest_93 : decode cX6_slowest 93 = .ok (.iload_n 3, 1) := by decide +kernel
theorem dX6_slowest_94 : decode cX6_slowest 94 = .ok (.invokevirtual 32, 3) := by decide +kernel
theorem dX6_slowest_97 : decode cX6_slowest 97 = .ok (.invokestatic 36, 3) := by decide +kernel
theorem dX6_slowest_100 : decode cX6_slowest 100 = .ok (.istore_n 2, 1) := by decide +kernel
theorem dX6_slowest_101 : decode cX6_slowest 101 = .ok (.iinc 3 1, 3) := by decide +kernel
theorem dX6_slowest_104 : decode cX6_slowest 104 = .ok (.goto (-25), 3) := by decide +kernel
theorem dX6_slowest_107 : decode cX6_slowest 107 = .ok (.iload_n 2, 1) := by decide +kernel
theorem dX6_slowest_108 : decode cX6_slowest 108 = .ok (.ireturn, 1) := by decide +kernel
theorem dX6_longest_0 : decode cX6_longest 0 = .ok (.iconst (-1), 1) := by decide +kernel
theorem dX6_longest_1 : decode cX6_longest 1 = .ok (.istore 4, 2) := by decide +kernel
theorem dX6_longest_3 : decode cX6_longest 3 = .ok (.iconst 0, 1) := by decide +kernel
theorem dX6_longest_4 : decode cX6_longest 4 = .ok (.istore 5, 2) := by decide +kernel
theorem dX6_longest_6 : decode cX6_longest 6 = .ok (.iload 5, 2) := by decide +kernel
theorem dX6_longest_8 : decode cX6_longest 8 = .ok (.aload_n 1, 1) := by decide +kernel
theorem dX6_longest_9 : decode cX6_longest 9 = .ok (.getfield 22, 3) := by decide +kernel
theorem dX6_longest_12 : decode cX6_longest 12 = .ok (.if_icmp .ge 56, 3) := by decide +kernel
theorem dX6_longest_15 : decode cX6_longest 15 = .ok (.aload_n 0, 1) := by decide +kernel
theorem dX6_longest_16 : decode cX6_longest 16 = .ok (.getfield 9, 3) := by decide +kernel
theorem dX6_longest_19 : decode cX6_longest 19 = .ok (.iload_n 2, 1) := by decide +kernel
theorem dX6_longest_20 : decode cX6_longest 20 = .ok (.bipush 6, 2) := by decide +kernel
theorem dX6_longest_22 : decode cX6_longest 22 = .ok (.imul, 1) := by decide +kernel
theorem dX6_longest_23 : decode cX6_longest 23 = .ok (.iload 5, 2) := by decide +kernel
theorem dX6_longest_25 : decode cX6_longest 25 = .ok (.iadd, 1) := by decide +kernel
theorem dX6_longest_26 : decode cX6_longest 26 = .ok (.iaload, 1) := by decide +kernel
theorem dX6_longest_27 : decode cX6_longest 27 = .ok (.istore 6, 2) := by decide +kernel
theorem dX6_longest_29 : decode cX6_longest 29 = .ok (.aload_n 1, 1) := by decide +kernel
theorem dX6_longest_30 : decode cX6_longest 30 = .ok (.iload 5, 2) := by decide +kernel
theorem dX6_longest_32 : decode cX6_longest 32 = .ok (.iload_n 3, 1) := by decide +kernel
theorem dX6_longest_33 : decode cX6_longest 33 = .ok (.invokevirtual 41, 3) := by decide +kernel
theorem dX6_longest_36 : decode cX6_longest 36 = .ok (.istore 7, 2) := by decide +kernel
theorem dX6_longest_38 : decode cX6_longest 38 = .ok (.iload 6, 2) := by decide +kernel
theorem dX6_longest_40 : decode cX6_longest 40 = .ok (.ifCond .lt 22, 3) := by decide +kernel
theorem dX6_longest_43 : decode cX6_longest 43 = .ok (.iload 7, 2) := by decide +kernel
theorem dX6_longest_45 : decode cX6_longest 45 = .ok (.bipush (-9), 2) := by decide +kernel
theorem dX6_longest_47 : decode cX6_longest 47 = .ok (.if_icmp .eq 15, 3) := by decide +kernel
theorem dX6_longest_50 : decode cX6_longest 50 = .ok (.iload 4, 2) := by decide +kernel
theorem dX6_longest_52 : decode cX6_longest 52 = .ok (.iload 6, 2) := by decide +kernel
theorem dX6_longest_54 : decode cX6_longest 54 = .ok (.iload 7, 2) := by decide +kernel
theorem dX6_longest_56 : decode cX6_longest 56 = .ok (.iadd, 1) := by decide +kernel
theorem dX6_longest_57 : decode cX6_longest 57 = .ok (.invokestatic 36, 3) := by decide +kernel
theorem dX6_longest_60 : decode cX6_longest 60 = .ok (.istore 4, 2) := by decide +kernel
theorem dX6_longest_62 : decode cX6_longest 62 = .ok (.iinc 5 1, 3) := by decide +kernel
theorem dX6_longest_65 : decode cX6_longest 65 = .ok (.goto (-59), 3) := by decide +kernel
theorem dX6_longest_68 : decode cX6_longest 68 = .ok (.iload 4, 2) := by decide +kernel
theorem dX6_longest_70 : decode cX6_longest 70 = .ok (.ireturn, 1) := by decide +kernel
theorem dX6_leastMean_0 : decode cX6_leastMean 0 = .ok (.aload_n 0, 1) := by decide +kernel
theorem dX6_leastMean_1 : decode cX6_leastMean 1 = .ok (.getfield 9, 3) := by decide +kernel
theorem dX6_leastMean_4 : decode cX6_leastMean 4 = .ok (.iload_n 1, 1) := by decide +kernel
theorem dX6_leastMean_5 : decode cX6_leastMean 5 = .ok (.bipush 6, 2) := by decide +kernel
theorem dX6_leastMean_7 : decode cX6_leastMean 7 = .ok (.imul, 1) := by decide +kernel
theorem dX6_leastMean_8 : decode cX6_leastMean 8 = .ok (.iload_n 2, 1) := by decide +kernel
theorem dX6_leastMean_9 : decode cX6_leastMean 9 = .ok (.iadd, 1) := by decide +kernel
theorem dX6_leastMean_10 : decode cX6_leastMean 10 = .ok (.iaload, 1) := by decide +kernel
theorem dX6_leastMean_11 : decode cX6_leastMean 11 = .ok (.istore_n 3, 1) := by decide +kernel
theorem dX6_leastMean_12 : decode cX6_leastMean 12 = .ok (.iload_n 3, 1) := by decide +kernel
theorem dX6_leastMean_13 : decode cX6_leastMean 13 = .ok (.ifCond .ge 5, 3) := by decide +kernel
theorem dX6_leastMean_16 : decode cX6_leastMean 16 = .ok (.iconst (-1), 1) := by decide +kernel
theorem dX6_leastMean_17 : decode cX6_leastMean 17 = .ok (.ireturn, 1) := by decide +kernel
theorem dX6_leastMean_18 : decode cX6_leastMean 18 = .ok (.ldc 44, 2) := by decide +kernel
theorem dX6_leastMean_20 : decode cX6_leastMean 20 = .ok (.istore 4, 2) := by decide +kernel
theorem dX6_leastMean_22 : decode cX6_leastMean 22 = .ok (.iconst 0, 1) := by decide +kernel
theorem dX6_leastMean_23 : decode cX6_leastMean 23 = .ok (.istore 5, 2) := by decide +kernel
theorem dX6_leastMean_25 : decode cX6_leastMean 25 = .ok (.iload 5, 2) := by decide +kernel
theorem dX6_leastMean_27 : decode cX6_leastMean 27 = .ok (.iload_n 1, 1) := by decide +kernel
theorem dX6_leastMean_28 : decode cX6_leastMean 28 = .ok (.if_icmp .ge 39, 3) := by decide +kernel
theorem dX6_leastMean_31 : decode cX6_leastMean 31 = .ok (.iload 4, 2) := by decide +kernel
theorem dX6_leastMean_33 : decode cX6_leastMean 33 = .ok (.iload_n 3, 1) := by decide +kernel
theorem dX6_leastMean_34 : decode cX6_leastMean 34 = .ok (.aload_n 0, 1) := by decide +kernel
theorem dX6_leastMean_35 : decode cX6_leastMean 35 = .ok (.getfield 9, 3) := by decide +kernel
theorem dX6_leastMean_38 : decode cX6_leastMean 38 = .ok (.iload 5, 2) := by decide +kernel
theorem dX6_leastMean_40 : decode cX6_leastMean 40 = .ok (.bipush 6, 2) := by decide +kernel
theorem dX6_leastMean_42 : decode cX6_leastMean 42 = .ok (.imul, 1) := by decide +kernel
theorem dX6_leastMean_43 : decode cX6_leastMean 43 = .ok (.iload_n 2, 1) := by decide +kernel
theorem dX6_leastMean_44 : decode cX6_leastMean 44 = .ok (.iadd, 1) := by decide +kernel
theorem dX6_leastMean_45 : decode cX6_leastMean 45 = .ok (.iaload, 1) := by decide +kernel
theorem dX6_leastMean_46 : decode cX6_leastMean 46 = .ok (.isub, 1) := by decide +kernel
theorem dX6_leastMean_47 : decode cX6_leastMean 47 = .ok (.getstatic 45, 3) := by decide +kernel
theorem dX6_leastMean_50 : decode cX6_leastMean 50 = .ok (.iload_n 1, 1) := by decide +kernel
theorem dX6_leastMean_51 : decode cX6_leastMean 51 = .ok (.iload 5, 2) := by decide +kernel
theorem dX6_leastMean_53 : decode cX6_leastMean 53 = .ok (.isub, 1) := by decide +kernel
theorem dX6_leastMean_54 : decode cX6_leastMean 54 = .ok (.iaload, 1) := by decide +kernel
theorem dX6_leastMean_55 : decode cX6_leastMean 55 = .ok (.imul, 1) := by decide +kernel
theorem dX6_leastMean_56 : decode cX6_leastMean 56 = .ok (.invokestatic 48, 3) := by decide +kernel
theorem dX6_leastMean_59 : decode cX6_leastMean 59 = .ok (.istore 4, 2) := by decide +kernel
theorem dX6_leastMean_61 : decode cX6_leastMean 61 = .ok (.iinc 5 1, 3) := by decide +kernel
theorem dX6_leastMean_64 : decode cX6_leastMean 64 = .ok (.goto (-39), 3) := by decide +kernel
theorem dX6_leastMean_67 : decode cX6_leastMean 67 = .ok (.iload 4, 2) := by decide +kernel
theorem dX6_leastMean_69 : decode cX6_leastMean 69 = .ok (.ireturn, 1) := by decide +kernel
theorem dX6_compare_0 : decode cX6_compare 0 = .ok (.aload_n 0, 1) := by decide +kernel
theorem dX6_compare_1 : decode cX6_compare 1 = .ok (.aload_n 0, 1) := by decide +kernel
theorem dX6_compare_2 : decode cX6_compare 2 = .ok (.aload_n 1, 1) := by decide +kernel
theorem dX6_compare_3 : decode cX6_compare 3 = .ok (.invokevirtual 18, 3) := by decide +kernel
theorem dX6_compare_6 : decode cX6_compare 6 = .ok (.putfield 51, 3) := by decide +kernel
theorem dX6_compare_9 : decode cX6_compare 9 = .ok (.iconst 0, 1) := by decide +kernel
theorem dX6_compare_10 : decode cX6_compare 10 = .ok (.istore_n 2, 1) := by decide +kernel
theorem dX6_compare_11 : decode cX6_compare 11 = .ok (.iload_n 2, 1) := by decide +kernel
theorem dX6_compare_12 : decode cX6_compare 12 = .ok (.aload_n 1, 1) := by decide +kernel
theorem dX6_compare_13 : decode cX6_compare 13 = .ok (.getfield 22, 3) := by decide +kernel
theorem dX6_compare_16 : decode cX6_compare 16 = .ok (.if_icmp .ge 56, 3) := by decide +kernel
theorem dX6_compare_19 : decode cX6_compare 19 = .ok (.iconst 0, 1) := by decide +kernel
theorem dX6_compare_20 : decode cX6_compare 20 = .ok (.istore_n 3, 1) := by decide +kernel
theorem dX6_compare_21 : decode cX6_compare 21 = .ok (.iload_n 3, 1) := by decide +kernel
theorem dX6_compare_22 : decode cX6_compare 22 = .ok (.aload_n 1, 1) := by decide +kernel
theorem dX6_compare_23 : decode cX6_compare 23 = .ok (.getfield 22, 3) := by decide +kernel
theorem dX6_compare_26 : decode cX6_compare 26 = .ok (.if_icmp .ge 40, 3) := by decide +kernel
theorem dX6_compare_29 : decode cX6_compare 29 = .ok (.iload_n 2, 1) := by decide +kernel
theorem dX6_compare_30 : decode cX6_compare 30 = .ok (.iload_n 3, 1) := by decide +kernel
theorem dX6_compare_31 : decode cX6_compare 31 = .ok (.if_icmp .ne 7, 3) := by decide +kernel
theorem dX6_compare_34 : decode cX6_compare 34 = .ok (.iconst 0, 1) := by decide +kernel
theorem dX6_compare_35 : decode cX6_compare 35 = .ok (.goto 10, 3) := by decide +kernel
theorem dX6_compare_38 : decode cX6_compare 38 = .ok (.aload_n 0, 1) := by decide +kernel
theorem dX6_compare_39 : decode cX6_compare 39 = .ok (.aload_n 1, 1) := by decide +kernel
theorem dX6_compare_40 : decode cX6_compare 40 = .ok (.iload_n 2, 1) := by decide +kernel
theorem dX6_compare_41 : decode cX6_compare 41 = .ok (.iload_n 3, 1) := by decide +kernel
theorem dX6_compare_42 : decode cX6_compare 42 = .ok (.invokevirtual 54, 3) := by decide +kernel
theorem dX6_compare_45 : decode cX6_compare 45 = .ok (.istore 4, 2) := by decide +kernel
theorem dX6_compare_47 : decode cX6_compare 47 = .ok (.aload_n 0, 1) := by decide +kernel
theorem dX6_compare_48 : decode cX6_compare 48 = .ok (.getfield 15, 3) := by decide +kernel
theorem dX6_compare_51 : decode cX6_compare 51 = .ok (.iload_n 2, 1) := by decide +kernel
theorem dX6_compare_52 : decode cX6_compare 52 = .ok (.bipush 6, 2) := by decide +kernel
theorem dX6_compare_54 : decode cX6_compare 54 = .ok (.imul, 1) := by decide +kernel
theorem dX6_compare_55 : decode cX6_compare 55 = .ok (.iload_n 3, 1) := by decide +kernel
theorem dX6_compare_56 : decode cX6_compare 56 = .ok (.iadd, 1) := by decide +kernel
theorem dX6_compare_57 : decode cX6_compare 57 = .ok (.iload 4, 2) := by decide +kernel
theorem dX6_compare_59 : decode cX6_compare 59 = .ok (.iastore, 1) := by decide +kernel
theorem dX6_compare_60 : decode cX6_compare 60 = .ok (.iinc 3 1, 3) := by decide +kernel
theorem dX6_compare_63 : decode cX6_compare 63 = .ok (.goto (-42), 3) := by decide +kernel
theorem dX6_compare_66 : decode cX6_compare 66 = .ok (.iinc 2 1, 3) := by decide +kernel
theorem dX6_compare_69 : decode cX6_compare 69 = .ok (.goto (-58), 3) := by decide +kernel
theorem dX6_compare_72 : decode cX6_compare 72 = .ok (.iconst 0, 1) := by decide +kernel
theorem dX6_compare_73 : decode cX6_compare 73 = .ok (.istore_n 2, 1) := by decide +kernel
theorem dX6_compare_74 : decode cX6_compare 74 = .ok (.iload_n 2, 1) := by decide +kernel
theorem dX6_compare_75 : decode cX6_compare 75 = .ok (.aload_n 1, 1) := by decide +kernel
theorem dX6_compare_76 : decode cX6_compare 76 = .ok (.getfield 22, 3) := by decide +kernel
theorem dX6_compare_79 : decode cX6_compare 79 = .ok (.if_icmp .ge 51, 3) := by decide +kernel
theorem dX6_compare_82 : decode cX6_compare 82 = .ok (.iconst 0, 1) := by decide +kernel
theorem dX6_compare_83 : decode cX6_compare 83 = .ok (.istore_n 3, 1) := by decide +kernel
theorem dX6_compare_84 : decode cX6_compare 84 = .ok (.iload_n 3, 1) := by decide +kernel
theorem dX6_compare_85 : decode cX6_compare 85 = .ok (.aload_n 1, 1) := by decide +kernel
theorem dX6_compare_86 : decode cX6_compare 86 = .ok (.getfield 22, 3) := by decide +kernel
theorem dX6_compare_89 : decode cX6_compare 89 = .ok (.if_icmp .ge 35, 3) := by decide +kernel
theorem dX6_compare_92 : decode cX6_compare 92 = .ok (.iconst 0, 1) := by decide +kernel
theorem dX6_compare_93 : decode cX6_compare 93 = .ok (.istore 4, 2) := by decide +kernel
theorem dX6_compare_95 : decode cX6_compare 95 = .ok (.iload 4, 2) := by decide +kernel
theorem dX6_compare_97 : decode cX6_compare 97 = .ok (.aload_n 1, 1) := by decide +kernel
theorem dX6_compare_98 : decode cX6_compare 98 = .ok (.getfield 22, 3) := by decide +kernel
theorem dX6_compare_101 : decode cX6_compare 101 = .ok (.if_icmp .ge 17, 3) := by decide +kernel
theorem dX6_compare_104 : decode cX6_compare 104 = .ok (.aload_n 0, 1) := by decide +kernel
theorem dX6_compare_105 : decode cX6_compare 105 = .ok (.iload_n 3, 1) := by decide +kernel
theorem dX6_compare_106 : decode cX6_compare 106 = .ok (.iload_n 2, 1) := by decide +kernel
theorem dX6_compare_107 : decode cX6_compare 107 = .ok (.iload 4, 2) := by decide +kernel
theorem dX6_compare_109 : decode cX6_compare 109 = .ok (.invokevirtual 57, 3) := by decide +kernel
theorem dX6_compare_112 : decode cX6_compare 112 = .ok (.iinc 4 1, 3) := by decide +kernel
theorem dX6_compare_115 : decode cX6_compare 115 = .ok (.goto (-20), 3) := by decide +kernel
theorem dX6_compare_118 : decode cX6_compare 118 = .ok (.iinc 3 1, 3) := by decide +kernel
theorem dX6_compare_121 : decode cX6_compare 121 = .ok (.goto (-37), 3) := by decide +kernel
theorem dX6_compare_124 : decode cX6_compare 124 = .ok (.iinc 2 1, 3) := by decide +kernel
theorem dX6_compare_127 : decode cX6_compare 127 = .ok (.goto (-53), 3) := by decide +kernel
theorem dX6_compare_130 : decode cX6_compare 130 = .ok (.return_, 1) := by decide +kernel
theorem dX6_gainOf_0 : decode cX6_gainOf 0 = .ok (.aload_n 1, 1) := by decide +kernel
theorem dX6_gainOf_1 : decode cX6_gainOf 1 = .ok (.iload_n 2, 1) := by decide +kernel
theorem dX6_gainOf_2 : decode cX6_gainOf 2 = .ok (.iload_n 3, 1) := by decide +kernel
theorem dX6_gainOf_3 : decode cX6_gainOf 3 = .ok (.invokevirtual 41, 3) := by decide +kernel
theorem dX6_gainOf_6 : decode cX6_gainOf 6 = .ok (.istore 4, 2) := by decide +kernel
theorem dX6_gainOf_8 : decode cX6_gainOf 8 = .ok (.iload 4, 2) := by decide +kernel
theorem dX6_gainOf_10 : decode cX6_gainOf 10 = .ok (.bipush (-9), 2) := by decide +kernel
theorem dX6_gainOf_12 : decode cX6_gainOf 12 = .ok (.if_icmp .ne 8, 3) := by decide +kernel
theorem dX6_gainOf_15 : decode cX6_gainOf 15 = .ok (.ldc 61, 2) := by decide +kernel
theorem dX6_gainOf_17 : decode cX6_gainOf 17 = .ok (.goto 13, 3) := by decide +kernel
theorem dX6_gainOf_20 : decode cX6_gainOf 20 = .ok (.bipush 60, 2) := by decide +kernel
theorem dX6_gainOf_22 : decode cX6_gainOf 22 = .ok (.iload 4, 2) := by decide +kernel
theorem dX6_gainOf_24 : decode cX6_gainOf 24 = .ok (.imul, 1) := by decide +kernel
theorem dX6_gainOf_25 : decode cX6_gainOf 25 = .ok (.aload_n 0, 1) := by decide +kernel
theorem dX6_gainOf_26 : decode cX6_gainOf 26 = .ok (.getfield 51, 3) := by decide +kernel
theorem dX6_gainOf_29 : decode cX6_gainOf 29 = .ok (.isub, 1) := by decide +kernel
theorem dX6_gainOf_30 : decode cX6_gainOf 30 = .ok (.ireturn, 1) := by decide +kernel
theorem dX6_join_0 : decode cX6_join 0 = .ok (.aload_n 0, 1) := by decide +kernel
theorem dX6_join_1 : decode cX6_join 1 = .ok (.getfield 15, 3) := by decide +kernel
theorem dX6_join_4 : decode cX6_join 4 = .ok (.iload_n 1, 1) := by decide +kernel
theorem dX6_join_5 : decode cX6_join 5 = .ok (.bipush 6, 2) := by decide +kernel
theorem dX6_join_7 : decode cX6_join 7 = .ok (.imul, 1) := by decide +kernel
theorem dX6_join_8 : decode cX6_join 8 = .ok (.iload_n 2, 1) := by decide +kernel
theorem dX6_join_9 : decode cX6_join 9 = .ok (.iadd, 1) := by decide +kernel
theorem dX6_join_10 : decode cX6_join 10 = .ok (.iaload, 1) := by decide +kernel
theorem dX6_join_11 : decode cX6_join 11 = .ok (.istore 4, 2) := by decide +kernel
theorem dX6_join_13 : decode cX6_join 13 = .ok (.aload_n 0, 1) := by decide +kernel
theorem dX6_join_14 : decode cX6_join 14 = .ok (.getfield 15, 3) := by decide +kernel
theorem dX6_join_17 : decode cX6_join 17 = .ok (.iload_n 2, 1) := by decide +kernel
theorem dX6_join_18 : decode cX6_join 18 = .ok (.bipush 6, 2) := by decide +kernel
theorem dX6_join_20 : decode cX6_join 20 = .ok (.imul, 1) := by decide +kernel
theorem dX6_join_21 : decode cX6_join 21 = .ok (.iload_n 3, 1) := by decide +kernel
theorem dX6_join_22 : decode cX6_join 22 = .ok (.iadd, 1) := by decide +kernel
theorem dX6_join_23 : decode cX6_join 23 = .ok (.iaload, 1) := by decide +kernel
theorem dX6_join_24 : decode cX6_join 24 = .ok (.istore 5, 2) := by decide +kernel
theorem dX6_join_26 : decode cX6_join 26 = .ok (.iload 4, 2) := by decide +kernel
theorem dX6_join_28 : decode cX6_join 28 = .ok (.ldc 61, 2) := by decide +kernel
theorem dX6_join_30 : decode cX6_join 30 = .ok (.if_icmp .eq 40, 3) := by decide +kernel
theorem dX6_join_33 : decode cX6_join 33 = .ok (.iload 5, 2) := by decide +kernel
theorem dX6_join_35 : decode cX6_join 35 = .ok (.ldc 61, 2) := by decide +kernel
theorem dX6_join_37 : decode cX6_join 37 = .ok (.if_icmp .eq 33, 3) := by decide +kernel
theorem dX6_join_40 : decode cX6_join 40 = .ok (.iload_n 1, 1) := by decide +kernel
theorem dX6_join_41 : decode cX6_join 41 = .ok (.bipush 6, 2) := by decide +kernel
theorem dX6_join_43 : decode cX6_join 43 = .ok (.imul, 1) := by decide +kernel
theorem dX6_join_44 : decode cX6_join 44 = .ok (.iload_n 3, 1) := by decide +kernel
theorem dX6_join_45 : decode cX6_join 45 = .ok (.iadd, 1) := by decide +kernel
theorem dX6_join_46 : decode cX6_join 46 = .ok (.istore 6, 2) := by decide +kernel
theorem dX6_join_48 : decode cX6_join 48 = .ok (.aload_n 0, 1) := by decide +kernel
theorem dX6_join_49 : decode cX6_join 49 = .ok (.getfield 15, 3) := by decide +kernel
theorem dX6_join_52 : decode cX6_join 52 = .ok (.iload 6, 2) := by decide +kernel
theorem dX6_join_54 : decode cX6_join 54 = .ok (.aload_n 0, 1) := by decide +kernel
theorem dX6_join_55 : decode cX6_join 55 = .ok (.getfield 15, 3) := by decide +kernel
theorem dX6_join_58 : decode cX6_join 58 = .ok (.iload 6, 2) := by decide +kernel
theorem dX6_join_60 : decode cX6_join 60 = .ok (.iaload, 1) := by decide +kernel
theorem dX6_join_61 : decode cX6_join 61 = .ok (.iload 4, 2) := by decide +kernel
theorem dX6_join_63 : decode cX6_join 63 = .ok (.iload 5, 2) := by decide +kernel
theorem dX6_join_65 : decode cX6_join 65 = .ok (.iadd, 1) := by decide +kernel
theorem dX6_join_66 : decode cX6_join 66 = .ok (.invokestatic 36, 3) := by decide +kernel
theorem dX6_join_69 : decode cX6_join 69 = .ok (.iastore, 1) := by decide +kernel
theorem dX6_join_70 : decode cX6_join 70 = .ok (.return_, 1) := by decide +kernel
theorem dX6_comesBack_0 : decode cX6_comesBack 0 = .ok (.aload_n 0, 1) := by decide +kernel
theorem dX6_comesBack_1 : decode cX6_comesBack 1 = .ok (.getfield 15, 3) := by decide +kernel
theorem dX6_comesBack_4 : decode cX6_comesBack 4 = .ok (.iload_n 2, 1) := by decide +kernel
theorem dX6_comesBack_5 : decode cX6_comesBack 5 = .ok (.bipush 6, 2) := by decide +kernel
theorem dX6_comesBack_7 : decode cX6_comesBack 7 = .ok (.imul, 1) := by decide +kernel
theorem dX6_comesBack_8 : decode cX6_comesBack 8 = .ok (.iload_n 1, 1) := by decide +kernel
theorem dX6_comesBack_9 : decode cX6_comesBack 9 = .ok (.iadd, 1) := by decide +kernel
theorem dX6_comesBack_10 : decode cX6_comesBack 10 = .ok (.iaload, 1) := by decide +kernel
theorem dX6_comesBack_11 : decode cX6_comesBack 11 = .ok (.ldc 61, 2) := by decide +kernel
theorem dX6_comesBack_13 : decode cX6_comesBack 13 = .ok (.if_icmp .eq 7, 3) := by decide +kernel
theorem dX6_comesBack_16 : decode cX6_comesBack 16 = .ok (.iconst 1, 1) := by decide +kernel
theorem dX6_comesBack_17 : decode cX6_comesBack 17 = .ok (.goto 4, 3) := by decide +kernel
theorem dX6_comesBack_20 : decode cX6_comesBack 20 = .ok (.iconst 0, 1) := by decide +kernel
theorem dX6_comesBack_21 : decode cX6_comesBack 21 = .ok (.ireturn, 1) := by decide +kernel
theorem dX6_isCritical_0 : decode cX6_isCritical 0 = .ok (.aload_n 1, 1) := by decide +kernel
theorem dX6_isCritical_1 : decode cX6_isCritical 1 = .ok (.iload_n 2, 1) := by decide +kernel
theorem dX6_isCritical_2 : decode cX6_isCritical 2 = .ok (.iload_n 3, 1) := by decide +kernel
theorem dX6_isCritical_3 : decode cX6_isCritical 3 = .ok (.invokevirtual 41, 3) := by decide +kernel
theorem dX6_isCritical_6 : decode cX6_isCritical 6 = .ok (.bipush (-9), 2) := by decide +kernel
theorem dX6_isCritical_8 : decode cX6_isCritical 8 = .ok (.if_icmp .eq 12, 3) := by decide +kernel
theorem dX6_isCritical_11 : decode cX6_isCritical 11 = .ok (.aload_n 0, 1) := by decide +kernel
theorem dX6_isCritical_12 : decode cX6_isCritical 12 = .ok (.iload_n 2, 1) := by decide +kernel
theorem dX6_isCritical_13 : decode cX6_isCritical 13 = .ok (.iload_n 3, 1) := by decide +kernel
theorem dX6_isCritical_14 : decode cX6_isCritical 14 = .ok (.invokevirtual 62, 3) := by decide +kernel
theorem dX6_isCritical_17 : decode cX6_isCritical 17 = .ok (.ifCond .ne 5, 3) := by decide +kernel
theorem dX6_isCritical_20 : decode cX6_isCritical 20 = .ok (.iconst 0, 1) := by decide +kernel
theorem dX6_isCritical_21 : decode cX6_isCritical 21 = .ok (.ireturn, 1) := by decide +kernel
theorem dX6_isCritical_22 : decode cX6_isCritical 22 = .ok (.aload_n 0, 1) := by decide +kernel
theorem dX6_isCritical_23 : decode cX6_isCritical 23 = .ok (.aload_n 1, 1) := by decide +kernel
theorem dX6_isCritical_24 : decode cX6_isCritical 24 = .ok (.iload_n 2, 1) := by decide +kernel
theorem dX6_isCritical_25 : decode cX6_isCritical 25 = .ok (.iload_n 3, 1) := by decide +kernel
theorem dX6_isCritical_26 : decode cX6_isCritical 26 = .ok (.invokevirtual 54, 3) := by decide +kernel
theorem dX6_isCritical_29 : decode cX6_isCritical 29 = .ok (.aload_n 0, 1) := by decide +kernel
theorem dX6_isCritical_30 : decode cX6_isCritical 30 = .ok (.getfield 15, 3) := by decide +kernel
theorem dX6_isCritical_33 : decode cX6_isCritical 33 = .ok (.iload_n 3, 1) := by decide +kernel
theorem dX6_isCritical_34 : decode cX6_isCritical 34 = .ok (.bipush 6, 2) := by decide +kernel
theorem dX6_isCritical_36 : decode cX6_isCritical 36 = .ok (.imul, 1) := by decide +kernel
theorem dX6_isCritical_37 : decode cX6_isCritical 37 = .ok (.iload_n 2, 1) := by decide +kernel
theorem dX6_isCritical_38 : decode cX6_isCritical 38 = .ok (.iadd, 1) := by decide +kernel
theorem dX6_isCritical_39 : decode cX6_isCritical 39 = .ok (.iaload, 1) := by decide +kernel
theorem dX6_isCritical_40 : decode cX6_isCritical 40 = .ok (.iadd, 1) := by decide +kernel
theorem dX6_isCritical_41 : decode cX6_isCritical 41 = .ok (.ifCond .ne 7, 3) := by decide +kernel
theorem dX6_isCritical_44 : decode cX6_isCritical 44 = .ok (.iconst 1, 1) := by decide +kernel
theorem dX6_isCritical_45 : decode cX6_isCritical 45 = .ok (.goto 4, 3) := by decide +kernel
theorem dX6_isCritical_48 : decode cX6_isCritical 48 = .ok (.iconst 0, 1) := by decide +kernel
theorem dX6_isCritical_49 : decode cX6_isCritical 49 = .ok (.ireturn, 1) := by decide +kernel
theorem dX7_init_0 : decode cX7_init 0 = .ok (.aload_n 0, 1) := by decide +kernel
theorem dX7_init_1 : decode cX7_init 1 = .ok (.invokespecial 1, 3) := by decide +kernel
theorem dX7_init_4 : decode cX7_init 4 = .ok (.aload_n 0, 1) := by decide +kernel
theorem dX7_init_5 : decode cX7_init 5 = .ok (.bipush 64, 2) := by decide +kernel
theorem dX7_init_7 : decode cX7_init 7 = .ok (.newarray .int, 2) := by decide +kernel
theorem dX7_init_9 : decode cX7_init 9 = .ok (.putfield 9, 3) := by decide +kernel
theorem dX7_init_12 : decode cX7_init 12 = .ok (.aload_n 0, 1) := by decide +kernel
theorem dX7_init_13 : decode cX7_init 13 = .ok (.new 13, 3) := by decide +kernel
theorem dX7_init_16 : decode cX7_init 16 = .ok (.dup, 1) := by decide +kernel
theorem dX7_init_17 : decode cX7_init 17 = .ok (.invokespecial 15, 3) := by decide +kernel
theorem dX7_init_20 : decode cX7_init 20 = .ok (.putfield 16, 3) := by decide +kernel
theorem dX7_init_23 : decode cX7_init 23 = .ok (.aload_n 0, 1) := by decide +kernel
theorem dX7_init_24 : decode cX7_init 24 = .ok (.new 13, 3) := by decide +kernel
theorem dX7_init_27 : decode cX7_init 27 = .ok (.dup, 1) := by decide +kernel
theorem dX7_init_28 : decode cX7_init 28 = .ok (.invokespecial 15, 3) := by decide +kernel
theorem dX7_init_31 : decode cX7_init 31 = .ok (.putfield 20, 3) := by decide +kernel
theorem dX7_init_34 : decode cX7_init 34 = .ok (.aload_n 0, 1) := by decide +kernel
theorem dX7_init_35 : decode cX7_init 35 = .ok (.iconst 2, 1) := by decide +kernel
theorem dX7_init_36 : decode cX7_init 36 = .ok (.anewarray 13, 3) := by decide +kernel
theorem dX7_init_39 : decode cX7_init 39 = .ok (.dup, 1) := by decide +kernel
theorem dX7_init_40 : decode cX7_init 40 = .ok (.iconst 0, 1) := by decide +kernel
theorem dX7_init_41 : decode cX7_init 41 = .ok (.new 13, 3) := by decide +kernel
theorem dX7_init_44 : decode cX7_init 44 = .ok (.dup, 1) := by decide +kernel
theorem dX7_init_45 : decode cX7_init 45 = .ok (.invokespecial 15, 3) := by decide +kernel
theorem dX7_init_48 : decode cX7_init 48 = .ok (.aastore, 1) := by decide +kernel
theorem dX7_init_49 : decode cX7_init 49 = .ok (.dup, 1) := by decide +kernel
theorem dX7_init_50 : decode cX7_init 50 = .ok (.iconst 1, 1) := by decide +kernel
theorem dX7_init_51 : decode cX7_init 51 = .ok (.new 13, 3) := by decide +kernel
theorem dX7_init_54 : decode cX7_init 54 = .ok (.dup, 1) := by decide +kernel
theorem dX7_init_55 : decode cX7_init 55 = .ok (.invokespecial 15, 3) := by decide +kernel
theorem dX7_init_58 : decode cX7_init 58 = .ok (.aastore, 1) := by decide +kernel
theorem dX7_init_59 : decode cX7_init 59 = .ok (.putfield 23, 3) := by decide +kernel
theorem dX7_init_62 : decode cX7_init 62 = .ok (.aload_n 0, 1) := by decide +kernel
theorem dX7_init_63 : decode cX7_init 63 = .ok (.iconst 2, 1) := by decide +kernel
theorem dX7_init_64 : decode cX7_init 64 = .ok (.newarray .boolean, 2) := by decide +kernel
theorem dX7_init_66 : decode cX7_init 66 = .ok (.putfield 27, 3) := by decide +kernel
theorem dX7_init_69 : decode cX7_init 69 = .ok (.aload_n 0, 1) := by decide +kernel
theorem dX7_init_70 : decode cX7_init 70 = .ok (.new 31, 3) := by decide +kernel
theorem dX7_init_73 : decode cX7_init 73 = .ok (.dup, 1) := by decide +kernel
theorem dX7_init_74 : decode cX7_init 74 = .ok (.invokespecial 33, 3) := by decide +kernel
theorem dX7_init_77 : decode cX7_init 77 = .ok (.putfield 34, 3) := by decide +kernel
theorem dX7_init_80 : decode cX7_init 80 = .ok (.aload_n 0, 1) := by decide +kernel
theorem dX7_init_81 : decode cX7_init 81 = .ok (.new 38, 3) := by decide +kernel
theorem dX7_init_84 : decode cX7_init 84 = .ok (.dup, 1) := by decide +kernel
theorem dX7_init_85 : decode cX7_init 85 = .ok (.invokespecial 40, 3) := by decide +kernel
theorem dX7_init_88 : decode cX7_init 88 = .ok (.putfield 41, 3) := by decide +kernel
theorem dX7_init_91 : decode cX7_init 91 = .ok (.aload_n 0, 1) := by decide +kernel
theorem dX7_init_92 : decode cX7_init 92 = .ok (.new 45, 3) := by decide +kernel
theorem dX7_init_95 : decode cX7_init 95 = .ok (.dup, 1) := by decide +kernel
theorem dX7_init_96 : decode cX7_init 96 = .ok (.invokespecial 47, 3) := by decide +kernel
theorem dX7_init_99 : decode cX7_init 99 = .ok (.putfield 48, 3) := by decide +kernel
theorem dX7_init_102 : decode cX7_init 102 = .ok (.aload_n 0, 1) := by decide +kernel
theorem dX7_init_103 : decode cX7_init 103 = .ok (.new 52, 3) := by decide +kernel
theorem dX7_init_106 : decode cX7_init 106 = .ok (.dup, 1) := by decide +kernel
theorem dX7_init_107 : decode cX7_init 107 = .ok (.invokespecial 54, 3) := by decide +kernel
theorem dX7_init_110 : decode cX7_init 110 = .ok (.putfield 55, 3) := by decide +kernel
theorem dX7_init_113 : decode cX7_init 113 = .ok (.aload_n 0, 1) := by decide +kernel
theorem dX7_init_114 : decode cX7_init 114 = .ok (.new 59, 3) := by decide +kernel
theorem dX7_init_117 : decode cX7_init 117 = .ok (.dup, 1) := by decide +kernel
theorem dX7_init_118 : decode cX7_init 118 = .ok (.invokespecial 61, 3) := by decide +kernel
theorem dX7_init_121 : decode cX7_init 121 = .ok (.putfield 62, 3) := by decide +kernel
theorem dX7_init_124 : decode cX7_init 124 = .ok (.aload_n 0, 1) := by decide +kernel
theorem dX7_init_125 : decode cX7_init 125 = .ok (.new 66, 3) := by decide +kernel
theorem dX7_init_128 : decode cX7_init 128 = .ok (.dup, 1) := by decide +kernel
theorem dX7_init_129 : decode cX7_init 129 = .ok (.invokespecial 68, 3) := by decide +kernel
theorem dX7_init_132 : decode cX7_init 132 = .ok (.putfield 69, 3) := by decide +kernel
theorem dX7_init_135 : decode cX7_init 135 = .ok (.return_, 1) := by decide +kernel
theorem dX7_write_0 : decode cX7_write 0 = .ok (.iload_n 1, 1) := by decide +kernel
theorem dX7_write_1 : decode cX7_write 1 = .ok (.ifCond .lt 10, 3) := by decide +kernel
theorem dX7_write_4 : decode cX7_write 4 = .ok (.iload_n 1, 1) := by decide +kernel
theorem dX7_write_5 : decode cX7_write 5 = .ok (.sipush 255, 3) := by decide +kernel
theorem dX7_write_8 : decode cX7_write 8 = .ok (.if_icmp .le 6, 3) := by decide +kernel
theorem dX7_write_11 : decode cX7_write 11 = .ok (.bipush (-2), 2) := by decide +kernel
theorem dX7_write_13 : decode cX7_write 13 = .ok (.ireturn, 1) := by decide +kernel
theorem dX7_write_14 : decode cX7_write 14 = .ok (.aload_n 0, 1) := by decide +kernel
theorem dX7_write_15 : decode cX7_write 15 = .ok (.getfield 73, 3) := by decide +kernel
theorem dX7_write_18 : decode cX7_write 18 = .ok (.ifCond .lt 12, 3) := by decide +kernel
theorem dX7_write_21 : decode cX7_write 21 = .ok (.aload_n 0, 1) := by decide +kernel
theorem dX7_write_22 : decode cX7_write 22 = .ok (.getfield 73, 3) := by decide +kernel
theorem dX7_write_25 : decode cX7_write 25 = .ok (.bipush 64, 2) := by decide +kernel
theorem dX7_write_27 : decode cX7_write 27 = .ok (.if_icmp .lt 6, 3) := by decide +kernel
theorem dX7_write_30 : decode cX7_write 30 = .ok (.bipush (-4), 2) := by decide +kernel
theorem dX7_write_32 : decode cX7_write 32 = .ok (.ireturn, 1) := by decide +kernel
theorem dX7_write_33 : decode cX7_write 33 = .ok (.aload_n 0, 1) := by decide +kernel
theorem dX7_write_34 : decode cX7_write 34 = .ok (.getfield 9, 3) := by decide +kernel
theorem dX7_write_37 : decode cX7_write 37 = .ok (.aload_n 0, 1) := by decide +kernel
theorem dX7_write_38 : decode cX7_write 38 = .ok (.getfield 73, 3) := by decide +kernel
theorem dX7_write_41 : decode cX7_write 41 = .ok (.iload_n 1, 1) := by decide +kernel
theorem dX7_write_42 : decode cX7_write 42 = .ok (.iastore, 1) := by decide +kernel
theorem dX7_write_43 : decode cX7_write 43 = .ok (.aload_n 0, 1) := by decide +kernel
theorem dX7_write_44 : decode cX7_write 44 = .ok (.dup, 1) := by decide +kernel
theorem dX7_write_45 : decode cX7_write 45 = .ok (.getfield 73, 3) := by decide +kernel
theorem dX7_write_48 : decode cX7_write 48 = .ok (.iconst 1, 1) := by decide +kernel
theorem dX7_write_49 : decode cX7_write 49 = .ok (.iadd, 1) := by decide +kernel
theorem dX7_write_50 : decode cX7_write 50 = .ok (.putfield 73, 3) := by decide +kernel
theorem dX7_write_53 : decode cX7_write 53 = .ok (.aload_n 0, 1) := by decide +kernel
theorem dX7_write_54 : decode cX7_write 54 = .ok (.getfield 73, 3) := by decide +kernel
theorem dX7_write_57 : decode cX7_write 57 = .ok (.ireturn, 1) := by decide +kernel
theorem dX7_wipe_0 : decode cX7_wipe 0 = .ok (.aload_n 0, 1) := by decide +kernel
theorem dX7_wipe_1 : decode cX7_wipe 1 = .ok (.getfield 73, 3) := by decide +kernel
theorem dX7_wipe_4 : decode cX7_wipe 4 = .ok (.istore_n 1, 1) := by decide +kernel
theorem dX7_wipe_5 : decode cX7_wipe 5 = .ok (.aload_n 0, 1) := by decide +kernel
theorem dX7_wipe_6 : decode cX7_wipe 6 = .ok (.iconst 0, 1) := by decide +kernel
theorem dX7_wipe_7 : decode cX7_wipe 7 = .ok (.putfield 73, 3) := by decide +kernel
theorem dX7_wipe_10 : decode cX7_wipe 10 = .ok (.iload_n 1, 1) := by decide +kernel
theorem dX7_wipe_11 : decode cX7_wipe 11 = .ok (.ireturn, 1) := by decide +kernel
theorem dX7_fault_0 : decode cX7_fault 0 = .ok (.aload_n 0, 1) := by decide +kernel
theorem dX7_fault_1 : decode cX7_fault 1 = .ok (.getfield 34, 3) := by decide +kernel
theorem dX7_fault_4 : decode cX7_fault 4 = .ok (.aload_n 0, 1) := by decide +kernel
theorem dX7_fault_5 : decode cX7_fault 5 = .ok (.getfield 9, 3) := by decide +kernel
theorem dX7_fault_8 : decode cX7_fault 8 = .ok (.aload_n 0, 1) := by decide +kernel
theorem dX7_fault_9 : decode cX7_fault 9 = .ok (.getfield 73, 3) := by decide +kernel
theorem dX7_fault_12 : decode cX7_fault 12 = .ok (.aload_n 0, 1) := by decide +kernel
theorem dX7_fault_13 : decode cX7_fault 13 = .ok (.getfield 20, 3) := by decide +kernel
theorem dX7_fault_16 : decode cX7_fault 16 = .ok (.invokevirtual 77, 3) := by decide +kernel
theorem dX7_fault_19 : decode cX7_fault 19 = .ok (.ireturn, 1) := by decide +kernel
theorem dX7_net_0 : decode cX7_net 0 = .ok (.aload_n 0, 1) := by decide +kernel
theorem dX7_net_1 : decode cX7_net 1 = .ok (.getfield 34, 3) := by decide +kernel
theorem dX7_net_4 : decode cX7_net 4 = .ok (.aload_n 0, 1) := by decide +kernel
theorem dX7_net_5 : decode cX7_net 5 = .ok (.getfield 9, 3) := by decide +kernel
theorem dX7_net_8 : decode cX7_net 8 = .ok (.aload_n 0, 1) := by decide +kernel
theorem dX7_net_9 : decode cX7_net 9 = .ok (.getfield 73, 3) := by decide +kernel
theorem dX7_net_12 : decode cX7_net 12 = .ok (.aload_n 0, 1) := by decide +kernel
theorem dX7_net_13 : decode cX7_net 13 = .ok (.getfield 20, 3) := by decide +kernel
theorem dX7_net_16 : decode cX7_net 16 = .ok (.invokevirtual 77, 3) := by decide +kernel
theorem dX7_net_19 : decode cX7_net 19 = .ok (.bipush (-9), 2) := by decide +kernel
theorem dX7_net_21 : decode cX7_net 21 = .ok (.if_icmp .eq 6, 3) := by decide +kernel
theorem dX7_net_24 : decode cX7_net 24 = .ok (.bipush (-3), 2) := by decide +kernel
theorem dX7_net_26 : decode cX7_net 26 = .ok (.ireturn, 1) := by decide +kernel
theorem dX7_net_27 : decode cX7_net 27 = .ok (.aload_n 0, 1) := by decide +kernel
theorem dX7_net_28 : decode cX7_net 28 = .ok (.getfield 16, 3) := by decide +kernel
theorem dX7_net_31 : decode cX7_net 31 = .ok (.aload_n 0, 1) := by decide +kernel
theorem dX7_net_32 : decode cX7_net 32 = .ok (.getfield 20, 3) := by decide +kernel
theorem dX7_net_35 : decode cX7_net 35 = .ok (.invokevirtual 81, 3) := by decide +kernel
theorem dX7_net_38 : decode cX7_net 38 = .ok (.aload_n 0, 1) := by decide +kernel
theorem dX7_net_39 : decode cX7_net 39 = .ok (.getfield 41, 3) := by decide +kernel
theorem dX7_net_42 : decode cX7_net 42 = .ok (.invokevirtual 85, 3) := by decide +kernel
theorem dX7_net_45 : decode cX7_net 45 = .ok (.iconst 0, 1) := by decide +kernel
theorem dX7_net_46 : decode cX7_net 46 = .ok (.istore_n 1, 1) := by decide +kernel
theorem dX7_net_47 : decode cX7_net 47 = .ok (.iload_n 1, 1) := by decide +kernel
theorem dX7_net_48 : decode cX7_net 48 = .ok (.iconst 2, 1) := by decide +kernel
theorem dX7_net_49 : decode cX7_net 49 = .ok (.if_icmp .ge 16, 3) := by decide +kernel
theorem dX7_net_52 : decode cX7_net 52 = .ok (.aload_n 0, 1) := by decide +kernel
theorem dX7_net_53 : decode cX7_net 53 = .ok (.getfield 27, 3) := by decide +kernel
theorem dX7_net_56 : decode cX7_net 56 = .ok (.iload_n 1, 1) := by decide +kernel
theorem dX7_net_57 : decode cX7_net 57 = .ok (.iconst 0, 1) := by decide +kernel
theorem dX7_net_58 : decode cX7_net 58 = .ok (.bastore, 1) := by decide +kernel
theorem dX7_net_59 : decode cX7_net 59 = .ok (.iinc 1 1, 3) := by decide +kernel
theorem dX7_net_62 : decode cX7_net 62 = .ok (.goto (-15), 3) := by decide +kernel
theorem dX7_net_65 : decode cX7_net 65 = .ok (.aload_n 0, 1) := by decide +kernel
theorem dX7_net_66 : decode cX7_net 66 = .ok (.getfield 16, 3) := by decide +kernel
theorem dX7_net_69 : decode cX7_net 69 = .ok (.invokevirtual 88, 3) := by decide +kernel
theorem dX7_net_72 : decode cX7_net 72 = .ok (.ireturn, 1) := by decide +kernel
theorem dX7_about_0 : decode cX7_about 0 = .ok (.iload_n 1, 1) := by decide +kernel
theorem dX7_about_1 : decode cX7_about 1 = .ok (.tableswitch 122 0 9 #[55, 63, 71, 90, 90, 90, 96, 101, 109, 117], 55) := by decide +kernel
theorem dX7_about_56 : decode cX7_about 56 = .ok (.aload_n 0, 1) := by decide +kernel
theorem dX7_about_57 : decode cX7_about 57 = .ok (.getfield 16, 3) := by decide +kernel
theorem dX7_about_60 : decode cX7_about 60 = .ok (.getfield 92, 3) := by decide +kernel
theorem dX7_about_63 : decode cX7_about 63 = .ok (.ireturn, 1) := by decide +kernel
theorem dX7_about_64 : decode cX7_about 64 = .ok (.aload_n 0, 1) := by decide +kernel
theorem dX7_about_65 : decode cX7_about 65 = .ok (.getfield 16, 3) := by decide +kernel
theorem dX7_about_68 : decode cX7_about 68 = .ok (.invokevirtual 88, 3) := by decide +kernel
theorem dX7_about_71 : decode cX7_about 71 = .ok (.ireturn, 1) := by decide +kernel
theorem dX7_about_72 : decode cX7_about 72 = .ok (.aload_n 0, 1) := by decide +kernel
theorem dX7_about_73 : decode cX7_about 73 = .ok (.getfield 69, 3) := by decide +kernel
theorem dX7_about_76 : decode cX7_about 76 = .ok (.aload_n 0, 1) := by decide +kernel
theorem dX7_about_77 : decode cX7_about 77 = .ok (.getfield 16, 3) := by decide +kernel
theorem dX7_about_80 : decode cX7_about 80 = .ok (.invokevirtual 95, 3) := by decide +kernel
theorem dX7_about_83 : decode cX7_about 83 = .ok (.aload_n 0, 1) := by decide +kernel
theorem dX7_about_84 : decode cX7_about 84 = .ok (.getfield 69, 3) := by decide +kernel
theorem dX7_about_87 : decode cX7_about 87 = .ok (.getfield 98, 3) := by decide +kernel
theorem dX7_about_90 : decode cX7_about 90 = .ok (.ireturn, 1) := by decide +kernel
theorem dX7_about_91 : decode cX7_about 91 = .ok (.aload_n 0, 1) := by decide +kernel
theorem dX7_about_92 : decode cX7_about 92 = .ok (.iload_n 1, 1) := by decide +kernel
theorem dX7_about_93 : decode cX7_about 93 = .ok (.invokevirtual 101, 3) := by decide +kernel
theorem dX7_about_96 : decode cX7_about 96 = .ok (.ireturn, 1) := by decide +kernel
theorem dX7_about_97 : decode cX7_about 97 = .ok (.aload_n 0, 1) := by decide +kernel
theorem dX7_about_98 : decode cX7_about 98 = .ok (.invokevirtual 105, 3) := by decide +kernel
theorem dX7_about_101 : decode cX7_about 101 = .ok (.ireturn, 1) := by decide +kernel
theorem dX7_about_102 : decode cX7_about 102 = .ok (.aload_n 0, 1) := by decide +kernel
theorem dX7_about_103 : decode cX7_about 103 = .ok (.getfield 41, 3) := by decide +kernel
theorem dX7_about_106 : decode cX7_about 106 = .ok (.getfield 108, 3) := by decide +kernel
theorem dX7_about_109 : decode cX7_about 109 = .ok (.ireturn, 1) := by decide +kernel
theorem dX7_about_110 : decode cX7_about 110 = .ok (.aload_n 0, 1) := by decide +kernel
theorem dX7_about_111 : decode cX7_about 111 = .ok (.getfield 48, 3) := by decide +kernel
theorem dX7_about_114 : decode cX7_about 114 = .ok (.getfield 111, 3) := by decide +kernel
theorem dX7_about_117 : decode cX7_about 117 = .ok (.ireturn, 1) := by decide +kernel
theorem dX7_about_118 : decode cX7_about 118 = .ok (.aload_n 0, 1) := by decide +kernel
theorem dX7_about_119 : decode cX7_about 119 = .ok (.getfield 73, 3) := by decide +kernel
theorem dX7_about_122 : decode cX7_about 122 = .ok (.ireturn, 1) := by decide +kernel
theorem dX7_about_123 : decode cX7_about 123 = .ok (.bipush (-2), 2) := by decide +kernel
theorem dX7_about_125 : decode cX7_about 125 = .ok (.ireturn, 1) := by decide +kernel
theorem dX7_minutes_0 : decode cX7_minutes 0 = .ok (.aload_n 0, 1) := by decide +kernel
theorem dX7_minutes_1 : decode cX7_minutes 1 = .ok (.getfield 16, 3) := by decide +kernel
theorem dX7_minutes_4 : decode cX7_minutes 4 = .ok (.iload_n 1, 1) := by decide +kernel
theorem dX7_minutes_5 : decode cX7_minutes 5 = .ok (.invokevirtual 112, 3) := by decide +kernel
theorem dX7_minutes_8 : decode cX7_minutes 8 = .ok (.ifCond .eq 14, 3) := by decide +kernel
theorem dX7_minutes_11 : decode cX7_minutes 11 = .ok (.aload_n 0, 1) := by decide +kernel
theorem dX7_minutes_12 : decode cX7_minutes 12 = .ok (.getfield 16, 3) := by decide +kernel
theorem dX7_minutes_15 : decode cX7_minutes 15 = .ok (.iload_n 2, 1) := by decide +kernel
theorem dX7_minutes_16 : decode cX7_minutes 16 = .ok (.invokevirtual 112, 3) := by decide +kernel
theorem dX7_minutes_19 : decode cX7_minutes 19 = .ok (.ifCond .ne 5, 3) := by decide +kernel
theorem dX7_minutes_22 : decode cX7_minutes 22 = .ok (.iconst (-1), 1) := by decide +kernel
theorem dX7_minutes_23 : decode cX7_minutes 23 = .ok (.ireturn, 1) := by decide +kernel
theorem dX7_minutes_24 : decode cX7_minutes 24 = .ok (.aload_n 0, 1) := by decide +kernel
theorem dX7_minutes_25 : decode cX7_minutes 25 = .ok (.getfield 16, 3) := by decide +kernel
theorem dX7_minutes_28 : decode cX7_minutes 28 = .ok (.iload_n 1, 1) := by decide +kernel
theorem dX7_minutes_29 : decode cX7_minutes 29 = .ok (.iload_n 2, 1) := by decide +kernel
theorem dX7_minutes_30 : decode cX7_minutes 30 = .ok (.invokevirtual 116, 3) := by decide +kernel
theorem dX7_minutes_33 : decode cX7_minutes 33 = .ok (.ireturn, 1) := by decide +kernel
theorem dX7_put_0 : decode cX7_put 0 = .ok (.aload_n 0, 1) := by decide +kernel
theorem dX7_put_1 : decode cX7_put 1 = .ok (.getfield 16, 3) := by decide +kernel
theorem dX7_put_4 : decode cX7_put 4 = .ok (.iload_n 1, 1) := by decide +kernel
theorem dX7_put_5 : decode cX7_put 5 = .ok (.invokevirtual 112, 3) := by decide +kernel
theorem dX7_put_8 : decode cX7_put 8 = .ok (.ifCond .eq 14, 3) := by decide +kernel
theorem dX7_put_11 : decode cX7_put 11 = .ok (.aload_n 0, 1) := by decide +kernel
theorem dX7_put_12 : decode cX7_put 12 = .ok (.getfield 16, 3) := by decide +kernel
theorem dX7_put_15 : decode cX7_put 15 = .ok (.iload_n 2, 1) := by decide +kernel
theorem dX7_put_16 : decode cX7_put 16 = .ok (.invokevirtual 112, 3) := by decide +kernel
theorem dX7_put_19 : decode cX7_put 19 = .ok (.ifCond .ne 5, 3) := by decide +kernel
theorem dX7_put_22 : decode cX7_put 22 = .ok (.iconst (-1), 1) := by decide +kernel
theorem dX7_put_23 : decode cX7_put 23 = .ok (.ireturn, 1) := by decide +kernel
theorem dX7_put_24 : decode cX7_put 24 = .ok (.iload_n 3, 1) := by decide +kernel
theorem dX7_put_25 : decode cX7_put 25 = .ok (.ifCond .lt 9, 3) := by decide +kernel
theorem dX7_put_28 : decode cX7_put 28 = .ok (.iload_n 3, 1) := by decide +kernel
theorem dX7_put_29 : decode cX7_put 29 = .ok (.bipush 9, 2) := by decide +kernel
theorem dX7_put_31 : decode cX7_put 31 = .ok (.if_icmp .le 6, 3) := by decide +kernel
theorem dX7_put_34 : decode cX7_put 34 = .ok (.bipush (-2), 2) := by decide +kernel
theorem dX7_put_36 : decode cX7_put 36 = .ok (.ireturn, 1) := by decide +kernel
theorem dX7_put_37 : decode cX7_put 37 = .ok (.aload_n 0, 1) := by decide +kernel
theorem dX7_put_38 : decode cX7_put 38 = .ok (.getfield 16, 3) := by decide +kernel
theorem dX7_put_41 : decode cX7_put 41 = .ok (.iload_n 1, 1) := by decide +kernel
theorem dX7_put_42 : decode cX7_put 42 = .ok (.iload_n 2, 1) := by decide +kernel
theorem dX7_put_43 : decode cX7_put 43 = .ok (.invokevirtual 116, 3) := by decide +kernel
theorem dX7_put_46 : decode cX7_put 46 = .ok (.bipush (-9), 2) := by decide +kernel
theorem dX7_put_48 : decode cX7_put 48 = .ok (.if_icmp .eq 6, 3) := by decide +kernel
theorem dX7_put_51 : decode cX7_put 51 = .ok (.bipush (-3), 2) := by decide +kernel
theorem dX7_put_53 : decode cX7_put 53 = .ok (.ireturn, 1) := by decide +kernel
theorem dX7_put_54 : decode cX7_put 54 = .ok (.aload_n 0, 1) := by decide +kernel
theorem dX7_put_55 : decode cX7_put 55 = .ok (.iload_n 1, 1) := by decide +kernel
theorem dX7_put_56 : decode cX7_put 56 = .ok (.iload_n 2, 1) := by decide +kernel
theorem dX7_put_57 : decode cX7_put 57 = .ok (.iload_n 3, 1) := by decide +kernel
theorem dX7_put_58 : decode cX7_put 58 = .ok (.invokevirtual 120, 3) := by decide +kernel
theorem dX7_put_61 : decode cX7_put 61 = .ok (.pop, 1) := by decide +kernel
theorem dX7_put_62 : decode cX7_put 62 = .ok (.aload_n 0, 1) := by decide +kernel
theorem dX7_put_63 : decode cX7_put 63 = .ok (.getfield 16, 3) := by decide +kernel
theorem dX7_put_66 : decode cX7_put 66 = .ok (.invokevirtual 88, 3) := by decide +kernel
theorem dX7_put_69 : decode cX7_put 69 = .ok (.ireturn, 1) := by decide +kernel
theorem dX7_cut_0 : decode cX7_cut 0 = .ok (.aload_n 0, 1) := by decide +kernel
theorem dX7_cut_1 : decode cX7_cut 1 = .ok (.getfield 16, 3) := by decide +kernel
theorem dX7_cut_4 : decode cX7_cut 4 = .ok (.iload_n 1, 1) := by decide +kernel
theorem dX7_cut_5 : decode cX7_cut 5 = .ok (.invokevirtual 112, 3) := by decide +kernel
theorem dX7_cut_8 : decode cX7_cut 8 = .ok (.ifCond .eq 14, 3) := by decide +kernel
theorem dX7_cut_11 : decode cX7_cut 11 = .ok (.aload_n 0, 1) := by decide +kernel
theorem dX7_cut_12 : decode cX7_cut 12 = .ok (.getfield 16, 3) := by decide +kernel
theorem dX7_cut_15 : decode cX7_cut 15 = .ok (.iload_n 2, 1) := by decide +kernel
theorem dX7_cut_16 : decode cX7_cut 16 = .ok (.invokevirtual 112, 3) := by decide +kernel
theorem dX7_cut_19 : decode cX7_cut 19 = .ok (.ifCond .ne 5, 3) := by decide +kernel
theorem dX7_cut_22 : decode cX7_cut 22 = .ok (.iconst (-1), 1) := by decide +kernel
theorem dX7_cut_23 : decode cX7_cut 23 = .ok (.ireturn, 1) := by decide +kernel
theorem dX7_cut_24 : decode cX7_cut 24 = .ok (.aload_n 0, 1) := by decide +kernel
theorem dX7_cut_25 : decode cX7_cut 25 = .ok (.getfield 16, 3) := by decide +kernel
theorem dX7_cut_28 : decode cX7_cut 28 = .ok (.iload_n 1, 1) := by decide +kernel
theorem dX7_cut_29 : decode cX7_cut 29 = .ok (.iload_n 2, 1) := by decide +kernel
theorem dX7_cut_30 : decode cX7_cut 30 = .ok (.invokevirtual 116, 3) := by decide +kernel
theorem dX7_cut_33 : decode cX7_cut 33 = .ok (.bipush (-9), 2) := by decide +kernel
theorem dX7_cut_35 : decode cX7_cut 35 = .ok (.if_icmp .ne 6, 3) := by decide +kernel
theorem dX7_cut_38 : decode cX7_cut 38 = .ok (.bipush (-3), 2) := by decide +kernel
theorem dX7_cut_40 : decode cX7_cut 40 = .ok (.ireturn, 1) := by decide +kernel
theorem dX7_cut_41 : decode cX7_cut 41 = .ok (.aload_n 0, 1) := by decide +kernel
theorem dX7_cut_42 : decode cX7_cut 42 = .ok (.iload_n 1, 1) := by decide +kernel
theorem dX7_cut_43 : decode cX7_cut 43 = .ok (.iload_n 2, 1) := by decide +kernel
theorem dX7_cut_44 : decode cX7_cut 44 = .ok (.bipush (-9), 2) := by decide +kernel
theorem dX7_cut_46 : decode cX7_cut 46 = .ok (.invokevirtual 120, 3) := by decide +kernel
theorem dX7_cut_49 : decode cX7_cut 49 = .ok (.ireturn, 1) := by decide +kernel
theorem dX7_time_0 : decode cX7_time 0 = .ok (.aload_n 0, 1) := by decide +kernel
theorem dX7_time_1 : decode cX7_time 1 = .ok (.getfield 16, 3) := by decide +kernel
theorem dX7_time_4 : decode cX7_time 4 = .ok (.iload_n 1, 1) := by decide +kernel
theorem dX7_time_5 : decode cX7_time 5 = .ok (.invokevirtual 112, 3) := by decide +kernel
theorem dX7_time_8 : decode cX7_time 8 = .ok (.ifCond .eq 14, 3) := by decide +kernel
theorem dX7_time_11 : decode cX7_time 11 = .ok (.aload_n 0, 1) := by decide +kernel
theorem dX7_time_12 : decode cX7_time 12 = .ok (.getfield 16, 3) := by decide +kernel
theorem dX7_time_15 : decode cX7_time 15 = .ok (.iload_n 2, 1) := by decide +kernel
theorem dX7_time_16 : decode cX7_time 16 = .ok (.invokevirtual 112, 3) := by decide +kernel
theorem dX7_time_19 : decode cX7_time 19 = .ok (.ifCond .ne 5, 3) := by decide +kernel
theorem dX7_time_22 : decode cX7_time 22 = .ok (.iconst (-1), 1) := by decide +kernel
theorem dX7_time_23 : decode cX7_time 23 = .ok (.ireturn, 1) := by decide +kernel
theorem dX7_time_24 : decode cX7_time 24 = .ok (.iload_n 3, 1) := by decide +kernel
theorem dX7_time_25 : decode cX7_time 25 = .ok (.ifCond .lt 9, 3) := by decide +kernel
theorem dX7_time_28 : decode cX7_time 28 = .ok (.iload_n 3, 1) := by decide +kernel
theorem dX7_time_29 : decode cX7_time 29 = .ok (.bipush 9, 2) := by decide +kernel
theorem dX7_time_31 : decode cX7_time 31 = .ok (.if_icmp .le 6, 3) := by decide +kernel
theorem dX7_time_34 : decode cX7_time 34 = .ok (.bipush (-2), 2) := by decide +kernel
theorem dX7_time_36 : decode cX7_time 36 = .ok (.ireturn, 1) := by decide +kernel
theorem dX7_time_37 : decode cX7_time 37 = .ok (.aload_n 0, 1) := by decide +kernel
theorem dX7_time_38 : decode cX7_time 38 = .ok (.getfield 16, 3) := by decide +kernel
theorem dX7_time_41 : decode cX7_time 41 = .ok (.iload_n 1, 1) := by decide +kernel
theorem dX7_time_42 : decode cX7_time 42 = .ok (.iload_n 2, 1) := by decide +kernel
theorem dX7_time_43 : decode cX7_time 43 = .ok (.invokevirtual 116, 3) := by decide +kernel
theorem dX7_time_46 : decode cX7_time 46 = .ok (.bipush (-9), 2) := by decide +kernel
theorem dX7_time_48 : decode cX7_time 48 = .ok (.if_icmp .ne 6, 3) := by decide +kernel
theorem dX7_time_51 : decode cX7_time 51 = .ok (.bipush (-3), 2) := by decide +kernel
theorem dX7_time_53 : decode cX7_time 53 = .ok (.ireturn, 1) := by decide +kernel
theorem dX7_time_54 : decode cX7_time 54 = .ok (.aload_n 0, 1) := by decide +kernel
theorem dX7_time_55 : decode cX7_time 55 = .ok (.iload_n 1, 1) := by decide +kernel
theorem dX7_time_56 : decode cX7_time 56 = .ok (.iload_n 2, 1) := by decide +kernel
theorem dX7_time_57 : decode cX7_time 57 = .ok (.iload_n 3, 1) := by decide +kernel
theorem dX7_time_58 : decode cX7_time 58 = .ok (.invokevirtual 120, 3) := by decide +kernel
theorem dX7_time_61 : decode cX7_time 61 = .ok (.ireturn, 1) := by decide +kernel
theorem dX7_undo_0 : decode cX7_undo 0 = .ok (.aload_n 0, 1) := by decide +kernel
theorem dX7_undo_1 : decode cX7_undo 1 = .ok (.getfield 41, 3) := by decide +kernel
theorem dX7_undo_4 : decode cX7_undo 4 = .ok (.getfield 108, 3) := by decide +kernel
theorem dX7_undo_7 : decode cX7_undo 7 = .ok (.ifCond .ne 6, 3) := by decide +kernel
theorem dX7_undo_10 : decode cX7_undo 10 = .ok (.bipush (-3), 2) := by decide +kernel
theorem dX7_undo_12 : decode cX7_undo 12 = .ok (.ireturn, 1) := by decide +kernel
theorem dX7_undo_13 : decode cX7_undo 13 = .ok (.aload_n 0, 1) := by decide +kernel
theorem dX7_undo_14 : decode cX7_undo 14 = .ok (.getfield 41, 3) := by decide +kernel
theorem dX7_undo_17 : decode cX7_undo 17 = .ok (.aload_n 0, 1) := by decide +kernel
theorem dX7_undo_18 : decode cX7_undo 18 = .ok (.getfield 16, 3) := by decide +kernel
theorem dX7_undo_21 : decode cX7_undo 21 = .ok (.invokevirtual 124, 3) := by decide +kernel
theorem dX7_undo_24 : decode cX7_undo 24 = .ok (.aload_n 0, 1) := by decide +kernel
theorem dX7_undo_25 : decode cX7_undo 25 = .ok (.getfield 41, 3) := by decide +kernel
theorem dX7_undo_28 : decode cX7_undo 28 = .ok (.getfield 108, 3) := by decide +kernel
theorem dX7_undo_31 : decode cX7_undo 31 = .ok (.ireturn, 1) := by decide +kernel
theorem dX7_pace_0 : decode cX7_pace 0 = .ok (.aload_n 0, 1) := by decide +kernel
theorem dX7_pace_1 : decode cX7_pace 1 = .ok (.getfield 55, 3) := by decide +kernel
theorem dX7_pace_4 : decode cX7_pace 4 = .ok (.aload_n 0, 1) := by decide +kernel
theorem dX7_pace_5 : decode cX7_pace 5 = .ok (.getfield 16, 3) := by decide +kernel
theorem dX7_pace_8 : decode cX7_pace 8 = .ok (.invokevirtual 127, 3) := by decide +kernel
theorem dX7_pace_11 : decode cX7_pace 11 = .ok (.istore_n 2, 1) := by decide +kernel
theorem dX7_pace_12 : decode cX7_pace 12 = .ok (.iload_n 2, 1) := by decide +kernel
theorem dX7_pace_13 : decode cX7_pace 13 = .ok (.iconst (-1), 1) := by decide +kernel
theorem dX7_pace_14 : decode cX7_pace 14 = .ok (.if_icmp .ne 8, 3) := by decide +kernel
theorem dX7_pace_17 : decode cX7_pace 17 = .ok (.bipush (-9), 2) := by decide +kernel
theorem dX7_pace_19 : decode cX7_pace 19 = .ok (.goto 10, 3) := by decide +kernel
theorem dX7_pace_22 : decode cX7_pace 22 = .ok (.iload_n 2, 1) := by decide +kernel
theorem dX7_pace_23 : decode cX7_pace 23 = .ok (.bipush 60, 2) := by decide +kernel
theorem dX7_pace_25 : decode cX7_pace 25 = .ok (.iload_n 1, 1) := by decide +kernel
theorem dX7_pace_26 : decode cX7_pace 26 = .ok (.invokestatic 131, 3) := by decide +kernel
theorem dX7_pace_29 : decode cX7_pace 29 = .ok (.ireturn, 1) := by decide +kernel
theorem dX7_critical_0 : decode cX7_critical 0 = .ok (.aload_n 0, 1) := by decide +kernel
theorem dX7_critical_1 : decode cX7_critical 1 = .ok (.getfield 16, 3) := by decide +kernel
theorem dX7_critical_4 : decode cX7_critical 4 = .ok (.iload_n 1, 1) := by decide +kernel
theorem dX7_critical_5 : decode cX7_critical 5 = .ok (.invokevirtual 112, 3) := by decide +kernel
theorem dX7_critical_8 : decode cX7_critical 8 = .ok (.ifCond .eq 14, 3) := by decide +kernel
theorem dX7_critical_11 : decode cX7_critical 11 = .ok (.aload_n 0, 1) := by decide +kernel
theorem dX7_critical_12 : decode cX7_critical 12 = .ok (.getfield 16, 3) := by decide +kernel
theorem dX7_critical_15 : decode cX7_critical 15 = .ok (.iload_n 2, 1) := by decide +kernel
theorem dX7_critical_16 : decode cX7_critical 16 = .ok (.invokevirtual 112, 3) := by decide +kernel
theorem dX7_critical_19 : decode cX7_critical 19 = .ok (.ifCond .ne 5, 3) := by decide +kernel
theorem dX7_critical_22 : decode cX7_critical 22 = .ok (.iconst (-1), 1) := by decide +kernel
theorem dX7_critical_23 : decode cX7_critical 23 = .ok (.ireturn, 1) := by decide +kernel
theorem dX7_critical_24 : decode cX7_critical 24 = .ok (.aload_n 0, 1) := by decide +kernel
theorem dX7_critical_25 : decode cX7_critical 25 = .ok (.getfield 16, 3) := by decide +kernel
theorem dX7_critical_28 : decode cX7_critical 28 = .ok (.iload_n 1, 1) := by decide +kernel
theorem dX7_critical_29 : decode cX7_critical 29 = .ok (.iload_n 2, 1) := by decide +kernel
theorem dX7_critical_30 : decode cX7_critical 30 = .ok (.invokevirtual 116, 3) := by decide +kernel
theorem dX7_critical_33 : decode cX7_critical 33 = .ok (.bipush (-9), 2) := by decide +kernel
theorem dX7_critical_35 : decode cX7_critical 35 = .ok (.if_icmp .ne 6, 3) := by decide +kernel
theorem dX7_critical_38 : decode cX7_critical 38 = .ok (.bipush (-3), 2) := by decide +kernel
theorem dX7_critical_40 : decode cX7_critical 40 = .ok (.ireturn, 1) := by decide +kernel
theorem dX7_critical_41 : decode cX7_critical 41 = .ok (.aload_n 0, 1) := by decide +kernel
theorem dX7_critical_42 : decode cX7_critical 42 = .ok (.getfield 55, 3) := by decide +kernel
theorem dX7_critical_45 : decode cX7_critical 45 = .ok (.aload_n 0, 1) := by decide +kernel
theorem dX7_critical_46 : decode cX7_critical 46 = .ok (.getfield 16, 3) := by decide +kernel
theorem dX7_critical_49 : decode cX7_critical 49 = .ok (.invokevirtual 135, 3) := by decide +kernel
theorem dX7_critical_52 : decode cX7_critical 52 = .ok (.aload_n 0, 1) := by decide +kernel
theorem dX7_critical_53 : decode cX7_critical 53 = .ok (.getfield 55, 3) := by decide +kernel
theorem dX7_critical_56 : decode cX7_critical 56 = .ok (.aload_n 0, 1) := by decide +kernel
theorem dX7_critical_57 : decode cX7_critical 57 = .ok (.getfield 16, 3) := by decide +kernel
theorem dX7_critical_60 : decode cX7_critical 60 = .ok (.iload_n 1, 1) := by decide +kernel
theorem dX7_critical_61 : decode cX7_critical 61 = .ok (.iload_n 2, 1) := by decide +kernel
theorem dX7_critical_62 : decode cX7_critical 62 = .ok (.invokevirtual 138, 3) := by decide +kernel
theorem dX7_critical_65 : decode cX7_critical 65 = .ok (.ifCond .eq 7, 3) := by decide +kernel
theorem dX7_critical_68 : decode cX7_critical 68 = .ok (.iconst 1, 1) := by decide +kernel
theorem dX7_critical_69 : decode cX7_critical 69 = .ok (.goto 4, 3) := by decide +kernel
theorem dX7_critical_72 : decode cX7_critical 72 = .ok (.iconst 0, 1) := by decide +kernel
theorem dX7_critical_73 : decode cX7_critical 73 = .ok (.ireturn, 1) := by decide +kernel
theorem dX7_departs_0 : decode cX7_departs 0 = .ok (.aload_n 0, 1) := by decide +kernel
theorem dX7_departs_1 : decode cX7_departs 1 = .ok (.getfield 16, 3) := by decide +kernel
theorem dX7_departs_4 : decode cX7_departs 4 = .ok (.iload_n 1, 1) := by decide +kernel
theorem dX7_departs_5 : decode cX7_departs 5 = .ok (.invokevirtual 112, 3) := by decide +kernel
theorem dX7_departs_8 : decode cX7_departs 8 = .ok (.ifCond .ne 5, 3) := by decide +kernel
theorem dX7_departs_11 : decode cX7_departs 11 = .ok (.iconst (-1), 1) := by decide +kernel
theorem dX7_departs_12 : decode cX7_departs 12 = .ok (.ireturn, 1) := by decide +kernel
theorem dX7_departs_13 : decode cX7_departs 13 = .ok (.iload_n 2, 1) := by decide +kernel
theorem dX7_departs_14 : decode cX7_departs 14 = .ok (.ifCond .lt 9, 3) := by decide +kernel
theorem dX7_departs_17 : decode cX7_departs 17 = .ok (.iload_n 2, 1) := by decide +kernel
theorem dX7_departs_18 : decode cX7_departs 18 = .ok (.bipush 20, 2) := by decide +kernel
theorem dX7_departs_20 : decode cX7_departs 20 = .ok (.if_icmp .le 6, 3) := by decide +kernel
theorem dX7_departs_23 : decode cX7_departs 23 = .ok (.bipush (-2), 2) := by decide +kernel
theorem dX7_departs_25 : decode cX7_departs 25 = .ok (.ireturn, 1) := by decide +kernel
theorem dX7_departs_26 : decode cX7_departs 26 = .ok (.aload_n 0, 1) := by decide +kernel
theorem dX7_departs_27 : decode cX7_departs 27 = .ok (.getfield 55, 3) := by decide +kernel
theorem dX7_departs_30 : decode cX7_departs 30 = .ok (.aload_n 0, 1) := by decide +kernel
theorem dX7_departs_31 : decode cX7_departs 31 = .ok (.getfield 16, 3) := by decide +kernel
theorem dX7_departs_34 : decode cX7_departs 34 = .ok (.iload_n 2, 1) := by decide +kernel
theorem dX7_departs_35 : decode cX7_departs 35 = .ok (.invokevirtual 142, 3) := by decide +kernel
theorem dX7_departs_38 : decode cX7_departs 38 = .ok (.ifCond .ne 6, 3) := by decide +kernel
theorem dX7_departs_41 : decode cX7_departs 41 = .ok (.bipush (-3), 2) := by decide +kernel
theorem dX7_departs_43 : decode cX7_departs 43 = .ok (.ireturn, 1) := by decide +kernel
theorem dX7_departs_44 : decode cX7_departs 44 = .ok (.aload_n 0, 1) := by decide +kernel
theorem dX7_departs_45 : decode cX7_departs 45 = .ok (.getfield 62, 3) := by decide +kernel
theorem dX7_departs_48 : decode cX7_departs 48 = .ok (.aload_n 0, 1) := by decide +kernel
theorem dX7_departs_49 : decode cX7_departs 49 = .ok (.getfield 16, 3) := by decide +kernel
theorem dX7_departs_52 : decode cX7_departs 52 = .ok (.iload_n 2, 1) := by decide +kernel
theorem dX7_departs_53 : decode cX7_departs 53 = .ok (.invokevirtual 146, 3) := by decide +kernel
theorem dX7_departs_56 : decode cX7_departs 56 = .ok (.aload_n 0, 1) := by decide +kernel
theorem dX7_departs_57 : decode cX7_departs 57 = .ok (.getfield 62, 3) := by decide +kernel
theorem dX7_departs_60 : decode cX7_departs 60 = .ok (.iload_n 1, 1) := by decide +kernel
theorem dX7_departs_61 : decode cX7_departs 61 = .ok (.invokevirtual 150, 3) := by decide +kernel
theorem dX7_departs_64 : decode cX7_departs 64 = .ok (.ireturn, 1) := by decide +kernel
theorem dX7_spare_0 : decode cX7_spare 0 = .ok (.aload_n 0, 1) := by decide +kernel
theorem dX7_spare_1 : decode cX7_spare 1 = .ok (.getfield 16, 3) := by decide +kernel
theorem dX7_spare_4 : decode cX7_spare 4 = .ok (.iload_n 1, 1) := by decide +kernel
theorem dX7_spare_5 : decode cX7_spare 5 = .ok (.invokevirtual 112, 3) := by decide +kernel
theorem dX7_spare_8 : decode cX7_spare 8 = .ok (.ifCond .eq 14, 3) := by decide +kernel
theorem dX7_spare_11 : decode cX7_spare 11 = .ok (.aload_n 0, 1) := by decide +kernel
theorem dX7_spare_12 : decode cX7_spare 12 = .ok (.getfield 16, 3) := by decide +kernel
theorem dX7_spare_15 : decode cX7_spare 15 = .ok (.iload_n 2, 1) := by decide +kernel
theorem dX7_spare_16 : decode cX7_spare 16 = .ok (.invokevirtual 112, 3) := by decide +kernel
theorem dX7_spare_19 : decode cX7_spare 19 = .ok (.ifCond .ne 5, 3) := by decide +kernel
theorem dX7_spare_22 : decode cX7_spare 22 = .ok (.iconst (-1), 1) := by decide +kernel
theorem dX7_spare_23 : decode cX7_spare 23 = .ok (.ireturn, 1) := by decide +kernel
theorem dX7_spare_24 : decode cX7_spare 24 = .ok (.iload_n 3, 1) := by decide +kernel
theorem dX7_spare_25 : decode cX7_spare 25 = .ok (.ifCond .lt 9, 3) := by decide +kernel
theorem dX7_spare_28 : decode cX7_spare 28 = .ok (.iload_n 3, 1) := by decide +kernel
theorem dX7_spare_29 : decode cX7_spare 29 = .ok (.bipush 20, 2) := by decide +kernel
theorem dX7_spare_31 : decode cX7_spare 31 = .ok (.if_icmp .le 6, 3) := by decide +kernel
theorem dX7_spare_34 : decode cX7_spare 34 = .ok (.bipush (-2), 2) := by decide +kernel
theorem dX7_spare_36 : decode cX7_spare 36 = .ok (.ireturn, 1) := by decide +kernel
theorem dX7_spare_37 : decode cX7_spare 37 = .ok (.aload_n 0, 1) := by decide +kernel
theorem dX7_spare_38 : decode cX7_spare 38 = .ok (.getfield 16, 3) := by decide +kernel
theorem dX7_spare_41 : decode cX7_spare 41 = .ok (.iload_n 1, 1) := by decide +kernel
theorem dX7_spare_42 : decode cX7_spare 42 = .ok (.iload_n 2, 1) := by decide +kernel
theorem dX7_spare_43 : decode cX7_spare 43 = .ok (.invokevirtual 116, 3) := by decide +kernel
theorem dX7_spare_46 : decode cX7_spare 46 = .ok (.bipush (-9), 2) := by decide +kernel
theorem dX7_spare_48 : decode cX7_spare 48 = .ok (.if_icmp .eq 18, 3) := by decide +kernel
theorem dX7_spare_51 : decode cX7_spare 51 = .ok (.aload_n 0, 1) := by decide +kernel
theorem dX7_spare_52 : decode cX7_spare 52 = .ok (.getfield 55, 3) := by decide +kernel
theorem dX7_spare_55 : decode cX7_spare 55 = .ok (.aload_n 0, 1) := by decide +kernel
theorem dX7_spare_56 : decode cX7_spare 56 = .ok (.getfield 16, 3) := by decide +kernel
theorem dX7_spare_59 : decode cX7_spare 59 = .ok (.iload_n 3, 1) := by decide +kernel
theorem dX7_spare_60 : decode cX7_spare 60 = .ok (.invokevirtual 142, 3) := by decide +kernel
theorem dX7_spare_63 : decode cX7_spare 63 = .ok (.ifCond .ne 6, 3) := by decide +kernel
theorem dX7_spare_66 : decode cX7_spare 66 = .ok (.bipush (-3), 2) := by decide +kernel
theorem dX7_spare_68 : decode cX7_spare 68 = .ok (.ireturn, 1) := by decide +kernel
theorem dX7_spare_69 : decode cX7_spare 69 = .ok (.aload_n 0, 1) := by decide +kernel
theorem dX7_spare_70 : decode cX7_spare 70 = .ok (.getfield 62, 3) := by decide +kernel
theorem dX7_spare_73 : decode cX7_spare 73 = .ok (.aload_n 0, 1) := by decide +kernel
theorem dX7_spare_74 : decode cX7_spare 74 = .ok (.getfield 16, 3) := by decide +kernel
theorem dX7_spare_77 : decode cX7_spare 77 = .ok (.iload_n 3, 1) := by decide +kernel
theorem dX7_spare_78 : decode cX7_spare 78 = .ok (.invokevirtual 146, 3) := by decide +kernel
theorem dX7_spare_81 : decode cX7_spare 81 = .ok (.aload_n 0, 1) := by decide +kernel
theorem dX7_spare_82 : decode cX7_spare 82 = .ok (.getfield 62, 3) := by decide +kernel
theorem dX7_spare_85 : decode cX7_spare 85 = .ok (.aload_n 0, 1) := by decide +kernel
theorem dX7_spare_86 : decode cX7_spare 86 = .ok (.getfield 16, 3) := by decide +kernel
theorem dX7_spare_89 : decode cX7_spare 89 = .ok (.iload_n 1, 1) := by decide +kernel
theorem dX7_spare_90 : decode cX7_spare 90 = .ok (.iload_n 2, 1) := by decide +kernel
theorem dX7_spare_91 : decode cX7_spare 91 = .ok (.invokevirtual 153, 3) := by decide +kernel
theorem dX7_spare_94 : decode cX7_spare 94 = .ok (.ireturn, 1) := by decide +kernel
theorem dX7_late_0 : decode cX7_late 0 = .ok (.aload_n 0, 1) := by decide +kernel
theorem dX7_late_1 : decode cX7_late 1 = .ok (.getfield 16, 3) := by decide +kernel
theorem dX7_late_4 : decode cX7_late 4 = .ok (.iload_n 1, 1) := by decide +kernel
theorem dX7_late_5 : decode cX7_late 5 = .ok (.invokevirtual 112, 3) := by decide +kernel
theorem dX7_late_8 : decode cX7_late 8 = .ok (.ifCond .eq 15, 3) := by decide +kernel
theorem dX7_late_11 : decode cX7_late 11 = .ok (.aload_n 0, 1) := by decide +kernel
theorem dX7_late_12 : decode cX7_late 12 = .ok (.getfield 16, 3) := by decide +kernel
theorem dX7_late_15 : decode cX7_late 15 = .ok (.iload 4, 2) := by decide +kernel
theorem dX7_late_17 : decode cX7_late 17 = .ok (.invokevirtual 112, 3) := by decide +kernel
theorem dX7_late_20 : decode cX7_late 20 = .ok (.ifCond .ne 5, 3) := by decide +kernel
theorem dX7_late_23 : decode cX7_late 23 = .ok (.iconst (-1), 1) := by decide +kernel
theorem dX7_late_24 : decode cX7_late 24 = .ok (.ireturn, 1) := by decide +kernel
theorem dX7_late_25 : decode cX7_late 25 = .ok (.iload_n 2, 1) := by decide +kernel
theorem dX7_late_26 : decode cX7_late 26 = .ok (.iconst 1, 1) := by decide +kernel
theorem dX7_late_27 : decode cX7_late 27 = .ok (.if_icmp .lt 19, 3) := by decide +kernel
theorem dX7_late_30 : decode cX7_late 30 = .ok (.iload_n 2, 1) := by decide +kernel
theorem dX7_late_31 : decode cX7_late 31 = .ok (.bipush 30, 2) := by decide +kernel
theorem dX7_late_33 : decode cX7_late 33 = .ok (.if_icmp .gt 13, 3) := by decide +kernel
theorem dX7_late_36 : decode cX7_late 36 = .ok (.iload_n 3, 1) := by decide +kernel
theorem dX7_late_37 : decode cX7_late 37 = .ok (.ifCond .lt 9, 3) := by decide +kernel
theorem dX7_late_40 : decode cX7_late 40 = .ok (.iload_n 3, 1) := by decide +kernel
theorem dX7_late_41 : decode cX7_late 41 = .ok (.bipush 20, 2) := by decide +kernel
theorem dX7_late_43 : decode cX7_late 43 = .ok (.if_icmp .le 6, 3) := by decide +kernel
theorem dX7_late_46 : decode cX7_late 46 = .ok (.bipush (-2), 2) := by decide +kernel
theorem dX7_late_48 : decode cX7_late 48 = .ok (.ireturn, 1) := by decide +kernel
theorem dX7_late_49 : decode cX7_late 49 = .ok (.iload 5, 2) := by decide +kernel
theorem dX7_late_51 : decode cX7_late 51 = .ok (.ifCond .lt 10, 3) := by decide +kernel
theorem dX7_late_54 : decode cX7_late 54 = .ok (.iload 5, 2) := by decide +kernel
theorem dX7_late_56 : decode cX7_late 56 = .ok (.bipush 40, 2) := by decide +kernel
theorem dX7_late_58 : decode cX7_late 58 = .ok (.if_icmp .le 6, 3) := by decide +kernel
theorem dX7_late_61 : decode cX7_late 61 = .ok (.bipush (-2), 2) := by decide +kernel
theorem dX7_late_63 : decode cX7_late 63 = .ok (.ireturn, 1) := by decide +kernel
theorem dX7_late_64 : decode cX7_late 64 = .ok (.aload_n 0, 1) := by decide +kernel
theorem dX7_late_65 : decode cX7_late 65 = .ok (.getfield 55, 3) := by decide +kernel
theorem dX7_late_68 : decode cX7_late 68 = .ok (.aload_n 0, 1) := by decide +kernel
theorem dX7_late_69 : decode cX7_late 69 = .ok (.getfield 16, 3) := by decide +kernel
theorem dX7_late_72 : decode cX7_late 72 = .ok (.iload_n 3, 1) := by decide +kernel
theorem dX7_late_73 : decode cX7_late 73 = .ok (.invokevirtual 142, 3) := by decide +kernel
theorem dX7_late_76 : decode cX7_late 76 = .ok (.ifCond .ne 6, 3) := by decide +kernel
theorem dX7_late_79 : decode cX7_late 79 = .ok (.bipush (-3), 2) := by decide +kernel
theorem dX7_late_81 : decode cX7_late 81 = .ok (.ireturn, 1) := by decide +kernel
theorem dX7_late_82 : decode cX7_late 82 = .ok (.aload_n 0, 1) := by decide +kernel
theorem dX7_late_83 : decode cX7_late 83 = .ok (.getfield 62, 3) := by decide +kernel
theorem dX7_late_86 : decode cX7_late 86 = .ok (.aload_n 0, 1) := by decide +kernel
theorem dX7_late_87 : decode cX7_late 87 = .ok (.getfield 16, 3) := by decide +kernel
theorem dX7_late_90 : decode cX7_late 90 = .ok (.iload_n 3, 1) := by decide +kernel
theorem dX7_late_91 : decode cX7_late 91 = .ok (.invokevirtual 146, 3) := by decide +kernel
theorem dX7_late_94 : decode cX7_late 94 = .ok (.aload_n 0, 1) := by decide +kernel
theorem dX7_late_95 : decode cX7_late 95 = .ok (.getfield 62, 3) := by decide +kernel
theorem dX7_late_98 : decode cX7_late 98 = .ok (.aload_n 0, 1) := by decide +kernel
theorem dX7_late_99 : decode cX7_late 99 = .ok (.getfield 16, 3) := by decide +kernel
theorem dX7_late_102 : decode cX7_late 102 = .ok (.iload_n 1, 1) := by decide +kernel
theorem dX7_late_103 : decode cX7_late 103 = .ok (.iload 5, 2) := by decide +kernel
theorem dX7_late_105 : decode cX7_late 105 = .ok (.invokevirtual 157, 3) := by decide +kernel
theorem dX7_late_108 : decode cX7_late 108 = .ok (.aload_n 0, 1) := by decide +kernel
theorem dX7_late_109 : decode cX7_late 109 = .ok (.getfield 62, 3) := by decide +kernel
theorem dX7_late_112 : decode cX7_late 112 = .ok (.iload_n 2, 1) := by decide +kernel
theorem dX7_late_113 : decode cX7_late 113 = .ok (.iload 4, 2) := by decide +kernel
theorem dX7_late_115 : decode cX7_late 115 = .ok (.iload 5, 2) := by decide +kernel
theorem dX7_late_117 : decode cX7_late 117 = .ok (.invokevirtual 161, 3) := by decide +kernel
theorem dX7_late_120 : decode cX7_late 120 = .ok (.ireturn, 1) := by decide +kernel
theorem dX7_dies_0 : decode cX7_dies 0 = .ok (.aload_n 0, 1) := by decide +kernel
theorem dX7_dies_1 : decode cX7_dies 1 = .ok (.getfield 16, 3) := by decide +kernel
theorem dX7_dies_4 : decode cX7_dies 4 = .ok (.iload_n 1, 1) := by decide +kernel
theorem dX7_dies_5 : decode cX7_dies 5 = .ok (.invokevirtual 112, 3) := by decide +kernel
theorem dX7_dies_8 : decode cX7_dies 8 = .ok (.ifCond .ne 5, 3) := by decide +kernel
theorem dX7_dies_11 : decode cX7_dies 11 = .ok (.iconst (-1), 1) := by decide +kernel
theorem dX7_dies_12 : decode cX7_dies 12 = .ok (.ireturn, 1) := by decide +kernel
theorem dX7_dies_13 : decode cX7_dies 13 = .ok (.iload_n 2, 1) := by decide +kernel
theorem dX7_dies_14 : decode cX7_dies 14 = .ok (.iconst 1, 1) := by decide +kernel
theorem dX7_dies_15 : decode cX7_dies 15 = .ok (.if_icmp .lt 19, 3) := by decide +kernel
theorem dX7_dies_18 : decode cX7_dies 18 = .ok (.iload_n 2, 1) := by decide +kernel
theorem dX7_dies_19 : decode cX7_dies 19 = .ok (.bipush 30, 2) := by decide +kernel
theorem dX7_dies_21 : decode cX7_dies 21 = .ok (.if_icmp .gt 13, 3) := by decide +kernel
theorem dX7_dies_24 : decode cX7_dies 24 = .ok (.iload_n 3, 1) := by decide +kernel
theorem dX7_dies_25 : decode cX7_dies 25 = .ok (.ifCond .lt 9, 3) := by decide +kernel
theorem dX7_dies_28 : decode cX7_dies 28 = .ok (.iload_n 3, 1) := by decide +kernel
theorem dX7_dies_29 : decode cX7_dies 29 = .ok (.bipush 20, 2) := by decide +kernel
theorem dX7_dies_31 : decode cX7_dies 31 = .ok (.if_icmp .le 6, 3) := by decide +kernel
theorem dX7_dies_34 : decode cX7_dies 34 = .ok (.bipush (-2), 2) := by decide +kernel
theorem dX7_dies_36 : decode cX7_dies 36 = .ok (.ireturn, 1) := by decide +kernel
theorem dX7_dies_37 : decode cX7_dies 37 = .ok (.aload_n 0, 1) := by decide +kernel
theorem dX7_dies_38 : decode cX7_dies 38 = .ok (.getfield 55, 3) := by decide +kernel
theorem dX7_dies_41 : decode cX7_dies 41 = .ok (.aload_n 0, 1) := by decide +kernel
theorem dX7_dies_42 : decode cX7_dies 42 = .ok (.getfield 16, 3) := by decide +kernel
theorem dX7_dies_45 : decode cX7_dies 45 = .ok (.iload_n 3, 1) := by decide +kernel
theorem dX7_dies_46 : decode cX7_dies 46 = .ok (.invokevirtual 142, 3) := by decide +kernel
theorem dX7_dies_49 : decode cX7_dies 49 = .ok (.ifCond .ne 6, 3) := by decide +kernel
theorem dX7_dies_52 : decode cX7_dies 52 = .ok (.bipush (-3), 2) := by decide +kernel
theorem dX7_dies_54 : decode cX7_dies 54 = .ok (.ireturn, 1) := by decide +kernel
theorem dX7_dies_55 : decode cX7_dies 55 = .ok (.aload_n 0, 1) := by decide +kernel
theorem dX7_dies_56 : decode cX7_dies 56 = .ok (.aload_n 0, 1) := by decide +kernel
theorem dX7_dies_57 : decode cX7_dies 57 = .ok (.getfield 16, 3) := by decide +kernel
theorem dX7_dies_60 : decode cX7_dies 60 = .ok (.iload_n 1, 1) := by decide +kernel
theorem dX7_dies_61 : decode cX7_dies 61 = .ok (.iload_n 2, 1) := by decide +kernel
theorem dX7_dies_62 : decode cX7_dies 62 = .ok (.iload_n 3, 1) := by decide +kernel
theorem dX7_dies_63 : decode cX7_dies 63 = .ok (.invokevirtual 164, 3) := by decide +kernel
theorem dX7_dies_66 : decode cX7_dies 66 = .ok (.ireturn, 1) := by decide +kernel
theorem dX7_best_0 : decode cX7_best 0 = .ok (.iload_n 1, 1) := by decide +kernel
theorem dX7_best_1 : decode cX7_best 1 = .ok (.ifCond .eq 11, 3) := by decide +kernel
theorem dX7_best_4 : decode cX7_best 4 = .ok (.iload_n 1, 1) := by decide +kernel
theorem dX7_best_5 : decode cX7_best 5 = .ok (.iconst 1, 1) := by decide +kernel
theorem dX7_best_6 : decode cX7_best 6 = .ok (.if_icmp .eq 6, 3) := by decide +kernel
theorem dX7_best_9 : decode cX7_best 9 = .ok (.bipush (-2), 2) := by decide +kernel
theorem dX7_best_11 : decode cX7_best 11 = .ok (.ireturn, 1) := by decide +kernel
theorem dX7_best_12 : decode cX7_best 12 = .ok (.aload_n 0, 1) := by decide +kernel
theorem dX7_best_13 : decode cX7_best 13 = .ok (.getfield 20, 3) := by decide +kernel
theorem dX7_best_16 : decode cX7_best 16 = .ok (.aload_n 0, 1) := by decide +kernel
theorem dX7_best_17 : decode cX7_best 17 = .ok (.getfield 16, 3) := by decide +kernel
theorem dX7_best_20 : decode cX7_best 20 = .ok (.invokevirtual 81, 3) := by decide +kernel
theorem dX7_best_23 : decode cX7_best 23 = .ok (.bipush (-9), 2) := by decide +kernel
theorem dX7_best_25 : decode cX7_best 25 = .ok (.istore_n 2, 1) := by decide +kernel
theorem dX7_best_26 : decode cX7_best 26 = .ok (.ldc 168, 2) := by decide +kernel
theorem dX7_best_28 : decode cX7_best 28 = .ok (.istore_n 3, 1) := by decide +kernel
theorem dX7_best_29 : decode cX7_best 29 = .ok (.iconst 0, 1) := by decide +kernel
theorem dX7_best_30 : decode cX7_best 30 = .ok (.istore 4, 2) := by decide +kernel
theorem dX7_best_32 : decode cX7_best 32 = .ok (.iload 4, 2) := by decide +kernel
theorem dX7_best_34 : decode cX7_best 34 = .ok (.aload_n 0, 1) := by decide +kernel
theorem dX7_best_35 : decode cX7_best 35 = .ok (.getfield 16, 3) := by decide +kernel
theorem dX7_best_38 : decode cX7_best 38 = .ok (.getfield 92, 3) := by decide +kernel
theorem dX7_best_41 : decode cX7_best 41 = .ok (.if_icmp .ge 132, 3) := by decide +kernel
theorem dX7_best_44 : decode cX7_best 44 = .ok (.iconst 0, 1) := by decide +kernel
theorem dX7_best_45 : decode cX7_best 45 = .ok (.istore 5, 2) := by decide +kernel
theorem dX7_best_47 : decode cX7_best 47 = .ok (.iload 5, 2) := by decide +kernel
theorem dX7_best_49 : decode cX7_best 49 = .ok (.aload_n 0, 1) := by decide +kernel
theorem dX7_best_50 : decode cX7_best 50 = .ok (.getfield 16, 3) := by decide +kernel
theorem dX7_best_53 : decode cX7_best 53 = .ok (.getfield 92, 3) := by decide +kernel
theorem dX7_best_56 : decode cX7_best 56 = .ok (.if_icmp .ge 111, 3) := by decide +kernel
theorem dX7_best_59 : decode cX7_best 59 = .ok (.aload_n 0, 1) := by decide +kernel
theorem dX7_best_60 : decode cX7_best 60 = .ok (.getfield 16, 3) := by decide +kernel
theorem dX7_best_63 : decode cX7_best 63 = .ok (.iload 4, 2) := by decide +kernel
theorem dX7_best_65 : decode cX7_best 65 = .ok (.iload 5, 2) := by decide +kernel
theorem dX7_best_67 : decode cX7_best 67 = .ok (.invokevirtual 116, 3) := by decide +kernel
theorem dX7_best_70 : decode cX7_best 70 = .ok (.istore 6, 2) := by decide +kernel
theorem dX7_best_72 : decode cX7_best 72 = .ok (.iload 6, 2) := by decide +kernel
theorem dX7_best_74 : decode cX7_best 74 = .ok (.bipush (-9), 2) := by decide +kernel
theorem dX7_best_76 : decode cX7_best 76 = .ok (.if_icmp .eq 85, 3) := by decide +kernel
theorem dX7_best_79 : decode cX7_best 79 = .ok (.iload_n 1, 1) := by decide +kernel
theorem dX7_best_80 : decode cX7_best 80 = .ok (.ifCond .ne 11, 3) := by decide +kernel
theorem dX7_best_83 : decode cX7_best 83 = .ok (.iload 6, 2) := by decide +kernel
theorem dX7_best_85 : decode cX7_best 85 = .ok (.ifCond .ne 6, 3) := by decide +kernel
theorem dX7_best_88 : decode cX7_best 88 = .ok (.goto 73, 3) := by decide +kernel
theorem dX7_best_91 : decode cX7_best 91 = .ok (.aload_n 0, 1) := by decide +kernel
theorem dX7_best_92 : decode cX7_best 92 = .ok (.getfield 20, 3) := by decide +kernel
theorem dX7_best_95 : decode cX7_best 95 = .ok (.iload 4, 2) := by decide +kernel
theorem dX7_best_97 : decode cX7_best 97 = .ok (.iload 5, 2) := by decide +kernel
theorem dX7_best_99 : decode cX7_best 99 = .ok (.iload_n 1, 1) := by decide +kernel
theorem dX7_best_100 : decode cX7_best 100 = .ok (.ifCond .ne 10, 3) := by decide +kernel
theorem dX7_best_103 : decode cX7_best 103 = .ok (.iload 6, 2) := by decide +kernel
theorem dX7_best_105 : decode cX7_best 105 = .ok (.iconst 1, 1) := by decide +kernel
theorem dX7_best_106 : decode cX7_best 106 = .ok (.isub, 1) := by decide +kernel
theorem dX7_best_107 : decode cX7_best 107 = .ok (.goto 5, 3) := by decide +kernel
theorem dX7_best_110 : decode cX7_best 110 = .ok (.bipush (-9), 2) := by decide +kernel
theorem dX7_best_112 : decode cX7_best 112 = .ok (.invokevirtual 169, 3) := by decide +kernel
theorem dX7_best_115 : decode cX7_best 115 = .ok (.pop, 1) := by decide +kernel
theorem dX7_best_116 : decode cX7_best 116 = .ok (.aload_n 0, 1) := by decide +kernel
theorem dX7_best_117 : decode cX7_best 117 = .ok (.getfield 55, 3) := by decide +kernel
theorem dX7_best_120 : decode cX7_best 120 = .ok (.aload_n 0, 1) := by decide +kernel
theorem dX7_best_121 : decode cX7_best 121 = .ok (.getfield 20, 3) := by decide +kernel
theorem dX7_best_124 : decode cX7_best 124 = .ok (.invokevirtual 127, 3) := by decide +kernel
theorem dX7_best_127 : decode cX7_best 127 = .ok (.istore 7, 2) := by decide +kernel
theorem dX7_best_129 : decode cX7_best 129 = .ok (.aload_n 0, 1) := by decide +kernel
theorem dX7_best_130 : decode cX7_best 130 = .ok (.getfield 20, 3) := by decide +kernel
theorem dX7_best_133 : decode cX7_best 133 = .ok (.iload 4, 2) := by decide +kernel
theorem dX7_best_135 : decode cX7_best 135 = .ok (.iload 5, 2) := by decide +kernel
theorem dX7_best_137 : decode cX7_best 137 = .ok (.iload 6, 2) := by decide +kernel
theorem dX7_best_139 : decode cX7_best 139 = .ok (.invokevirtual 169, 3) := by decide +kernel
theorem dX7_best_142 : decode cX7_best 142 = .ok (.pop, 1) := by decide +kernel
theorem dX7_best_143 : decode cX7_best 143 = .ok (.iload 7, 2) := by decide +kernel
theorem dX7_best_145 : decode cX7_best 145 = .ok (.iload_n 3, 1) := by decide +kernel
theorem dX7_best_146 : decode cX7_best 146 = .ok (.if_icmp .ge 15, 3) := by decide +kernel
theorem dX7_best_149 : decode cX7_best 149 = .ok (.iload 7, 2) := by decide +kernel
theorem dX7_best_151 : decode cX7_best 151 = .ok (.istore_n 3, 1) := by decide +kernel
theorem dX7_best_152 : decode cX7_best 152 = .ok (.bipush 10, 2) := by decide +kernel
theorem dX7_best_154 : decode cX7_best 154 = .ok (.iload 4, 2) := by decide +kernel
theorem dX7_best_156 : decode cX7_best 156 = .ok (.imul, 1) := by decide +kernel
theorem dX7_best_157 : decode cX7_best 157 = .ok (.iload 5, 2) := by decide +kernel
theorem dX7_best_159 : decode cX7_best 159 = .ok (.iadd, 1) := by decide +kernel
theorem dX7_best_160 : decode cX7_best 160 = .ok (.istore_n 2, 1) := by decide +kernel
theorem dX7_best_161 : decode cX7_best 161 = .ok (.iinc 5 1, 3) := by decide +kernel
theorem dX7_best_164 : decode cX7_best 164 = .ok (.goto (-117), 3) := by decide +kernel
theorem dX7_best_167 : decode cX7_best 167 = .ok (.iinc 4 1, 3) := by decide +kernel
theorem dX7_best_170 : decode cX7_best 170 = .ok (.goto (-138), 3) := by decide +kernel
theorem dX7_best_173 : decode cX7_best 173 = .ok (.iload_n 2, 1) := by decide +kernel
theorem dX7_best_174 : decode cX7_best 174 = .ok (.ireturn, 1) := by decide +kernel
theorem dX7_judge_0 : decode cX7_judge 0 = .ok (.iload_n 1, 1) := by decide +kernel
theorem dX7_judge_1 : decode cX7_judge 1 = .ok (.iconst 1, 1) := by decide +kernel
theorem dX7_judge_2 : decode cX7_judge 2 = .ok (.if_icmp .lt 24, 3) := by decide +kernel
theorem dX7_judge_5 : decode cX7_judge 5 = .ok (.iload_n 1, 1) := by decide +kernel
theorem dX7_judge_6 : decode cX7_judge 6 = .ok (.iconst 4, 1) := by decide +kernel
theorem dX7_judge_7 : decode cX7_judge 7 = .ok (.if_icmp .gt 19, 3) := by decide +kernel
theorem dX7_judge_10 : decode cX7_judge 10 = .ok (.lload_n 2, 1) := by decide +kernel
theorem dX7_judge_11 : decode cX7_judge 11 = .ok (.lconst 0, 1) := by decide +kernel
theorem dX7_judge_12 : decode cX7_judge 12 = .ok (.lcmp, 1) := by decide +kernel
theorem dX7_judge_13 : decode cX7_judge 13 = .ok (.ifCond .lt 13, 3) := by decide +kernel
theorem dX7_judge_16 : decode cX7_judge 16 = .ok (.lload_n 2, 1) := by decide +kernel
theorem dX7_judge_17 : decode cX7_judge 17 = .ok (.getstatic 173, 3) := by decide +kernel
theorem dX7_judge_20 : decode cX7_judge 20 = .ok (.iload_n 1, 1) := by decide +kernel
theorem dX7_judge_21 : decode cX7_judge 21 = .ok (.laload, 1) := by decide +kernel
theorem dX7_judge_22 : decode cX7_judge 22 = .ok (.lcmp, 1) := by decide +kernel
theorem dX7_judge_23 : decode cX7_judge 23 = .ok (.ifCond .lt 6, 3) := by decide +kernel
theorem dX7_judge_26 : decode cX7_judge 26 = .ok (.bipush (-2), 2) := by decide +kernel
theorem dX7_judge_28 : decode cX7_judge 28 = .ok (.ireturn, 1) := by decide +kernel
theorem dX7_judge_29 : decode cX7_judge 29 = .ok (.aload_n 0, 1) := by decide +kernel
theorem dX7_judge_30 : decode cX7_judge 30 = .ok (.getfield 20, 3) := by decide +kernel
theorem dX7_judge_33 : decode cX7_judge 33 = .ok (.aload_n 0, 1) := by decide +kernel
theorem dX7_judge_34 : decode cX7_judge 34 = .ok (.getfield 16, 3) := by decide +kernel
theorem dX7_judge_37 : decode cX7_judge 37 = .ok (.invokevirtual 81, 3) := by decide +kernel
theorem dX7_judge_40 : decode cX7_judge 40 = .ok (.iconst 0, 1) := by decide +kernel
theorem dX7_judge_41 : decode cX7_judge 41 = .ok (.istore 4, 2) := by decide +kernel
theorem dX7_judge_43 : decode cX7_judge 43 = .ok (.iload 4, 2) := by decide +kernel
theorem dX7_judge_45 : decode cX7_judge 45 = .ok (.iload_n 1, 1) := by decide +kernel
theorem dX7_judge_46 : decode cX7_judge 46 = .ok (.if_icmp .ge 29, 3) := by decide +kernel
theorem dX7_judge_49 : decode cX7_judge 49 = .ok (.aload_n 0, 1) := by decide +kernel
theorem dX7_judge_50 : decode cX7_judge 50 = .ok (.lload_n 2, 1) := by decide +kernel
theorem dX7_judge_51 : decode cX7_judge 51 = .ok (.iload_n 1, 1) := by decide +kernel
theorem dX7_judge_52 : decode cX7_judge 52 = .ok (.iconst 1, 1) := by decide +kernel
theorem dX7_judge_53 : decode cX7_judge 53 = .ok (.isub, 1) := by decide +kernel
theorem dX7_judge_54 : decode cX7_judge 54 = .ok (.iload 4, 2) := by decide +kernel
theorem dX7_judge_56 : decode cX7_judge 56 = .ok (.isub, 1) := by decide +kernel
theorem dX7_judge_57 : decode cX7_judge 57 = .ok (.invokestatic 177, 3) := by decide +kernel
theorem dX7_judge_60 : decode cX7_judge 60 = .ok (.invokevirtual 181, 3) := by decide +kernel
theorem dX7_judge_63 : decode cX7_judge 63 = .ok (.ifCond .ne 6, 3) := by decide +kernel
theorem dX7_judge_66 : decode cX7_judge 66 = .ok (.iload 4, 2) := by decide +kernel
theorem dX7_judge_68 : decode cX7_judge 68 = .ok (.ireturn, 1) := by decide +kernel
theorem dX7_judge_69 : decode cX7_judge 69 = .ok (.iinc 4 1, 3) := by decide +kernel
theorem dX7_judge_72 : decode cX7_judge 72 = .ok (.goto (-29), 3) := by decide +kernel
theorem dX7_judge_75 : decode cX7_judge 75 = .ok (.bipush (-9), 2) := by decide +kernel
theorem dX7_judge_77 : decode cX7_judge 77 = .ok (.ireturn, 1) := by decide +kernel
theorem dX7_share_0 : decode cX7_share 0 = .ok (.aload_n 0, 1) := by decide +kernel
theorem dX7_share_1 : decode cX7_share 1 = .ok (.getfield 16, 3) := by decide +kernel
theorem dX7_share_4 : decode cX7_share 4 = .ok (.iload_n 1, 1) := by decide +kernel
theorem dX7_share_5 : decode cX7_share 5 = .ok (.invokevirtual 112, 3) := by decide +kernel
theorem dX7_share_8 : decode cX7_share 8 = .ok (.ifCond .ne 5, 3) := by decide +kernel
theorem dX7_share_11 : decode cX7_share 11 = .ok (.iconst (-1), 1) := by decide +kernel
theorem dX7_share_12 : decode cX7_share 12 = .ok (.ireturn, 1) := by decide +kernel
theorem dX7_share_13 : decode cX7_share 13 = .ok (.aload_n 0, 1) := by decide +kernel
theorem dX7_share_14 : decode cX7_share 14 = .ok (.getfield 69, 3) := by decide +kernel
theorem dX7_share_17 : decode cX7_share 17 = .ok (.aload_n 0, 1) := by decide +kernel
theorem dX7_share_18 : decode cX7_share 18 = .ok (.getfield 16, 3) := by decide +kernel
theorem dX7_share_21 : decode cX7_share 21 = .ok (.invokevirtual 95, 3) := by decide +kernel
theorem dX7_share_24 : decode cX7_share 24 = .ok (.getstatic 184, 3) := by decide +kernel
theorem dX7_share_27 : decode cX7_share 27 = .ok (.aload_n 0, 1) := by decide +kernel
theorem dX7_share_28 : decode cX7_share 28 = .ok (.getfield 16, 3) := by decide +kernel
theorem dX7_share_31 : decode cX7_share 31 = .ok (.getfield 92, 3) := by decide +kernel
theorem dX7_share_34 : decode cX7_share 34 = .ok (.iaload, 1) := by decide +kernel
theorem dX7_share_35 : decode cX7_share 35 = .ok (.istore_n 3, 1) := by decide +kernel
theorem dX7_share_36 : decode cX7_share 36 = .ok (.aload_n 0, 1) := by decide +kernel
theorem dX7_share_37 : decode cX7_share 37 = .ok (.getfield 69, 3) := by decide +kernel
theorem dX7_share_40 : decode cX7_share 40 = .ok (.iload_n 1, 1) := by decide +kernel
theorem dX7_share_41 : decode cX7_share 41 = .ok (.aload_n 0, 1) := by decide +kernel
theorem dX7_share_42 : decode cX7_share 42 = .ok (.getfield 16, 3) := by decide +kernel
theorem dX7_share_45 : decode cX7_share 45 = .ok (.getfield 92, 3) := by decide +kernel
theorem dX7_share_48 : decode cX7_share 48 = .ok (.invokevirtual 187, 3) := by decide +kernel
theorem dX7_share_51 : decode cX7_share 51 = .ok (.iload_n 3, 1) := by decide +kernel
theorem dX7_share_52 : decode cX7_share 52 = .ok (.bipush 60, 2) := by decide +kernel
theorem dX7_share_54 : decode cX7_share 54 = .ok (.imul, 1) := by decide +kernel
theorem dX7_share_55 : decode cX7_share 55 = .ok (.iload_n 2, 1) := by decide +kernel
theorem dX7_share_56 : decode cX7_share 56 = .ok (.invokestatic 131, 3) := by decide +kernel
theorem dX7_share_59 : decode cX7_share 59 = .ok (.ireturn, 1) := by decide +kernel
theorem dX7_see_0 : decode cX7_see 0 = .ok (.aload_n 0, 1) := by decide +kernel
theorem dX7_see_1 : decode cX7_see 1 = .ok (.getfield 16, 3) := by decide +kernel
theorem dX7_see_4 : decode cX7_see 4 = .ok (.iload_n 1, 1) := by decide +kernel
theorem dX7_see_5 : decode cX7_see 5 = .ok (.invokevirtual 112, 3) := by decide +kernel
