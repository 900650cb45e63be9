theorem dX4_setsOf_45 : decode cX4_setsOf 45 = .ok (.goto (-41), 3) := by decide +kernel
theorem dX4_setsOf_48 : decode cX4_setsOf 48 = .ok (.iload_n 2, 1) := by decide +kernel
theorem dX4_setsOf_49 : decode cX4_setsOf 49 = .ok (.ireturn, 1) := by decide +kernel
theorem dX5_init_0 : decode cX5_init 0 = .ok (.aload_n 0, 1) := by decide +kernel
theorem dX5_init_1 : decode cX5_init 1 = .ok (.invokespecial 1, 3) := by decide +kernel
theorem dX5_init_4 : decode cX5_init 4 = .ok (.aload_n 0, 1) := by decide +kernel
theorem dX5_init_5 : decode cX5_init 5 = .ok (.iload_n 1, 1) := by decide +kernel
theorem dX5_init_6 : decode cX5_init 6 = .ok (.iconst 0, 1) := by decide +kernel
theorem dX5_init_7 : decode cX5_init 7 = .ok (.invokestatic 7, 3) := by decide +kernel
theorem dX5_init_10 : decode cX5_init 10 = .ok (.newarray .int, 2) := by decide +kernel
theorem dX5_init_12 : decode cX5_init 12 = .ok (.putfield 13, 3) := by decide +kernel
theorem dX5_init_15 : decode cX5_init 15 = .ok (.return_, 1) := by decide +kernel
theorem dX5_at_0 : decode cX5_at 0 = .ok (.iload_n 1, 1) := by decide +kernel
theorem dX5_at_1 : decode cX5_at 1 = .ok (.ifCond .lt 21, 3) := by decide +kernel
theorem dX5_at_4 : decode cX5_at 4 = .ok (.iload_n 1, 1) := by decide +kernel
theorem dX5_at_5 : decode cX5_at 5 = .ok (.aload_n 0, 1) := by decide +kernel
theorem dX5_at_6 : decode cX5_at 6 = .ok (.getfield 13, 3) := by decide +kernel
theorem dX5_at_9 : decode cX5_at 9 = .ok (.arraylength, 1) := by decide +kernel
theorem dX5_at_10 : decode cX5_at 10 = .ok (.if_icmp .ge 12, 3) := by decide +kernel
theorem dX5_at_13 : decode cX5_at 13 = .ok (.aload_n 0, 1) := by decide +kernel
theorem dX5_at_14 : decode cX5_at 14 = .ok (.getfield 13, 3) := by decide +kernel
theorem dX5_at_17 : decode cX5_at 17 = .ok (.iload_n 1, 1) := by decide +kernel
theorem dX5_at_18 : decode cX5_at 18 = .ok (.iaload, 1) := by decide +kernel
theorem dX5_at_19 : decode cX5_at 19 = .ok (.goto 4, 3) := by decide +kernel
theorem dX5_at_22 : decode cX5_at 22 = .ok (.iconst 0, 1) := by decide +kernel
theorem dX5_at_23 : decode cX5_at 23 = .ok (.ireturn, 1) := by decide +kernel
theorem dX5_put_0 : decode cX5_put 0 = .ok (.iload_n 1, 1) := by decide +kernel
theorem dX5_put_1 : decode cX5_put 1 = .ok (.ifCond .lt 19, 3) := by decide +kernel
theorem dX5_put_4 : decode cX5_put 4 = .ok (.iload_n 1, 1) := by decide +kernel
theorem dX5_put_5 : decode cX5_put 5 = .ok (.aload_n 0, 1) := by decide +kernel
theorem dX5_put_6 : decode cX5_put 6 = .ok (.getfield 13, 3) := by decide +kernel
theorem dX5_put_9 : decode cX5_put 9 = .ok (.arraylength, 1) := by decide +kernel
theorem dX5_put_10 : decode cX5_put 10 = .ok (.if_icmp .ge 10, 3) := by decide +kernel
theorem dX5_put_13 : decode cX5_put 13 = .ok (.aload_n 0, 1) := by decide +kernel
theorem dX5_put_14 : decode cX5_put 14 = .ok (.getfield 13, 3) := by decide +kernel
theorem dX5_put_17 : decode cX5_put 17 = .ok (.iload_n 1, 1) := by decide +kernel
theorem dX5_put_18 : decode cX5_put 18 = .ok (.iload_n 2, 1) := by decide +kernel
theorem dX5_put_19 : decode cX5_put 19 = .ok (.iastore, 1) := by decide +kernel
theorem dX5_put_20 : decode cX5_put 20 = .ok (.return_, 1) := by decide +kernel
theorem dX5_fillFrom_0 : decode cX5_fillFrom 0 = .ok (.iconst 0, 1) := by decide +kernel
theorem dX5_fillFrom_1 : decode cX5_fillFrom 1 = .ok (.istore_n 2, 1) := by decide +kernel
theorem dX5_fillFrom_2 : decode cX5_fillFrom 2 = .ok (.iload_n 2, 1) := by decide +kernel
theorem dX5_fillFrom_3 : decode cX5_fillFrom 3 = .ok (.aload_n 0, 1) := by decide +kernel
theorem dX5_fillFrom_4 : decode cX5_fillFrom 4 = .ok (.getfield 13, 3) := by decide +kernel
theorem dX5_fillFrom_7 : decode cX5_fillFrom 7 = .ok (.arraylength, 1) := by decide +kernel
theorem dX5_fillFrom_8 : decode cX5_fillFrom 8 = .ok (.if_icmp .ge 19, 3) := by decide +kernel
theorem dX5_fillFrom_11 : decode cX5_fillFrom 11 = .ok (.aload_n 0, 1) := by decide +kernel
theorem dX5_fillFrom_12 : decode cX5_fillFrom 12 = .ok (.iload_n 2, 1) := by decide +kernel
theorem dX5_fillFrom_13 : decode cX5_fillFrom 13 = .ok (.aload_n 1, 1) := by decide +kernel
theorem dX5_fillFrom_14 : decode cX5_fillFrom 14 = .ok (.iload_n 2, 1) := by decide +kernel
theorem dX5_fillFrom_15 : decode cX5_fillFrom 15 = .ok (.invokevirtual 19, 3) := by decide +kernel
theorem dX5_fillFrom_18 : decode cX5_fillFrom 18 = .ok (.invokevirtual 23, 3) := by decide +kernel
theorem dX5_fillFrom_21 : decode cX5_fillFrom 21 = .ok (.iinc 2 1, 3) := by decide +kernel
theorem dX5_fillFrom_24 : decode cX5_fillFrom 24 = .ok (.goto (-22), 3) := by decide +kernel
theorem dX5_fillFrom_27 : decode cX5_fillFrom 27 = .ok (.return_, 1) := by decide +kernel
theorem dX6_init_0 : decode cX6_init 0 = .ok (.aload_n 0, 1) := by decide +kernel
theorem dX6_init_1 : decode cX6_init 1 = .ok (.invokespecial 3, 3) := by decide +kernel
theorem dX6_init_4 : decode cX6_init 4 = .ok (.aload_n 0, 1) := by decide +kernel
theorem dX6_init_5 : decode cX6_init 5 = .ok (.new 9, 3) := by decide +kernel
theorem dX6_init_8 : decode cX6_init 8 = .ok (.dup, 1) := by decide +kernel
theorem dX6_init_9 : decode cX6_init 9 = .ok (.bipush 90, 2) := by decide +kernel
theorem dX6_init_11 : decode cX6_init 11 = .ok (.invokespecial 11, 3) := by decide +kernel
theorem dX6_init_14 : decode cX6_init 14 = .ok (.putfield 14, 3) := by decide +kernel
theorem dX6_init_17 : decode cX6_init 17 = .ok (.return_, 1) := by decide +kernel
theorem dX6_append_0 : decode cX6_append 0 = .ok (.aload_n 0, 1) := by decide +kernel
theorem dX6_append_1 : decode cX6_append 1 = .ok (.getfield 14, 3) := by decide +kernel
theorem dX6_append_4 : decode cX6_append 4 = .ok (.aload_n 0, 1) := by decide +kernel
theorem dX6_append_5 : decode cX6_append 5 = .ok (.getfield 20, 3) := by decide +kernel
theorem dX6_append_8 : decode cX6_append 8 = .ok (.iload_n 1, 1) := by decide +kernel
theorem dX6_append_9 : decode cX6_append 9 = .ok (.invokevirtual 24, 3) := by decide +kernel
theorem dX6_append_12 : decode cX6_append 12 = .ok (.aload_n 0, 1) := by decide +kernel
theorem dX6_append_13 : decode cX6_append 13 = .ok (.dup, 1) := by decide +kernel
theorem dX6_append_14 : decode cX6_append 14 = .ok (.getfield 20, 3) := by decide +kernel
theorem dX6_append_17 : decode cX6_append 17 = .ok (.iconst 1, 1) := by decide +kernel
theorem dX6_append_18 : decode cX6_append 18 = .ok (.iadd, 1) := by decide +kernel
theorem dX6_append_19 : decode cX6_append 19 = .ok (.putfield 20, 3) := by decide +kernel
theorem dX6_append_22 : decode cX6_append 22 = .ok (.return_, 1) := by decide +kernel
theorem dX6_tell_0 : decode cX6_tell 0 = .ok (.aload_n 1, 1) := by decide +kernel
theorem dX6_tell_1 : decode cX6_tell 1 = .ok (.iconst 0, 1) := by decide +kernel
theorem dX6_tell_2 : decode cX6_tell 2 = .ok (.putfield 28, 3) := by decide +kernel
theorem dX6_tell_5 : decode cX6_tell 5 = .ok (.aload_n 1, 1) := by decide +kernel
theorem dX6_tell_6 : decode cX6_tell 6 = .ok (.iconst 0, 1) := by decide +kernel
theorem dX6_tell_7 : decode cX6_tell 7 = .ok (.putfield 33, 3) := by decide +kernel
theorem dX6_tell_10 : decode cX6_tell 10 = .ok (.iconst 0, 1) := by decide +kernel
theorem dX6_tell_11 : decode cX6_tell 11 = .ok (.istore_n 2, 1) := by decide +kernel
theorem dX6_tell_12 : decode cX6_tell 12 = .ok (.iconst 0, 1) := by decide +kernel
theorem dX6_tell_13 : decode cX6_tell 13 = .ok (.istore_n 3, 1) := by decide +kernel
theorem dX6_tell_14 : decode cX6_tell 14 = .ok (.iconst 0, 1) := by decide +kernel
theorem dX6_tell_15 : decode cX6_tell 15 = .ok (.istore 4, 2) := by decide +kernel
theorem dX6_tell_17 : decode cX6_tell 17 = .ok (.iload 4, 2) := by decide +kernel
theorem dX6_tell_19 : decode cX6_tell 19 = .ok (.aload_n 0, 1) := by decide +kernel
theorem dX6_tell_20 : decode cX6_tell 20 = .ok (.getfield 20, 3) := by decide +kernel
theorem dX6_tell_23 : decode cX6_tell 23 = .ok (.if_icmp .ge 120, 3) := by decide +kernel
theorem dX6_tell_26 : decode cX6_tell 26 = .ok (.aload_n 0, 1) := by decide +kernel
theorem dX6_tell_27 : decode cX6_tell 27 = .ok (.getfield 14, 3) := by decide +kernel
theorem dX6_tell_30 : decode cX6_tell 30 = .ok (.iload 4, 2) := by decide +kernel
theorem dX6_tell_32 : decode cX6_tell 32 = .ok (.invokevirtual 36, 3) := by decide +kernel
theorem dX6_tell_35 : decode cX6_tell 35 = .ok (.istore 5, 2) := by decide +kernel
theorem dX6_tell_37 : decode cX6_tell 37 = .ok (.iload 5, 2) := by decide +kernel
theorem dX6_tell_39 : decode cX6_tell 39 = .ok (.bipush 32, 2) := by decide +kernel
theorem dX6_tell_41 : decode cX6_tell 41 = .ok (.if_icmp .ne 6, 3) := by decide +kernel
theorem dX6_tell_44 : decode cX6_tell 44 = .ok (.goto 93, 3) := by decide +kernel
theorem dX6_tell_47 : decode cX6_tell 47 = .ok (.iload_n 2, 1) := by decide +kernel
theorem dX6_tell_48 : decode cX6_tell 48 = .ok (.ifCond .ne 29, 3) := by decide +kernel
theorem dX6_tell_51 : decode cX6_tell 51 = .ok (.iload 5, 2) := by decide +kernel
theorem dX6_tell_53 : decode cX6_tell 53 = .ok (.bipush 109, 2) := by decide +kernel
theorem dX6_tell_55 : decode cX6_tell 55 = .ok (.if_icmp .ne 12, 3) := by decide +kernel
theorem dX6_tell_58 : decode cX6_tell 58 = .ok (.aload_n 1, 1) := by decide +kernel
theorem dX6_tell_59 : decode cX6_tell 59 = .ok (.getfield 28, 3) := by decide +kernel
theorem dX6_tell_62 : decode cX6_tell 62 = .ok (.bipush 6, 2) := by decide +kernel
theorem dX6_tell_64 : decode cX6_tell 64 = .ok (.if_icmp .lt 6, 3) := by decide +kernel
theorem dX6_tell_67 : decode cX6_tell 67 = .ok (.iload 4, 2) := by decide +kernel
theorem dX6_tell_69 : decode cX6_tell 69 = .ok (.ireturn, 1) := by decide +kernel
theorem dX6_tell_70 : decode cX6_tell 70 = .ok (.iconst 1, 1) := by decide +kernel
theorem dX6_tell_71 : decode cX6_tell 71 = .ok (.istore_n 2, 1) := by decide +kernel
theorem dX6_tell_72 : decode cX6_tell 72 = .ok (.iconst 0, 1) := by decide +kernel
theorem dX6_tell_73 : decode cX6_tell 73 = .ok (.istore_n 3, 1) := by decide +kernel
theorem dX6_tell_74 : decode cX6_tell 74 = .ok (.goto 63, 3) := by decide +kernel
theorem dX6_tell_77 : decode cX6_tell 77 = .ok (.iload 5, 2) := by decide +kernel
theorem dX6_tell_79 : decode cX6_tell 79 = .ok (.bipush 59, 2) := by decide +kernel
theorem dX6_tell_81 : decode cX6_tell 81 = .ok (.if_icmp .ne 19, 3) := by decide +kernel
theorem dX6_tell_84 : decode cX6_tell 84 = .ok (.aload_n 1, 1) := by decide +kernel
theorem dX6_tell_85 : decode cX6_tell 85 = .ok (.iload_n 3, 1) := by decide +kernel
theorem dX6_tell_86 : decode cX6_tell 86 = .ok (.invokestatic 40, 3) := by decide +kernel
theorem dX6_tell_89 : decode cX6_tell 89 = .ok (.ifCond .ne 6, 3) := by decide +kernel
theorem dX6_tell_92 : decode cX6_tell 92 = .ok (.iload 4, 2) := by decide +kernel
theorem dX6_tell_94 : decode cX6_tell 94 = .ok (.ireturn, 1) := by decide +kernel
theorem dX6_tell_95 : decode cX6_tell 95 = .ok (.iconst 0, 1) := by decide +kernel
theorem dX6_tell_96 : decode cX6_tell 96 = .ok (.istore_n 2, 1) := by decide +kernel
theorem dX6_tell_97 : decode cX6_tell 97 = .ok (.goto 40, 3) := by decide +kernel
theorem dX6_tell_100 : decode cX6_tell 100 = .ok (.iload 5, 2) := by decide +kernel
theorem dX6_tell_102 : decode cX6_tell 102 = .ok (.invokestatic 44, 3) := by decide +kernel
theorem dX6_tell_105 : decode cX6_tell 105 = .ok (.istore 6, 2) := by decide +kernel
theorem dX6_tell_107 : decode cX6_tell 107 = .ok (.iload 6, 2) := by decide +kernel
theorem dX6_tell_109 : decode cX6_tell 109 = .ok (.ifCond .lt 11, 3) := by decide +kernel
theorem dX6_tell_112 : decode cX6_tell 112 = .ok (.iload_n 3, 1) := by decide +kernel
theorem dX6_tell_113 : decode cX6_tell 113 = .ok (.aload_n 1, 1) := by decide +kernel
theorem dX6_tell_114 : decode cX6_tell 114 = .ok (.invokestatic 47, 3) := by decide +kernel
theorem dX6_tell_117 : decode cX6_tell 117 = .ok (.if_icmp .lt 6, 3) := by decide +kernel
theorem dX6_tell_120 : decode cX6_tell 120 = .ok (.iload 4, 2) := by decide +kernel
theorem dX6_tell_122 : decode cX6_tell 122 = .ok (.ireturn, 1) := by decide +kernel
theorem dX6_tell_123 : decode cX6_tell 123 = .ok (.aload_n 1, 1) := by decide +kernel
theorem dX6_tell_124 : decode cX6_tell 124 = .ok (.aload_n 1, 1) := by decide +kernel
theorem dX6_tell_125 : decode cX6_tell 125 = .ok (.getfield 28, 3) := by decide +kernel
theorem dX6_tell_128 : decode cX6_tell 128 = .ok (.iload_n 3, 1) := by decide +kernel
theorem dX6_tell_129 : decode cX6_tell 129 = .ok (.iload 6, 2) := by decide +kernel
theorem dX6_tell_131 : decode cX6_tell 131 = .ok (.invokevirtual 51, 3) := by decide +kernel
theorem dX6_tell_134 : decode cX6_tell 134 = .ok (.iinc 3 1, 3) := by decide +kernel
theorem dX6_tell_137 : decode cX6_tell 137 = .ok (.iinc 4 1, 3) := by decide +kernel
theorem dX6_tell_140 : decode cX6_tell 140 = .ok (.goto (-123), 3) := by decide +kernel
theorem dX6_tell_143 : decode cX6_tell 143 = .ok (.iload_n 2, 1) := by decide +kernel
theorem dX6_tell_144 : decode cX6_tell 144 = .ok (.ifCond .eq 10, 3) := by decide +kernel
theorem dX6_tell_147 : decode cX6_tell 147 = .ok (.aload_n 0, 1) := by decide +kernel
theorem dX6_tell_148 : decode cX6_tell 148 = .ok (.getfield 20, 3) := by decide +kernel
theorem dX6_tell_151 : decode cX6_tell 151 = .ok (.goto 4, 3) := by decide +kernel
theorem dX6_tell_154 : decode cX6_tell 154 = .ok (.iconst (-1), 1) := by decide +kernel
theorem dX6_tell_155 : decode cX6_tell 155 = .ok (.ireturn, 1) := by decide +kernel
theorem dX6_mostReadings_0 : decode cX6_mostReadings 0 = .ok (.aload_n 0, 1) := by decide +kernel
theorem dX6_mostReadings_1 : decode cX6_mostReadings 1 = .ok (.getfield 28, 3) := by decide +kernel
theorem dX6_mostReadings_4 : decode cX6_mostReadings 4 = .ok (.ifCond .ne 8, 3) := by decide +kernel
theorem dX6_mostReadings_7 : decode cX6_mostReadings 7 = .ok (.bipush 8, 2) := by decide +kernel
theorem dX6_mostReadings_9 : decode cX6_mostReadings 9 = .ok (.goto 7, 3) := by decide +kernel
theorem dX6_mostReadings_12 : decode cX6_mostReadings 12 = .ok (.aload_n 0, 1) := by decide +kernel
theorem dX6_mostReadings_13 : decode cX6_mostReadings 13 = .ok (.getfield 33, 3) := by decide +kernel
theorem dX6_mostReadings_16 : decode cX6_mostReadings 16 = .ok (.ireturn, 1) := by decide +kernel
theorem dX6_endItem_0 : decode cX6_endItem 0 = .ok (.iload_n 1, 1) := by decide +kernel
theorem dX6_endItem_1 : decode cX6_endItem 1 = .ok (.iconst 1, 1) := by decide +kernel
theorem dX6_endItem_2 : decode cX6_endItem 2 = .ok (.if_icmp .lt 18, 3) := by decide +kernel
theorem dX6_endItem_5 : decode cX6_endItem 5 = .ok (.aload_n 0, 1) := by decide +kernel
theorem dX6_endItem_6 : decode cX6_endItem 6 = .ok (.getfield 28, 3) := by decide +kernel
theorem dX6_endItem_9 : decode cX6_endItem 9 = .ok (.ifCond .le 13, 3) := by decide +kernel
theorem dX6_endItem_12 : decode cX6_endItem 12 = .ok (.iload_n 1, 1) := by decide +kernel
theorem dX6_endItem_13 : decode cX6_endItem 13 = .ok (.aload_n 0, 1) := by decide +kernel
theorem dX6_endItem_14 : decode cX6_endItem 14 = .ok (.getfield 33, 3) := by decide +kernel
theorem dX6_endItem_17 : decode cX6_endItem 17 = .ok (.if_icmp .ge 5, 3) := by decide +kernel
theorem dX6_endItem_20 : decode cX6_endItem 20 = .ok (.iconst 0, 1) := by decide +kernel
theorem dX6_endItem_21 : decode cX6_endItem 21 = .ok (.ireturn, 1) := by decide +kernel
theorem dX6_endItem_22 : decode cX6_endItem 22 = .ok (.aload_n 0, 1) := by decide +kernel
theorem dX6_endItem_23 : decode cX6_endItem 23 = .ok (.iload_n 1, 1) := by decide +kernel
theorem dX6_endItem_24 : decode cX6_endItem 24 = .ok (.putfield 33, 3) := by decide +kernel
theorem dX6_endItem_27 : decode cX6_endItem 27 = .ok (.aload_n 0, 1) := by decide +kernel
theorem dX6_endItem_28 : decode cX6_endItem 28 = .ok (.dup, 1) := by decide +kernel
theorem dX6_endItem_29 : decode cX6_endItem 29 = .ok (.getfield 28, 3) := by decide +kernel
theorem dX6_endItem_32 : decode cX6_endItem 32 = .ok (.iconst 1, 1) := by decide +kernel
theorem dX6_endItem_33 : decode cX6_endItem 33 = .ok (.iadd, 1) := by decide +kernel
theorem dX6_endItem_34 : decode cX6_endItem 34 = .ok (.putfield 28, 3) := by decide +kernel
theorem dX6_endItem_37 : decode cX6_endItem 37 = .ok (.iconst 1, 1) := by decide +kernel
theorem dX6_endItem_38 : decode cX6_endItem 38 = .ok (.ireturn, 1) := by decide +kernel
theorem dX6_readingFor_0 : decode cX6_readingFor 0 = .ok (.iload_n 0, 1) := by decide +kernel
theorem dX6_readingFor_1 : decode cX6_readingFor 1 = .ok (.bipush 63, 2) := by decide +kernel
theorem dX6_readingFor_3 : decode cX6_readingFor 3 = .ok (.if_icmp .ne 5, 3) := by decide +kernel
theorem dX6_readingFor_6 : decode cX6_readingFor 6 = .ok (.iconst 4, 1) := by decide +kernel
theorem dX6_readingFor_7 : decode cX6_readingFor 7 = .ok (.ireturn, 1) := by decide +kernel
theorem dX6_readingFor_8 : decode cX6_readingFor 8 = .ok (.iload_n 0, 1) := by decide +kernel
theorem dX6_readingFor_9 : decode cX6_readingFor 9 = .ok (.bipush 97, 2) := by decide +kernel
theorem dX6_readingFor_11 : decode cX6_readingFor 11 = .ok (.if_icmp .lt 16, 3) := by decide +kernel
theorem dX6_readingFor_14 : decode cX6_readingFor 14 = .ok (.iload_n 0, 1) := by decide +kernel
theorem dX6_readingFor_15 : decode cX6_readingFor 15 = .ok (.bipush 100, 2) := by decide +kernel
theorem dX6_readingFor_17 : decode cX6_readingFor 17 = .ok (.if_icmp .gt 10, 3) := by decide +kernel
theorem dX6_readingFor_20 : decode cX6_readingFor 20 = .ok (.iload_n 0, 1) := by decide +kernel
theorem dX6_readingFor_21 : decode cX6_readingFor 21 = .ok (.bipush 97, 2) := by decide +kernel
theorem dX6_readingFor_23 : decode cX6_readingFor 23 = .ok (.isub, 1) := by decide +kernel
theorem dX6_readingFor_24 : decode cX6_readingFor 24 = .ok (.goto 4, 3) := by decide +kernel
theorem dX6_readingFor_27 : decode cX6_readingFor 27 = .ok (.iconst (-1), 1) := by decide +kernel
theorem dX6_readingFor_28 : decode cX6_readingFor 28 = .ok (.ireturn, 1) := by decide +kernel
theorem dX7_init_0 : decode cX7_init 0 = .ok (.aload_n 0, 1) := by decide +kernel
theorem dX7_init_1 : decode cX7_init 1 = .ok (.invokespecial 3, 3) := by decide +kernel
theorem dX7_init_4 : decode cX7_init 4 = .ok (.aload_n 0, 1) := by decide +kernel
theorem dX7_init_5 : decode cX7_init 5 = .ok (.new 9, 3) := by decide +kernel
theorem dX7_init_8 : decode cX7_init 8 = .ok (.dup, 1) := by decide +kernel
theorem dX7_init_9 : decode cX7_init 9 = .ok (.bipush 9, 2) := by decide +kernel
theorem dX7_init_11 : decode cX7_init 11 = .ok (.invokespecial 11, 3) := by decide +kernel
theorem dX7_init_14 : decode cX7_init 14 = .ok (.putfield 14, 3) := by decide +kernel
theorem dX7_init_17 : decode cX7_init 17 = .ok (.aload_n 0, 1) := by decide +kernel
theorem dX7_init_18 : decode cX7_init 18 = .ok (.new 9, 3) := by decide +kernel
theorem dX7_init_21 : decode cX7_init 21 = .ok (.dup, 1) := by decide +kernel
theorem dX7_init_22 : decode cX7_init 22 = .ok (.bipush 9, 2) := by decide +kernel
theorem dX7_init_24 : decode cX7_init 24 = .ok (.invokespecial 11, 3) := by decide +kernel
theorem dX7_init_27 : decode cX7_init 27 = .ok (.putfield 20, 3) := by decide +kernel
theorem dX7_init_30 : decode cX7_init 30 = .ok (.return_, 1) := by decide +kernel
theorem dX7_weightOf_0 : decode cX7_weightOf 0 = .ok (.iload_n 0, 1) := by decide +kernel
theorem dX7_weightOf_1 : decode cX7_weightOf 1 = .ok (.iconst 3, 1) := by decide +kernel
theorem dX7_weightOf_2 : decode cX7_weightOf 2 = .ok (.if_icmp .ne 7, 3) := by decide +kernel
theorem dX7_weightOf_5 : decode cX7_weightOf 5 = .ok (.iconst 1, 1) := by decide +kernel
theorem dX7_weightOf_6 : decode cX7_weightOf 6 = .ok (.goto 14, 3) := by decide +kernel
theorem dX7_weightOf_9 : decode cX7_weightOf 9 = .ok (.iload_n 0, 1) := by decide +kernel
theorem dX7_weightOf_10 : decode cX7_weightOf 10 = .ok (.iconst 4, 1) := by decide +kernel
theorem dX7_weightOf_11 : decode cX7_weightOf 11 = .ok (.if_icmp .ne 7, 3) := by decide +kernel
theorem dX7_weightOf_14 : decode cX7_weightOf 14 = .ok (.iconst 3, 1) := by decide +kernel
theorem dX7_weightOf_15 : decode cX7_weightOf 15 = .ok (.goto 5, 3) := by decide +kernel
theorem dX7_weightOf_18 : decode cX7_weightOf 18 = .ok (.bipush 15, 2) := by decide +kernel
theorem dX7_weightOf_20 : decode cX7_weightOf 20 = .ok (.ireturn, 1) := by decide +kernel
theorem dX7_edgeOf_0 : decode cX7_edgeOf 0 = .ok (.iload_n 1, 1) := by decide +kernel
theorem dX7_edgeOf_1 : decode cX7_edgeOf 1 = .ok (.iconst 3, 1) := by decide +kernel
theorem dX7_edgeOf_2 : decode cX7_edgeOf 2 = .ok (.if_icmp .ne 9, 3) := by decide +kernel
theorem dX7_edgeOf_5 : decode cX7_edgeOf 5 = .ok (.iload_n 0, 1) := by decide +kernel
theorem dX7_edgeOf_6 : decode cX7_edgeOf 6 = .ok (.iconst 3, 1) := by decide +kernel
theorem dX7_edgeOf_7 : decode cX7_edgeOf 7 = .ok (.irem, 1) := by decide +kernel
theorem dX7_edgeOf_8 : decode cX7_edgeOf 8 = .ok (.goto 20, 3) := by decide +kernel
theorem dX7_edgeOf_11 : decode cX7_edgeOf 11 = .ok (.iload_n 1, 1) := by decide +kernel
theorem dX7_edgeOf_12 : decode cX7_edgeOf 12 = .ok (.iconst 4, 1) := by decide +kernel
theorem dX7_edgeOf_13 : decode cX7_edgeOf 13 = .ok (.if_icmp .ne 11, 3) := by decide +kernel
theorem dX7_edgeOf_16 : decode cX7_edgeOf 16 = .ok (.iload_n 0, 1) := by decide +kernel
theorem dX7_edgeOf_17 : decode cX7_edgeOf 17 = .ok (.iconst 3, 1) := by decide +kernel
theorem dX7_edgeOf_18 : decode cX7_edgeOf 18 = .ok (.idiv, 1) := by decide +kernel
theorem dX7_edgeOf_19 : decode cX7_edgeOf 19 = .ok (.iconst 5, 1) := by decide +kernel
theorem dX7_edgeOf_20 : decode cX7_edgeOf 20 = .ok (.irem, 1) := by decide +kernel
theorem dX7_edgeOf_21 : decode cX7_edgeOf 21 = .ok (.goto 7, 3) := by decide +kernel
theorem dX7_edgeOf_24 : decode cX7_edgeOf 24 = .ok (.iload_n 0, 1) := by decide +kernel
theorem dX7_edgeOf_25 : decode cX7_edgeOf 25 = .ok (.bipush 15, 2) := by decide +kernel
theorem dX7_edgeOf_27 : decode cX7_edgeOf 27 = .ok (.idiv, 1) := by decide +kernel
theorem dX7_edgeOf_28 : decode cX7_edgeOf 28 = .ok (.ireturn, 1) := by decide +kernel
theorem dX7_grow_0 : decode cX7_grow 0 = .ok (.aload_n 0, 1) := by decide +kernel
theorem dX7_grow_1 : decode cX7_grow 1 = .ok (.iconst 0, 1) := by decide +kernel
theorem dX7_grow_2 : decode cX7_grow 2 = .ok (.putfield 23, 3) := by decide +kernel
theorem dX7_grow_5 : decode cX7_grow 5 = .ok (.iload_n 2, 1) := by decide +kernel
theorem dX7_grow_6 : decode cX7_grow 6 = .ok (.iconst 2, 1) := by decide +kernel
theorem dX7_grow_7 : decode cX7_grow 7 = .ok (.if_icmp .ne 9, 3) := by decide +kernel
theorem dX7_grow_10 : decode cX7_grow 10 = .ok (.aload_n 0, 1) := by decide +kernel
theorem dX7_grow_11 : decode cX7_grow 11 = .ok (.iconst 0, 1) := by decide +kernel
theorem dX7_grow_12 : decode cX7_grow 12 = .ok (.iconst 1, 1) := by decide +kernel
theorem dX7_grow_13 : decode cX7_grow 13 = .ok (.invokevirtual 27, 3) := by decide +kernel
theorem dX7_grow_16 : decode cX7_grow 16 = .ok (.iload_n 2, 1) := by decide +kernel
theorem dX7_grow_17 : decode cX7_grow 17 = .ok (.iconst 3, 1) := by decide +kernel
theorem dX7_grow_18 : decode cX7_grow 18 = .ok (.if_icmp .ge 4, 3) := by decide +kernel
theorem dX7_grow_21 : decode cX7_grow 21 = .ok (.return_, 1) := by decide +kernel
theorem dX7_grow_22 : decode cX7_grow 22 = .ok (.iconst 0, 1) := by decide +kernel
theorem dX7_grow_23 : decode cX7_grow 23 = .ok (.istore_n 3, 1) := by decide +kernel
theorem dX7_grow_24 : decode cX7_grow 24 = .ok (.iload_n 3, 1) := by decide +kernel
theorem dX7_grow_25 : decode cX7_grow 25 = .ok (.iconst 3, 1) := by decide +kernel
theorem dX7_grow_26 : decode cX7_grow 26 = .ok (.if_icmp .ge 16, 3) := by decide +kernel
theorem dX7_grow_29 : decode cX7_grow 29 = .ok (.aload_n 0, 1) := by decide +kernel
theorem dX7_grow_30 : decode cX7_grow 30 = .ok (.iload_n 3, 1) := by decide +kernel
theorem dX7_grow_31 : decode cX7_grow 31 = .ok (.bipush 6, 2) := by decide +kernel
theorem dX7_grow_33 : decode cX7_grow 33 = .ok (.invokevirtual 27, 3) := by decide +kernel
theorem dX7_grow_36 : decode cX7_grow 36 = .ok (.iinc 3 1, 3) := by decide +kernel
theorem dX7_grow_39 : decode cX7_grow 39 = .ok (.goto (-15), 3) := by decide +kernel
theorem dX7_grow_42 : decode cX7_grow 42 = .ok (.iconst 3, 1) := by decide +kernel
theorem dX7_grow_43 : decode cX7_grow 43 = .ok (.istore_n 3, 1) := by decide +kernel
theorem dX7_grow_44 : decode cX7_grow 44 = .ok (.iload_n 3, 1) := by decide +kernel
theorem dX7_grow_45 : decode cX7_grow 45 = .ok (.iload_n 2, 1) := by decide +kernel
theorem dX7_grow_46 : decode cX7_grow 46 = .ok (.if_icmp .ge 19, 3) := by decide +kernel
theorem dX7_grow_49 : decode cX7_grow 49 = .ok (.aload_n 0, 1) := by decide +kernel
theorem dX7_grow_50 : decode cX7_grow 50 = .ok (.iload_n 3, 1) := by decide +kernel
theorem dX7_grow_51 : decode cX7_grow 51 = .ok (.iload_n 1, 1) := by decide +kernel
theorem dX7_grow_52 : decode cX7_grow 52 = .ok (.iload_n 3, 1) := by decide +kernel
theorem dX7_grow_53 : decode cX7_grow 53 = .ok (.invokestatic 31, 3) := by decide +kernel
theorem dX7_grow_56 : decode cX7_grow 56 = .ok (.invokevirtual 35, 3) := by decide +kernel
theorem dX7_grow_59 : decode cX7_grow 59 = .ok (.iinc 3 1, 3) := by decide +kernel
theorem dX7_grow_62 : decode cX7_grow 62 = .ok (.goto (-18), 3) := by decide +kernel
theorem dX7_grow_65 : decode cX7_grow 65 = .ok (.return_, 1) := by decide +kernel
theorem dX7_hang_0 : decode cX7_hang 0 = .ok (.bipush 6, 2) := by decide +kernel
theorem dX7_hang_2 : decode cX7_hang 2 = .ok (.iload_n 1, 1) := by decide +kernel
theorem dX7_hang_3 : decode cX7_hang 3 = .ok (.iadd, 1) := by decide +kernel
theorem dX7_hang_4 : decode cX7_hang 4 = .ok (.iconst 2, 1) := by decide +kernel
theorem dX7_hang_5 : decode cX7_hang 5 = .ok (.isub, 1) := by decide +kernel
theorem dX7_hang_6 : decode cX7_hang 6 = .ok (.istore_n 3, 1) := by decide +kernel
theorem dX7_hang_7 : decode cX7_hang 7 = .ok (.aload_n 0, 1) := by decide +kernel
theorem dX7_hang_8 : decode cX7_hang 8 = .ok (.getfield 20, 3) := by decide +kernel
theorem dX7_hang_11 : decode cX7_hang 11 = .ok (.iload_n 2, 1) := by decide +kernel
theorem dX7_hang_12 : decode cX7_hang 12 = .ok (.invokevirtual 38, 3) := by decide +kernel
theorem dX7_hang_15 : decode cX7_hang 15 = .ok (.istore 4, 2) := by decide +kernel
theorem dX7_hang_17 : decode cX7_hang 17 = .ok (.aload_n 0, 1) := by decide +kernel
theorem dX7_hang_18 : decode cX7_hang 18 = .ok (.getfield 20, 3) := by decide +kernel
theorem dX7_hang_21 : decode cX7_hang 21 = .ok (.iload_n 2, 1) := by decide +kernel
theorem dX7_hang_22 : decode cX7_hang 22 = .ok (.iload_n 3, 1) := by decide +kernel
theorem dX7_hang_23 : decode cX7_hang 23 = .ok (.invokevirtual 42, 3) := by decide +kernel
theorem dX7_hang_26 : decode cX7_hang 26 = .ok (.aload_n 0, 1) := by decide +kernel
theorem dX7_hang_27 : decode cX7_hang 27 = .ok (.iload_n 3, 1) := by decide +kernel
theorem dX7_hang_28 : decode cX7_hang 28 = .ok (.iload 4, 2) := by decide +kernel
theorem dX7_hang_30 : decode cX7_hang 30 = .ok (.invokevirtual 27, 3) := by decide +kernel
theorem dX7_hang_33 : decode cX7_hang 33 = .ok (.aload_n 0, 1) := by decide +kernel
theorem dX7_hang_34 : decode cX7_hang 34 = .ok (.iload_n 3, 1) := by decide +kernel
theorem dX7_hang_35 : decode cX7_hang 35 = .ok (.iload_n 1, 1) := by decide +kernel
theorem dX7_hang_36 : decode cX7_hang 36 = .ok (.invokevirtual 27, 3) := by decide +kernel
theorem dX7_hang_39 : decode cX7_hang 39 = .ok (.return_, 1) := by decide +kernel
theorem dX7_addEdge_0 : decode cX7_addEdge 0 = .ok (.aload_n 0, 1) := by decide +kernel
theorem dX7_addEdge_1 : decode cX7_addEdge 1 = .ok (.getfield 14, 3) := by decide +kernel
theorem dX7_addEdge_4 : decode cX7_addEdge 4 = .ok (.aload_n 0, 1) := by decide +kernel
theorem dX7_addEdge_5 : decode cX7_addEdge 5 = .ok (.getfield 23, 3) := by decide +kernel
theorem dX7_addEdge_8 : decode cX7_addEdge 8 = .ok (.iload_n 1, 1) := by decide +kernel
theorem dX7_addEdge_9 : decode cX7_addEdge 9 = .ok (.invokevirtual 42, 3) := by decide +kernel
theorem dX7_addEdge_12 : decode cX7_addEdge 12 = .ok (.aload_n 0, 1) := by decide +kernel
theorem dX7_addEdge_13 : decode cX7_addEdge 13 = .ok (.getfield 20, 3) := by decide +kernel
theorem dX7_addEdge_16 : decode cX7_addEdge 16 = .ok (.aload_n 0, 1) := by decide +kernel
theorem dX7_addEdge_17 : decode cX7_addEdge 17 = .ok (.getfield 23, 3) := by decide +kernel
theorem dX7_addEdge_20 : decode cX7_addEdge 20 = .ok (.iload_n 2, 1) := by decide +kernel
theorem dX7_addEdge_21 : decode cX7_addEdge 21 = .ok (.invokevirtual 42, 3) := by decide +kernel
theorem dX7_addEdge_24 : decode cX7_addEdge 24 = .ok (.aload_n 0, 1) := by decide +kernel
theorem dX7_addEdge_25 : decode cX7_addEdge 25 = .ok (.dup, 1) := by decide +kernel
theorem dX7_addEdge_26 : decode cX7_addEdge 26 = .ok (.getfield 23, 3) := by decide +kernel
theorem dX7_addEdge_29 : decode cX7_addEdge 29 = .ok (.iconst 1, 1) := by decide +kernel
theorem dX7_addEdge_30 : decode cX7_addEdge 30 = .ok (.iadd, 1) := by decide +kernel
theorem dX7_addEdge_31 : decode cX7_addEdge 31 = .ok (.putfield 23, 3) := by decide +kernel
theorem dX7_addEdge_34 : decode cX7_addEdge 34 = .ok (.return_, 1) := by decide +kernel
theorem dX8_init_0 : decode cX8_init 0 = .ok (.aload_n 0, 1) := by decide +kernel
theorem dX8_init_1 : decode cX8_init 1 = .ok (.invokespecial 3, 3) := by decide +kernel
theorem dX8_init_4 : decode cX8_init 4 = .ok (.aload_n 0, 1) := by decide +kernel
theorem dX8_init_5 : decode cX8_init 5 = .ok (.new 9, 3) := by decide +kernel
theorem dX8_init_8 : decode cX8_init 8 = .ok (.dup, 1) := by decide +kernel
theorem dX8_init_9 : decode cX8_init 9 = .ok (.invokespecial 11, 3) := by decide +kernel
theorem dX8_init_12 : decode cX8_init 12 = .ok (.putfield 12, 3) := by decide +kernel
theorem dX8_init_15 : decode cX8_init 15 = .ok (.aload_n 0, 1) := by decide +kernel
theorem dX8_init_16 : decode cX8_init 16 = .ok (.new 16, 3) := by decide +kernel
theorem dX8_init_19 : decode cX8_init 19 = .ok (.dup, 1) := by decide +kernel
theorem dX8_init_20 : decode cX8_init 20 = .ok (.invokespecial 18, 3) := by decide +kernel
theorem dX8_init_23 : decode cX8_init 23 = .ok (.putfield 19, 3) := by decide +kernel
theorem dX8_init_26 : decode cX8_init 26 = .ok (.aload_n 0, 1) := by decide +kernel
theorem dX8_init_27 : decode cX8_init 27 = .ok (.new 16, 3) := by decide +kernel
theorem dX8_init_30 : decode cX8_init 30 = .ok (.dup, 1) := by decide +kernel
theorem dX8_init_31 : decode cX8_init 31 = .ok (.invokespecial 18, 3) := by decide +kernel
theorem dX8_init_34 : decode cX8_init 34 = .ok (.putfield 23, 3) := by decide +kernel
theorem dX8_init_37 : decode cX8_init 37 = .ok (.aload_n 0, 1) := by decide +kernel
theorem dX8_init_38 : decode cX8_init 38 = .ok (.new 26, 3) := by decide +kernel
theorem dX8_init_41 : decode cX8_init 41 = .ok (.dup, 1) := by decide +kernel
theorem dX8_init_42 : decode cX8_init 42 = .ok (.invokespecial 28, 3) := by decide +kernel
theorem dX8_init_45 : decode cX8_init 45 = .ok (.putfield 29, 3) := by decide +kernel
theorem dX8_init_48 : decode cX8_init 48 = .ok (.aload_n 0, 1) := by decide +kernel
theorem dX8_init_49 : decode cX8_init 49 = .ok (.new 33, 3) := by decide +kernel
theorem dX8_init_52 : decode cX8_init 52 = .ok (.dup, 1) := by decide +kernel
theorem dX8_init_53 : decode cX8_init 53 = .ok (.invokespecial 35, 3) := by decide +kernel
theorem dX8_init_56 : decode cX8_init 56 = .ok (.putfield 36, 3) := by decide +kernel
theorem dX8_init_59 : decode cX8_init 59 = .ok (.aload_n 0, 1) := by decide +kernel
theorem dX8_init_60 : decode cX8_init 60 = .ok (.new 33, 3) := by decide +kernel
theorem dX8_init_63 : decode cX8_init 63 = .ok (.dup, 1) := by decide +kernel
theorem dX8_init_64 : decode cX8_init 64 = .ok (.invokespecial 35, 3) := by decide +kernel
theorem dX8_init_67 : decode cX8_init 67 = .ok (.putfield 40, 3) := by decide +kernel
theorem dX8_init_70 : decode cX8_init 70 = .ok (.aload_n 0, 1) := by decide +kernel
theorem dX8_init_71 : decode cX8_init 71 = .ok (.new 43, 3) := by decide +kernel
theorem dX8_init_74 : decode cX8_init 74 = .ok (.dup, 1) := by decide +kernel
theorem dX8_init_75 : decode cX8_init 75 = .ok (.bipush 6, 2) := by decide +kernel
theorem dX8_init_77 : decode cX8_init 77 = .ok (.invokespecial 45, 3) := by decide +kernel
theorem dX8_init_80 : decode cX8_init 80 = .ok (.putfield 48, 3) := by decide +kernel
theorem dX8_init_83 : decode cX8_init 83 = .ok (.aload_n 0, 1) := by decide +kernel
theorem dX8_init_84 : decode cX8_init 84 = .ok (.new 52, 3) := by decide +kernel
theorem dX8_init_87 : decode cX8_init 87 = .ok (.dup, 1) := by decide +kernel
theorem dX8_init_88 : decode cX8_init 88 = .ok (.invokespecial 54, 3) := by decide +kernel
theorem dX8_init_91 : decode cX8_init 91 = .ok (.putfield 55, 3) := by decide +kernel
theorem dX8_init_94 : decode cX8_init 94 = .ok (.aload_n 0, 1) := by decide +kernel
theorem dX8_init_95 : decode cX8_init 95 = .ok (.new 59, 3) := by decide +kernel
theorem dX8_init_98 : decode cX8_init 98 = .ok (.dup, 1) := by decide +kernel
theorem dX8_init_99 : decode cX8_init 99 = .ok (.invokespecial 61, 3) := by decide +kernel
theorem dX8_init_102 : decode cX8_init 102 = .ok (.putfield 62, 3) := by decide +kernel
theorem dX8_init_105 : decode cX8_init 105 = .ok (.aload_n 0, 1) := by decide +kernel
theorem dX8_init_106 : decode cX8_init 106 = .ok (.new 43, 3) := by decide +kernel
theorem dX8_init_109 : decode cX8_init 109 = .ok (.dup, 1) := by decide +kernel
theorem dX8_init_110 : decode cX8_init 110 = .ok (.bipush 6, 2) := by decide +kernel
theorem dX8_init_112 : decode cX8_init 112 = .ok (.invokespecial 45, 3) := by decide +kernel
theorem dX8_init_115 : decode cX8_init 115 = .ok (.putfield 66, 3) := by decide +kernel
theorem dX8_init_118 : decode cX8_init 118 = .ok (.aload_n 0, 1) := by decide +kernel
theorem dX8_init_119 : decode cX8_init 119 = .ok (.new 43, 3) := by decide +kernel
theorem dX8_init_122 : decode cX8_init 122 = .ok (.dup, 1) := by decide +kernel
theorem dX8_init_123 : decode cX8_init 123 = .ok (.bipush 105, 2) := by decide +kernel
theorem dX8_init_125 : decode cX8_init 125 = .ok (.invokespecial 45, 3) := by decide +kernel
theorem dX8_init_128 : decode cX8_init 128 = .ok (.putfield 69, 3) := by decide +kernel
theorem dX8_init_131 : decode cX8_init 131 = .ok (.aload_n 0, 1) := by decide +kernel
theorem dX8_init_132 : decode cX8_init 132 = .ok (.new 43, 3) := by decide +kernel
theorem dX8_init_135 : decode cX8_init 135 = .ok (.dup, 1) := by decide +kernel
theorem dX8_init_136 : decode cX8_init 136 = .ok (.bipush 49, 2) := by decide +kernel
theorem dX8_init_138 : decode cX8_init 138 = .ok (.invokespecial 45, 3) := by decide +kernel
theorem dX8_init_141 : decode cX8_init 141 = .ok (.putfield 72, 3) := by decide +kernel
theorem dX8_init_144 : decode cX8_init 144 = .ok (.aload_n 0, 1) := by decide +kernel
theorem dX8_init_145 : decode cX8_init 145 = .ok (.new 75, 3) := by decide +kernel
theorem dX8_init_148 : decode cX8_init 148 = .ok (.dup, 1) := by decide +kernel
theorem dX8_init_149 : decode cX8_init 149 = .ok (.invokespecial 77, 3) := by decide +kernel
theorem dX8_init_152 : decode cX8_init 152 = .ok (.putfield 78, 3) := by decide +kernel
theorem dX8_init_155 : decode cX8_init 155 = .ok (.return_, 1) := by decide +kernel
theorem dX8_type_0 : decode cX8_type 0 = .ok (.iload_n 1, 1) := by decide +kernel
theorem dX8_type_1 : decode cX8_type 1 = .ok (.ifCond .lt 10, 3) := by decide +kernel
theorem dX8_type_4 : decode cX8_type 4 = .ok (.iload_n 1, 1) := by decide +kernel
theorem dX8_type_5 : decode cX8_type 5 = .ok (.sipush 255, 3) := by decide +kernel
theorem dX8_type_8 : decode cX8_type 8 = .ok (.if_icmp .le 5, 3) := by decide +kernel
theorem dX8_type_11 : decode cX8_type 11 = .ok (.iconst (-1), 1) := by decide +kernel
theorem dX8_type_12 : decode cX8_type 12 = .ok (.ireturn, 1) := by decide +kernel
theorem dX8_type_13 : decode cX8_type 13 = .ok (.aload_n 0, 1) := by decide +kernel
theorem dX8_type_14 : decode cX8_type 14 = .ok (.getfield 12, 3) := by decide +kernel
theorem dX8_type_17 : decode cX8_type 17 = .ok (.getfield 82, 3) := by decide +kernel
theorem dX8_type_20 : decode cX8_type 20 = .ok (.bipush 90, 2) := by decide +kernel
theorem dX8_type_22 : decode cX8_type 22 = .ok (.if_icmp .lt 6, 3) := by decide +kernel
theorem dX8_type_25 : decode cX8_type 25 = .ok (.bipush (-3), 2) := by decide +kernel
theorem dX8_type_27 : decode cX8_type 27 = .ok (.ireturn, 1) := by decide +kernel
theorem dX8_type_28 : decode cX8_type 28 = .ok (.aload_n 0, 1) := by decide +kernel
theorem dX8_type_29 : decode cX8_type 29 = .ok (.getfield 12, 3) := by decide +kernel
theorem dX8_type_32 : decode cX8_type 32 = .ok (.iload_n 1, 1) := by decide +kernel
theorem dX8_type_33 : decode cX8_type 33 = .ok (.invokevirtual 86, 3) := by decide +kernel
theorem dX8_type_36 : decode cX8_type 36 = .ok (.aload_n 0, 1) := by decide +kernel
theorem dX8_type_37 : decode cX8_type 37 = .ok (.getfield 12, 3) := by decide +kernel
theorem dX8_type_40 : decode cX8_type 40 = .ok (.getfield 82, 3) := by decide +kernel
theorem dX8_type_43 : decode cX8_type 43 = .ok (.ireturn, 1) := by decide +kernel
theorem dX8_clear_0 : decode cX8_clear 0 = .ok (.aload_n 0, 1) := by decide +kernel
theorem dX8_clear_1 : decode cX8_clear 1 = .ok (.getfield 12, 3) := by decide +kernel
theorem dX8_clear_4 : decode cX8_clear 4 = .ok (.getfield 82, 3) := by decide +kernel
theorem dX8_clear_7 : decode cX8_clear 7 = .ok (.istore_n 1, 1) := by decide +kernel
theorem dX8_clear_8 : decode cX8_clear 8 = .ok (.aload_n 0, 1) := by decide +kernel
theorem dX8_clear_9 : decode cX8_clear 9 = .ok (.getfield 12, 3) := by decide +kernel
theorem dX8_clear_12 : decode cX8_clear 12 = .ok (.iconst 0, 1) := by decide +kernel
theorem dX8_clear_13 : decode cX8_clear 13 = .ok (.putfield 82, 3) := by decide +kernel
theorem dX8_clear_16 : decode cX8_clear 16 = .ok (.iload_n 1, 1) := by decide +kernel
theorem dX8_clear_17 : decode cX8_clear 17 = .ok (.ireturn, 1) := by decide +kernel
theorem dX8_copies_0 : decode cX8_copies 0 = .ok (.aload_n 0, 1) := by decide +kernel
theorem dX8_copies_1 : decode cX8_copies 1 = .ok (.getfield 12, 3) := by decide +kernel
theorem dX8_copies_4 : decode cX8_copies 4 = .ok (.aload_n 0, 1) := by decide +kernel
theorem dX8_copies_5 : decode cX8_copies 5 = .ok (.getfield 23, 3) := by decide +kernel
theorem dX8_copies_8 : decode cX8_copies 8 = .ok (.invokevirtual 89, 3) := by decide +kernel
theorem dX8_copies_11 : decode cX8_copies 11 = .ok (.istore_n 1, 1) := by decide +kernel
theorem dX8_copies_12 : decode cX8_copies 12 = .ok (.iload_n 1, 1) := by decide +kernel
theorem dX8_copies_13 : decode cX8_copies 13 = .ok (.iconst (-1), 1) := by decide +kernel
theorem dX8_copies_14 : decode cX8_copies 14 = .ok (.if_icmp .eq 8, 3) := by decide +kernel
theorem dX8_copies_17 : decode cX8_copies 17 = .ok (.bipush (-10), 2) := by decide +kernel
theorem dX8_copies_19 : decode cX8_copies 19 = .ok (.iload_n 1, 1) := by decide +kernel
theorem dX8_copies_20 : decode cX8_copies 20 = .ok (.isub, 1) := by decide +kernel
theorem dX8_copies_21 : decode cX8_copies 21 = .ok (.ireturn, 1) := by decide +kernel
theorem dX8_copies_22 : decode cX8_copies 22 = .ok (.aload_n 0, 1) := by decide +kernel
theorem dX8_copies_23 : decode cX8_copies 23 = .ok (.getfield 19, 3) := by decide +kernel
theorem dX8_copies_26 : decode cX8_copies 26 = .ok (.aload_n 0, 1) := by decide +kernel
theorem dX8_copies_27 : decode cX8_copies 27 = .ok (.getfield 23, 3) := by decide +kernel
theorem dX8_copies_30 : decode cX8_copies 30 = .ok (.invokevirtual 93, 3) := by decide +kernel
theorem dX8_copies_33 : decode cX8_copies 33 = .ok (.aload_n 0, 1) := by decide +kernel
theorem dX8_copies_34 : decode cX8_copies 34 = .ok (.getfield 12, 3) := by decide +kernel
theorem dX8_copies_37 : decode cX8_copies 37 = .ok (.iconst 0, 1) := by decide +kernel
theorem dX8_copies_38 : decode cX8_copies 38 = .ok (.putfield 82, 3) := by decide +kernel
theorem dX8_copies_41 : decode cX8_copies 41 = .ok (.aload_n 0, 1) := by decide +kernel
theorem dX8_copies_42 : decode cX8_copies 42 = .ok (.iconst 0, 1) := by decide +kernel
theorem dX8_copies_43 : decode cX8_copies 43 = .ok (.putfield 97, 3) := by decide +kernel
theorem dX8_copies_46 : decode cX8_copies 46 = .ok (.aload_n 0, 1) := by decide +kernel
theorem dX8_copies_47 : decode cX8_copies 47 = .ok (.getfield 29, 3) := by decide +kernel
theorem dX8_copies_50 : decode cX8_copies 50 = .ok (.iconst 0, 1) := by decide +kernel
theorem dX8_copies_51 : decode cX8_copies 51 = .ok (.putfield 100, 3) := by decide +kernel
theorem dX8_copies_54 : decode cX8_copies 54 = .ok (.aload_n 0, 1) := by decide +kernel
theorem dX8_copies_55 : decode cX8_copies 55 = .ok (.iconst 0, 1) := by decide +kernel
theorem dX8_copies_56 : decode cX8_copies 56 = .ok (.putfield 103, 3) := by decide +kernel
theorem dX8_copies_59 : decode cX8_copies 59 = .ok (.aload_n 0, 1) := by decide +kernel
theorem dX8_copies_60 : decode cX8_copies 60 = .ok (.getfield 36, 3) := by decide +kernel
theorem dX8_copies_63 : decode cX8_copies 63 = .ok (.iconst 0, 1) := by decide +kernel
theorem dX8_copies_64 : decode cX8_copies 64 = .ok (.putfield 106, 3) := by decide +kernel
theorem dX8_copies_67 : decode cX8_copies 67 = .ok (.aload_n 0, 1) := by decide +kernel
theorem dX8_copies_68 : decode cX8_copies 68 = .ok (.getfield 40, 3) := by decide +kernel
theorem dX8_copies_71 : decode cX8_copies 71 = .ok (.iconst 0, 1) := by decide +kernel
theorem dX8_copies_72 : decode cX8_copies 72 = .ok (.putfield 106, 3) := by decide +kernel
theorem dX8_copies_75 : decode cX8_copies 75 = .ok (.aload_n 0, 1) := by decide +kernel
theorem dX8_copies_76 : decode cX8_copies 76 = .ok (.iconst 0, 1) := by decide +kernel
theorem dX8_copies_77 : decode cX8_copies 77 = .ok (.putfield 110, 3) := by decide +kernel
theorem dX8_copies_80 : decode cX8_copies 80 = .ok (.aload_n 0, 1) := by decide +kernel
theorem dX8_copies_81 : decode cX8_copies 81 = .ok (.getfield 19, 3) := by decide +kernel
theorem dX8_copies_84 : decode cX8_copies 84 = .ok (.getfield 113, 3) := by decide +kernel
theorem dX8_copies_87 : decode cX8_copies 87 = .ok (.ireturn, 1) := by decide +kernel
theorem dX8_reading_0 : decode cX8_reading 0 = .ok (.aload_n 0, 1) := by decide +kernel
theorem dX8_reading_1 : decode cX8_reading 1 = .ok (.getfield 19, 3) := by decide +kernel
theorem dX8_reading_4 : decode cX8_reading 4 = .ok (.iload_n 1, 1) := by decide +kernel
theorem dX8_reading_5 : decode cX8_reading 5 = .ok (.iload_n 2, 1) := by decide +kernel
theorem dX8_reading_6 : decode cX8_reading 6 = .ok (.invokevirtual 116, 3) := by decide +kernel
theorem dX8_reading_9 : decode cX8_reading 9 = .ok (.ifCond .ne 5, 3) := by decide +kernel
theorem dX8_reading_12 : decode cX8_reading 12 = .ok (.iconst (-1), 1) := by decide +kernel
theorem dX8_reading_13 : decode cX8_reading 13 = .ok (.ireturn, 1) := by decide +kernel
theorem dX8_reading_14 : decode cX8_reading 14 = .ok (.aload_n 0, 1) := by decide +kernel
theorem dX8_reading_15 : decode cX8_reading 15 = .ok (.getfield 19, 3) := by decide +kernel
theorem dX8_reading_18 : decode cX8_reading 18 = .ok (.iload_n 1, 1) := by decide +kernel
theorem dX8_reading_19 : decode cX8_reading 19 = .ok (.iload_n 2, 1) := by decide +kernel
theorem dX8_reading_20 : decode cX8_reading 20 = .ok (.invokevirtual 120, 3) := by decide +kernel
theorem dX8_reading_23 : decode cX8_reading 23 = .ok (.istore_n 3, 1) := by decide +kernel
theorem dX8_reading_24 : decode cX8_reading 24 = .ok (.iload_n 3, 1) := by decide +kernel
theorem dX8_reading_25 : decode cX8_reading 25 = .ok (.iconst 4, 1) := by decide +kernel
theorem dX8_reading_26 : decode cX8_reading 26 = .ok (.if_icmp .ne 8, 3) := by decide +kernel
theorem dX8_reading_29 : decode cX8_reading 29 = .ok (.bipush (-9), 2) := by decide +kernel
theorem dX8_reading_31 : decode cX8_reading 31 = .ok (.goto 4, 3) := by decide +kernel
theorem dX8_reading_34 : decode cX8_reading 34 = .ok (.iload_n 3, 1) := by decide +kernel
theorem dX8_reading_35 : decode cX8_reading 35 = .ok (.ireturn, 1) := by decide +kernel
theorem dX8_reads_0 : decode cX8_reads 0 = .ok (.aload_n 0, 1) := by decide +kernel
theorem dX8_reads_1 : decode cX8_reads 1 = .ok (.getfield 19, 3) := by decide +kernel
theorem dX8_reads_4 : decode cX8_reads 4 = .ok (.iload_n 1, 1) := by decide +kernel
theorem dX8_reads_5 : decode cX8_reads 5 = .ok (.iload_n 2, 1) := by decide +kernel
theorem dX8_reads_6 : decode cX8_reads 6 = .ok (.invokevirtual 116, 3) := by decide +kernel
theorem dX8_reads_9 : decode cX8_reads 9 = .ok (.ifCond .eq 12, 3) := by decide +kernel
theorem dX8_reads_12 : decode cX8_reads 12 = .ok (.iload_n 3, 1) := by decide +kernel
theorem dX8_reads_13 : decode cX8_reads 13 = .ok (.ifCond .lt 8, 3) := by decide +kernel
theorem dX8_reads_16 : decode cX8_reads 16 = .ok (.iload_n 3, 1) := by decide +kernel
theorem dX8_reads_17 : decode cX8_reads 17 = .ok (.iconst 4, 1) := by decide +kernel
theorem dX8_reads_18 : decode cX8_reads 18 = .ok (.if_icmp .le 5, 3) := by decide +kernel
theorem dX8_reads_21 : decode cX8_reads 21 = .ok (.iconst (-1), 1) := by decide +kernel
theorem dX8_reads_22 : decode cX8_reads 22 = .ok (.ireturn, 1) := by decide +kernel
theorem dX8_reads_23 : decode cX8_reads 23 = .ok (.aload_n 0, 1) := by decide +kernel
theorem dX8_reads_24 : decode cX8_reads 24 = .ok (.getfield 19, 3) := by decide +kernel
theorem dX8_reads_27 : decode cX8_reads 27 = .ok (.iload_n 1, 1) := by decide +kernel
theorem dX8_reads_28 : decode cX8_reads 28 = .ok (.iload_n 2, 1) := by decide +kernel
theorem dX8_reads_29 : decode cX8_reads 29 = .ok (.invokevirtual 120, 3) := by decide +kernel
theorem dX8_reads_32 : decode cX8_reads 32 = .ok (.istore 4, 2) := by decide +kernel
theorem dX8_reads_34 : decode cX8_reads 34 = .ok (.iload 4, 2) := by decide +kernel
theorem dX8_reads_36 : decode cX8_reads 36 = .ok (.iload_n 3, 1) := by decide +kernel
theorem dX8_reads_37 : decode cX8_reads 37 = .ok (.if_icmp .ne 6, 3) := by decide +kernel
theorem dX8_reads_40 : decode cX8_reads 40 = .ok (.bipush (-2), 2) := by decide +kernel
theorem dX8_reads_42 : decode cX8_reads 42 = .ok (.ireturn, 1) := by decide +kernel
theorem dX8_reads_43 : decode cX8_reads 43 = .ok (.aload_n 0, 1) := by decide +kernel
theorem dX8_reads_44 : decode cX8_reads 44 = .ok (.getfield 29, 3) := by decide +kernel
theorem dX8_reads_47 : decode cX8_reads 47 = .ok (.aload_n 0, 1) := by decide +kernel
theorem dX8_reads_48 : decode cX8_reads 48 = .ok (.getfield 19, 3) := by decide +kernel
theorem dX8_reads_51 : decode cX8_reads 51 = .ok (.iload_n 1, 1) := by decide +kernel
theorem dX8_reads_52 : decode cX8_reads 52 = .ok (.iload_n 2, 1) := by decide +kernel
theorem dX8_reads_53 : decode cX8_reads 53 = .ok (.invokevirtual 124, 3) := by decide +kernel
theorem dX8_reads_56 : decode cX8_reads 56 = .ok (.iload 4, 2) := by decide +kernel
theorem dX8_reads_58 : decode cX8_reads 58 = .ok (.invokevirtual 127, 3) := by decide +kernel
theorem dX8_reads_61 : decode cX8_reads 61 = .ok (.aload_n 0, 1) := by decide +kernel
theorem dX8_reads_62 : decode cX8_reads 62 = .ok (.getfield 19, 3) := by decide +kernel
theorem dX8_reads_65 : decode cX8_reads 65 = .ok (.iload_n 1, 1) := by decide +kernel
theorem dX8_reads_66 : decode cX8_reads 66 = .ok (.iload_n 2, 1) := by decide +kernel
theorem dX8_reads_67 : decode cX8_reads 67 = .ok (.iload_n 3, 1) := by decide +kernel
theorem dX8_reads_68 : decode cX8_reads 68 = .ok (.invokevirtual 131, 3) := by decide +kernel
theorem dX8_reads_71 : decode cX8_reads 71 = .ok (.aload_n 0, 1) := by decide +kernel
theorem dX8_reads_72 : decode cX8_reads 72 = .ok (.iconst 0, 1) := by decide +kernel
theorem dX8_reads_73 : decode cX8_reads 73 = .ok (.putfield 110, 3) := by decide +kernel
theorem dX8_reads_76 : decode cX8_reads 76 = .ok (.iload 4, 2) := by decide +kernel
theorem dX8_reads_78 : decode cX8_reads 78 = .ok (.ireturn, 1) := by decide +kernel
theorem dX8_chooses_0 : decode cX8_chooses 0 = .ok (.aload_n 0, 1) := by decide +kernel
theorem dX8_chooses_1 : decode cX8_chooses 1 = .ok (.iload_n 1, 1) := by decide +kernel
theorem dX8_chooses_2 : decode cX8_chooses 2 = .ok (.invokevirtual 135, 3) := by decide +kernel
theorem dX8_chooses_5 : decode cX8_chooses 5 = .ok (.ifCond .ne 5, 3) := by decide +kernel
theorem dX8_chooses_8 : decode cX8_chooses 8 = .ok (.iconst (-1), 1) := by decide +kernel
theorem dX8_chooses_9 : decode cX8_chooses 9 = .ok (.ireturn, 1) := by decide +kernel
theorem dX8_chooses_10 : decode cX8_chooses 10 = .ok (.iload_n 1, 1) := by decide +kernel
theorem dX8_chooses_11 : decode cX8_chooses 11 = .ok (.aload_n 0, 1) := by decide +kernel
theorem dX8_chooses_12 : decode cX8_chooses 12 = .ok (.getfield 97, 3) := by decide +kernel
theorem dX8_chooses_15 : decode cX8_chooses 15 = .ok (.if_icmp .ne 6, 3) := by decide +kernel
theorem dX8_chooses_18 : decode cX8_chooses 18 = .ok (.bipush (-2), 2) := by decide +kernel
theorem dX8_chooses_20 : decode cX8_chooses 20 = .ok (.ireturn, 1) := by decide +kernel
theorem dX8_chooses_21 : decode cX8_chooses 21 = .ok (.aload_n 0, 1) := by decide +kernel
theorem dX8_chooses_22 : decode cX8_chooses 22 = .ok (.getfield 97, 3) := by decide +kernel
theorem dX8_chooses_25 : decode cX8_chooses 25 = .ok (.istore_n 2, 1) := by decide +kernel
theorem dX8_chooses_26 : decode cX8_chooses 26 = .ok (.aload_n 0, 1) := by decide +kernel
theorem dX8_chooses_27 : decode cX8_chooses 27 = .ok (.iload_n 1, 1) := by decide +kernel
theorem dX8_chooses_28 : decode cX8_chooses 28 = .ok (.invokevirtual 139, 3) := by decide +kernel
theorem dX8_chooses_31 : decode cX8_chooses 31 = .ok (.iload_n 2, 1) := by decide +kernel
theorem dX8_chooses_32 : decode cX8_chooses 32 = .ok (.ireturn, 1) := by decide +kernel
theorem dX8_betters_0 : decode cX8_betters 0 = .ok (.aload_n 0, 1) := by decide +kernel
theorem dX8_betters_1 : decode cX8_betters 1 = .ok (.invokevirtual 142, 3) := by decide +kernel
theorem dX8_betters_4 : decode cX8_betters 4 = .ok (.aload_n 0, 1) := by decide +kernel
theorem dX8_betters_5 : decode cX8_betters 5 = .ok (.invokevirtual 145, 3) := by decide +kernel
theorem dX8_betters_8 : decode cX8_betters 8 = .ok (.istore_n 1, 1) := by decide +kernel
theorem dX8_betters_9 : decode cX8_betters 9 = .ok (.iload_n 1, 1) := by decide +kernel
theorem dX8_betters_10 : decode cX8_betters 10 = .ok (.aload_n 0, 1) := by decide +kernel
theorem dX8_betters_11 : decode cX8_betters 11 = .ok (.getfield 97, 3) := by decide +kernel
theorem dX8_betters_14 : decode cX8_betters 14 = .ok (.if_icmp .ne 6, 3) := by decide +kernel
theorem dX8_betters_17 : decode cX8_betters 17 = .ok (.bipush (-2), 2) := by decide +kernel
theorem dX8_betters_19 : decode cX8_betters 19 = .ok (.ireturn, 1) := by decide +kernel
theorem dX8_betters_20 : decode cX8_betters 20 = .ok (.aload_n 0, 1) := by decide +kernel
theorem dX8_betters_21 : decode cX8_betters 21 = .ok (.iload_n 1, 1) := by decide +kernel
theorem dX8_betters_22 : decode cX8_betters 22 = .ok (.invokevirtual 139, 3) := by decide +kernel
theorem dX8_betters_25 : decode cX8_betters 25 = .ok (.aload_n 0, 1) := by decide +kernel
theorem dX8_betters_26 : decode cX8_betters 26 = .ok (.getfield 97, 3) := by decide +kernel
theorem dX8_betters_29 : decode cX8_betters 29 = .ok (.ireturn, 1) := by decide +kernel
theorem dX8_undo_0 : decode cX8_undo 0 = .ok (.aload_n 0, 1) := by decide +kernel
theorem dX8_undo_1 : decode cX8_undo 1 = .ok (.getfield 29, 3) := by decide +kernel
theorem dX8_undo_4 : decode cX8_undo 4 = .ok (.getfield 100, 3) := by decide +kernel
theorem dX8_undo_7 : decode cX8_undo 7 = .ok (.iconst 1, 1) := by decide +kernel
theorem dX8_undo_8 : decode cX8_undo 8 = .ok (.if_icmp .ge 6, 3) := by decide +kernel
theorem dX8_undo_11 : decode cX8_undo 11 = .ok (.bipush (-2), 2) := by decide +kernel
theorem dX8_undo_13 : decode cX8_undo 13 = .ok (.ireturn, 1) := by decide +kernel
theorem dX8_undo_14 : decode cX8_undo 14 = .ok (.aload_n 0, 1) := by decide +kernel
theorem dX8_undo_15 : decode cX8_undo 15 = .ok (.getfield 29, 3) := by decide +kernel
theorem dX8_undo_18 : decode cX8_undo 18 = .ok (.dup, 1) := by decide +kernel
theorem dX8_undo_19 : decode cX8_undo 19 = .ok (.getfield 100, 3) := by decide +kernel
theorem dX8_undo_22 : decode cX8_undo 22 = .ok (.iconst 1, 1) := by decide +kernel
theorem dX8_undo_23 : decode cX8_undo 23 = .ok (.isub, 1) := by decide +kernel
theorem dX8_undo_24 : decode cX8_undo 24 = .ok (.putfield 100, 3) := by decide +kernel
theorem dX8_undo_27 : decode cX8_undo 27 = .ok (.aload_n 0, 1) := by decide +kernel
theorem dX8_undo_28 : decode cX8_undo 28 = .ok (.getfield 29, 3) := by decide +kernel
theorem dX8_undo_31 : decode cX8_undo 31 = .ok (.getfield 149, 3) := by decide +kernel
theorem dX8_undo_34 : decode cX8_undo 34 = .ok (.aload_n 0, 1) := by decide +kernel
theorem dX8_undo_35 : decode cX8_undo 35 = .ok (.getfield 29, 3) := by decide +kernel
theorem dX8_undo_38 : decode cX8_undo 38 = .ok (.getfield 100, 3) := by decide +kernel
theorem dX8_undo_41 : decode cX8_undo 41 = .ok (.invokevirtual 152, 3) := by decide +kernel
theorem dX8_undo_44 : decode cX8_undo 44 = .ok (.istore_n 1, 1) := by decide +kernel
theorem dX8_undo_45 : decode cX8_undo 45 = .ok (.aload_n 0, 1) := by decide +kernel
theorem dX8_undo_46 : decode cX8_undo 46 = .ok (.getfield 29, 3) := by decide +kernel
theorem dX8_undo_49 : decode cX8_undo 49 = .ok (.getfield 155, 3) := by decide +kernel
theorem dX8_undo_52 : decode cX8_undo 52 = .ok (.aload_n 0, 1) := by decide +kernel
theorem dX8_undo_53 : decode cX8_undo 53 = .ok (.getfield 29, 3) := by decide +kernel
theorem dX8_undo_56 : decode cX8_undo 56 = .ok (.getfield 100, 3) := by decide +kernel
theorem dX8_undo_59 : decode cX8_undo 59 = .ok (.invokevirtual 152, 3) := by decide +kernel
theorem dX8_undo_62 : decode cX8_undo 62 = .ok (.istore_n 2, 1) := by decide +kernel
theorem dX8_undo_63 : decode cX8_undo 63 = .ok (.iload_n 1, 1) := by decide +kernel
theorem dX8_undo_64 : decode cX8_undo 64 = .ok (.iconst (-1), 1) := by decide +kernel
theorem dX8_undo_65 : decode cX8_undo 65 = .ok (.if_icmp .ne 11, 3) := by decide +kernel
theorem dX8_undo_68 : decode cX8_undo 68 = .ok (.aload_n 0, 1) := by decide +kernel
theorem dX8_undo_69 : decode cX8_undo 69 = .ok (.iload_n 2, 1) := by decide +kernel
theorem dX8_undo_70 : decode cX8_undo 70 = .ok (.putfield 97, 3) := by decide +kernel
theorem dX8_undo_73 : decode cX8_undo 73 = .ok (.goto 20, 3) := by decide +kernel
theorem dX8_undo_76 : decode cX8_undo 76 = .ok (.aload_n 0, 1) := by decide +kernel
theorem dX8_undo_77 : decode cX8_undo 77 = .ok (.getfield 19, 3) := by decide +kernel
theorem dX8_undo_80 : decode cX8_undo 80 = .ok (.getfield 158, 3) := by decide +kernel
theorem dX8_undo_83 : decode cX8_undo 83 = .ok (.iload_n 1, 1) := by decide +kernel
theorem dX8_undo_84 : decode cX8_undo 84 = .ok (.iload_n 2, 1) := by decide +kernel
theorem dX8_undo_85 : decode cX8_undo 85 = .ok (.invokevirtual 159, 3) := by decide +kernel
theorem dX8_undo_88 : decode cX8_undo 88 = .ok (.aload_n 0, 1) := by decide +kernel
theorem dX8_undo_89 : decode cX8_undo 89 = .ok (.iconst 0, 1) := by decide +kernel
theorem dX8_undo_90 : decode cX8_undo 90 = .ok (.putfield 110, 3) := by decide +kernel
theorem dX8_undo_93 : decode cX8_undo 93 = .ok (.aload_n 0, 1) := by decide +kernel
theorem dX8_undo_94 : decode cX8_undo 94 = .ok (.getfield 29, 3) := by decide +kernel
theorem dX8_undo_97 : decode cX8_undo 97 = .ok (.getfield 100, 3) := by decide +kernel
theorem dX8_undo_100 : decode cX8_undo 100 = .ok (.ireturn, 1) := by decide +kernel
theorem dX8_changes_0 : decode cX8_changes 0 = .ok (.aload_n 0, 1) := by decide +kernel
theorem dX8_changes_1 : decode cX8_changes 1 = .ok (.iload_n 1, 1) := by decide +kernel
theorem dX8_changes_2 : decode cX8_changes 2 = .ok (.invokevirtual 135, 3) := by decide +kernel
theorem dX8_changes_5 : decode cX8_changes 5 = .ok (.ifCond .eq 19, 3) := by decide +kernel
theorem dX8_changes_8 : decode cX8_changes 8 = .ok (.iload_n 2, 1) := by decide +kernel
theorem dX8_changes_9 : decode cX8_changes 9 = .ok (.iconst (-1), 1) := by decide +kernel
theorem dX8_changes_10 : decode cX8_changes 10 = .ok (.if_icmp .eq 16, 3) := by decide +kernel
theorem dX8_changes_13 : decode cX8_changes 13 = .ok (.aload_n 0, 1) := by decide +kernel
theorem dX8_changes_14 : decode cX8_changes 14 = .ok (.getfield 19, 3) := by decide +kernel
theorem dX8_changes_17 : decode cX8_changes 17 = .ok (.iload_n 2, 1) := by decide +kernel
theorem dX8_changes_18 : decode cX8_changes 18 = .ok (.invokevirtual 161, 3) := by decide +kernel
theorem dX8_changes_21 : decode cX8_changes 21 = .ok (.ifCond .ne 5, 3) := by decide +kernel
theorem dX8_changes_24 : decode cX8_changes 24 = .ok (.iconst (-1), 1) := by decide +kernel
theorem dX8_changes_25 : decode cX8_changes 25 = .ok (.ireturn, 1) := by decide +kernel
theorem dX8_changes_26 : decode cX8_changes 26 = .ok (.aload_n 0, 1) := by decide +kernel
theorem dX8_changes_27 : decode cX8_changes 27 = .ok (.iload_n 2, 1) := by decide +kernel
theorem dX8_changes_28 : decode cX8_changes 28 = .ok (.invokevirtual 164, 3) := by decide +kernel
theorem dX8_changes_31 : decode cX8_changes 31 = .ok (.aload_n 0, 1) := by decide +kernel
theorem dX8_changes_32 : decode cX8_changes 32 = .ok (.iload_n 1, 1) := by decide +kernel
theorem dX8_changes_33 : decode cX8_changes 33 = .ok (.invokevirtual 167, 3) := by decide +kernel
theorem dX8_changes_36 : decode cX8_changes 36 = .ok (.ireturn, 1) := by decide +kernel
theorem dX8_directed_0 : decode cX8_directed 0 = .ok (.aload_n 0, 1) := by decide +kernel
theorem dX8_directed_1 : decode cX8_directed 1 = .ok (.iload_n 1, 1) := by decide +kernel
theorem dX8_directed_2 : decode cX8_directed 2 = .ok (.invokevirtual 135, 3) := by decide +kernel
theorem dX8_directed_5 : decode cX8_directed 5 = .ok (.ifCond .eq 21, 3) := by decide +kernel
theorem dX8_directed_8 : decode cX8_directed 8 = .ok (.iload_n 2, 1) := by decide +kernel
theorem dX8_directed_9 : decode cX8_directed 9 = .ok (.ifCond .lt 17, 3) := by decide +kernel
theorem dX8_directed_12 : decode cX8_directed 12 = .ok (.iload_n 2, 1) := by decide +kernel
theorem dX8_directed_13 : decode cX8_directed 13 = .ok (.aload_n 0, 1) := by decide +kernel
theorem dX8_directed_14 : decode cX8_directed 14 = .ok (.getfield 19, 3) := by decide +kernel
theorem dX8_directed_17 : decode cX8_directed 17 = .ok (.getfield 113, 3) := by decide +kernel
theorem dX8_directed_20 : decode cX8_directed 20 = .ok (.invokestatic 170, 3) := by decide +kernel
theorem dX8_directed_23 : decode cX8_directed 23 = .ok (.if_icmp .lt 5, 3) := by decide +kernel
theorem dX8_directed_26 : decode cX8_directed 26 = .ok (.iconst (-1), 1) := by decide +kernel
theorem dX8_directed_27 : decode cX8_directed 27 = .ok (.ireturn, 1) := by decide +kernel
theorem dX8_directed_28 : decode cX8_directed 28 = .ok (.aload_n 0, 1) := by decide +kernel
theorem dX8_directed_29 : decode cX8_directed 29 = .ok (.iconst (-1), 1) := by decide +kernel
theorem dX8_directed_30 : decode cX8_directed 30 = .ok (.invokevirtual 164, 3) := by decide +kernel
theorem dX8_directed_33 : decode cX8_directed 33 = .ok (.aload_n 0, 1) := by decide +kernel
theorem dX8_directed_34 : decode cX8_directed 34 = .ok (.getfield 55, 3) := by decide +kernel
theorem dX8_directed_37 : decode cX8_directed 37 = .ok (.iload_n 1, 1) := by decide +kernel
theorem dX8_directed_38 : decode cX8_directed 38 = .ok (.aload_n 0, 1) := by decide +kernel
theorem dX8_directed_39 : decode cX8_directed 39 = .ok (.getfield 19, 3) := by decide +kernel
theorem dX8_directed_42 : decode cX8_directed 42 = .ok (.getfield 113, 3) := by decide +kernel
theorem dX8_directed_45 : decode cX8_directed 45 = .ok (.invokevirtual 173, 3) := by decide +kernel
theorem dX8_directed_48 : decode cX8_directed 48 = .ok (.aload_n 0, 1) := by decide +kernel
theorem dX8_directed_49 : decode cX8_directed 49 = .ok (.iload_n 2, 1) := by decide +kernel
theorem dX8_directed_50 : decode cX8_directed 50 = .ok (.invokevirtual 176, 3) := by decide +kernel
theorem dX8_directed_53 : decode cX8_directed 53 = .ok (.ireturn, 1) := by decide +kernel
theorem dX8_root_0 : decode cX8_root 0 = .ok (.aload_n 0, 1) := by decide +kernel
theorem dX8_root_1 : decode cX8_root 1 = .ok (.iload_n 1, 1) := by decide +kernel
theorem dX8_root_2 : decode cX8_root 2 = .ok (.invokevirtual 135, 3) := by decide +kernel
theorem dX8_root_5 : decode cX8_root 5 = .ok (.ifCond .ne 5, 3) := by decide +kernel
theorem dX8_root_8 : decode cX8_root 8 = .ok (.iconst (-1), 1) := by decide +kernel
theorem dX8_root_9 : decode cX8_root 9 = .ok (.ireturn, 1) := by decide +kernel
theorem dX8_root_10 : decode cX8_root 10 = .ok (.aload_n 0, 1) := by decide +kernel
theorem dX8_root_11 : decode cX8_root 11 = .ok (.iconst (-1), 1) := by decide +kernel
theorem dX8_root_12 : decode cX8_root 12 = .ok (.invokevirtual 164, 3) := by decide +kernel
theorem dX8_root_15 : decode cX8_root 15 = .ok (.aload_n 0, 1) := by decide +kernel
theorem dX8_root_16 : decode cX8_root 16 = .ok (.getfield 55, 3) := by decide +kernel
theorem dX8_root_19 : decode cX8_root 19 = .ok (.iload_n 1, 1) := by decide +kernel
theorem dX8_root_20 : decode cX8_root 20 = .ok (.aload_n 0, 1) := by decide +kernel
theorem dX8_root_21 : decode cX8_root 21 = .ok (.getfield 19, 3) := by decide +kernel
theorem dX8_root_24 : decode cX8_root 24 = .ok (.getfield 113, 3) := by decide +kernel
theorem dX8_root_27 : decode cX8_root 27 = .ok (.invokevirtual 173, 3) := by decide +kernel
theorem dX8_root_30 : decode cX8_root 30 = .ok (.iconst 0, 1) := by decide +kernel
theorem dX8_root_31 : decode cX8_root 31 = .ok (.istore_n 2, 1) := by decide +kernel
theorem dX8_root_32 : decode cX8_root 32 = .ok (.bipush (-9), 2) := by decide +kernel
theorem dX8_root_34 : decode cX8_root 34 = .ok (.istore_n 3, 1) := by decide +kernel
theorem dX8_root_35 : decode cX8_root 35 = .ok (.iconst 0, 1) := by decide +kernel
theorem dX8_root_36 : decode cX8_root 36 = .ok (.istore 4, 2) := by decide +kernel
theorem dX8_root_38 : decode cX8_root 38 = .ok (.iload 4, 2) := by decide +kernel
theorem dX8_root_40 : decode cX8_root 40 = .ok (.aload_n 0, 1) := by decide +kernel
theorem dX8_root_41 : decode cX8_root 41 = .ok (.getfield 55, 3) := by decide +kernel
theorem dX8_root_44 : decode cX8_root 44 = .ok (.getfield 179, 3) := by decide +kernel
theorem dX8_root_47 : decode cX8_root 47 = .ok (.if_icmp .ge 35, 3) := by decide +kernel
theorem dX8_root_50 : decode cX8_root 50 = .ok (.aload_n 0, 1) := by decide +kernel
theorem dX8_root_51 : decode cX8_root 51 = .ok (.iload 4, 2) := by decide +kernel
theorem dX8_root_53 : decode cX8_root 53 = .ok (.invokevirtual 176, 3) := by decide +kernel
theorem dX8_root_56 : decode cX8_root 56 = .ok (.istore 5, 2) := by decide +kernel
theorem dX8_root_58 : decode cX8_root 58 = .ok (.iload_n 3, 1) := by decide +kernel
theorem dX8_root_59 : decode cX8_root 59 = .ok (.bipush (-9), 2) := by decide +kernel
theorem dX8_root_61 : decode cX8_root 61 = .ok (.if_icmp .eq 9, 3) := by decide +kernel
theorem dX8_root_64 : decode cX8_root 64 = .ok (.iload 5, 2) := by decide +kernel
theorem dX8_root_66 : decode cX8_root 66 = .ok (.iload_n 2, 1) := by decide +kernel
theorem dX8_root_67 : decode cX8_root 67 = .ok (.if_icmp .ge 9, 3) := by decide +kernel
theorem dX8_root_70 : decode cX8_root 70 = .ok (.iload 5, 2) := by decide +kernel
theorem dX8_root_72 : decode cX8_root 72 = .ok (.istore_n 2, 1) := by decide +kernel
theorem dX8_root_73 : decode cX8_root 73 = .ok (.iload 4, 2) := by decide +kernel
theorem dX8_root_75 : decode cX8_root 75 = .ok (.istore_n 3, 1) := by decide +kernel
theorem dX8_root_76 : decode cX8_root 76 = .ok (.iinc 4 1, 3) := by decide +kernel
