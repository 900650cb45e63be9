theorem dX0_init_0 : decode cX0_init 0 = .ok (.aload_n 0, 1) := by decide +kernel
theorem dX0_init_1 : decode cX0_init 1 = .ok (.invokespecial 3, 3) := by decide +kernel
theorem dX0_init_4 : decode cX0_init 4 = .ok (.aload_n 0, 1) := by decide +kernel
theorem dX0_init_5 : decode cX0_init 5 = .ok (.new 9, 3) := by decide +kernel
theorem dX0_init_8 : decode cX0_init 8 = .ok (.dup, 1) := by decide +kernel
theorem dX0_init_9 : decode cX0_init 9 = .ok (.bipush 11, 2) := by decide +kernel
theorem dX0_init_11 : decode cX0_init 11 = .ok (.invokespecial 11, 3) := by decide +kernel
theorem dX0_init_14 : decode cX0_init 14 = .ok (.putfield 14, 3) := by decide +kernel
theorem dX0_init_17 : decode cX0_init 17 = .ok (.aload_n 0, 1) := by decide +kernel
theorem dX0_init_18 : decode cX0_init 18 = .ok (.new 9, 3) := by decide +kernel
theorem dX0_init_21 : decode cX0_init 21 = .ok (.dup, 1) := by decide +kernel
theorem dX0_init_22 : decode cX0_init 22 = .ok (.bipush 11, 2) := by decide +kernel
theorem dX0_init_24 : decode cX0_init 24 = .ok (.invokespecial 11, 3) := by decide +kernel
theorem dX0_init_27 : decode cX0_init 27 = .ok (.putfield 20, 3) := by decide +kernel
theorem dX0_init_30 : decode cX0_init 30 = .ok (.aload_n 0, 1) := by decide +kernel
theorem dX0_init_31 : decode cX0_init 31 = .ok (.new 9, 3) := by decide +kernel
theorem dX0_init_34 : decode cX0_init 34 = .ok (.dup, 1) := by decide +kernel
theorem dX0_init_35 : decode cX0_init 35 = .ok (.bipush 11, 2) := by decide +kernel
theorem dX0_init_37 : decode cX0_init 37 = .ok (.invokespecial 11, 3) := by decide +kernel
theorem dX0_init_40 : decode cX0_init 40 = .ok (.putfield 23, 3) := by decide +kernel
theorem dX0_init_43 : decode cX0_init 43 = .ok (.aload_n 0, 1) := by decide +kernel
theorem dX0_init_44 : decode cX0_init 44 = .ok (.new 9, 3) := by decide +kernel
theorem dX0_init_47 : decode cX0_init 47 = .ok (.dup, 1) := by decide +kernel
theorem dX0_init_48 : decode cX0_init 48 = .ok (.bipush 11, 2) := by decide +kernel
theorem dX0_init_50 : decode cX0_init 50 = .ok (.invokespecial 11, 3) := by decide +kernel
theorem dX0_init_53 : decode cX0_init 53 = .ok (.putfield 26, 3) := by decide +kernel
theorem dX0_init_56 : decode cX0_init 56 = .ok (.aload_n 0, 1) := by decide +kernel
theorem dX0_init_57 : decode cX0_init 57 = .ok (.new 9, 3) := by decide +kernel
theorem dX0_init_60 : decode cX0_init 60 = .ok (.dup, 1) := by decide +kernel
theorem dX0_init_61 : decode cX0_init 61 = .ok (.bipush 44, 2) := by decide +kernel
theorem dX0_init_63 : decode cX0_init 63 = .ok (.invokespecial 11, 3) := by decide +kernel
theorem dX0_init_66 : decode cX0_init 66 = .ok (.putfield 29, 3) := by decide +kernel
theorem dX0_init_69 : decode cX0_init 69 = .ok (.return_, 1) := by decide +kernel
theorem dX0_follow_0 : decode cX0_follow 0 = .ok (.aload_n 0, 1) := by decide +kernel
theorem dX0_follow_1 : decode cX0_follow 1 = .ok (.iconst 0, 1) := by decide +kernel
theorem dX0_follow_2 : decode cX0_follow 2 = .ok (.putfield 32, 3) := by decide +kernel
theorem dX0_follow_5 : decode cX0_follow 5 = .ok (.iload_n 2, 1) := by decide +kernel
theorem dX0_follow_6 : decode cX0_follow 6 = .ok (.ifCond .lt 11, 3) := by decide +kernel
theorem dX0_follow_9 : decode cX0_follow 9 = .ok (.iload_n 2, 1) := by decide +kernel
theorem dX0_follow_10 : decode cX0_follow 10 = .ok (.aload_n 1, 1) := by decide +kernel
theorem dX0_follow_11 : decode cX0_follow 11 = .ok (.getfield 36, 3) := by decide +kernel
theorem dX0_follow_14 : decode cX0_follow 14 = .ok (.if_icmp .lt 4, 3) := by decide +kernel
theorem dX0_follow_17 : decode cX0_follow 17 = .ok (.return_, 1) := by decide +kernel
theorem dX0_follow_18 : decode cX0_follow 18 = .ok (.aload_n 0, 1) := by decide +kernel
theorem dX0_follow_19 : decode cX0_follow 19 = .ok (.bipush 10, 2) := by decide +kernel
theorem dX0_follow_21 : decode cX0_follow 21 = .ok (.iload_n 2, 1) := by decide +kernel
theorem dX0_follow_22 : decode cX0_follow 22 = .ok (.invokevirtual 41, 3) := by decide +kernel
theorem dX0_follow_25 : decode cX0_follow 25 = .ok (.aload_n 0, 1) := by decide +kernel
theorem dX0_follow_26 : decode cX0_follow 26 = .ok (.getfield 23, 3) := by decide +kernel
theorem dX0_follow_29 : decode cX0_follow 29 = .ok (.iconst 0, 1) := by decide +kernel
theorem dX0_follow_30 : decode cX0_follow 30 = .ok (.aload_n 0, 1) := by decide +kernel
theorem dX0_follow_31 : decode cX0_follow 31 = .ok (.getfield 32, 3) := by decide +kernel
theorem dX0_follow_34 : decode cX0_follow 34 = .ok (.invokevirtual 45, 3) := by decide +kernel
theorem dX0_follow_37 : decode cX0_follow 37 = .ok (.aload_n 0, 1) := by decide +kernel
theorem dX0_follow_38 : decode cX0_follow 38 = .ok (.aload_n 1, 1) := by decide +kernel
theorem dX0_follow_39 : decode cX0_follow 39 = .ok (.getfield 48, 3) := by decide +kernel
theorem dX0_follow_42 : decode cX0_follow 42 = .ok (.iload_n 2, 1) := by decide +kernel
theorem dX0_follow_43 : decode cX0_follow 43 = .ok (.invokevirtual 51, 3) := by decide +kernel
theorem dX0_follow_46 : decode cX0_follow 46 = .ok (.iload_n 2, 1) := by decide +kernel
theorem dX0_follow_47 : decode cX0_follow 47 = .ok (.invokevirtual 41, 3) := by decide +kernel
theorem dX0_follow_50 : decode cX0_follow 50 = .ok (.aload_n 0, 1) := by decide +kernel
theorem dX0_follow_51 : decode cX0_follow 51 = .ok (.aload_n 1, 1) := by decide +kernel
theorem dX0_follow_52 : decode cX0_follow 52 = .ok (.getfield 55, 3) := by decide +kernel
theorem dX0_follow_55 : decode cX0_follow 55 = .ok (.iload_n 2, 1) := by decide +kernel
theorem dX0_follow_56 : decode cX0_follow 56 = .ok (.invokevirtual 51, 3) := by decide +kernel
theorem dX0_follow_59 : decode cX0_follow 59 = .ok (.iload_n 2, 1) := by decide +kernel
theorem dX0_follow_60 : decode cX0_follow 60 = .ok (.invokevirtual 41, 3) := by decide +kernel
theorem dX0_follow_63 : decode cX0_follow 63 = .ok (.iconst 1, 1) := by decide +kernel
theorem dX0_follow_64 : decode cX0_follow 64 = .ok (.istore_n 3, 1) := by decide +kernel
theorem dX0_follow_65 : decode cX0_follow 65 = .ok (.iload_n 3, 1) := by decide +kernel
theorem dX0_follow_66 : decode cX0_follow 66 = .ok (.aload_n 0, 1) := by decide +kernel
theorem dX0_follow_67 : decode cX0_follow 67 = .ok (.getfield 32, 3) := by decide +kernel
theorem dX0_follow_70 : decode cX0_follow 70 = .ok (.if_icmp .ge 61, 3) := by decide +kernel
theorem dX0_follow_73 : decode cX0_follow 73 = .ok (.iload_n 3, 1) := by decide +kernel
theorem dX0_follow_74 : decode cX0_follow 74 = .ok (.bipush 11, 2) := by decide +kernel
theorem dX0_follow_76 : decode cX0_follow 76 = .ok (.if_icmp .ge 55, 3) := by decide +kernel
theorem dX0_follow_79 : decode cX0_follow 79 = .ok (.aload_n 0, 1) := by decide +kernel
theorem dX0_follow_80 : decode cX0_follow 80 = .ok (.getfield 14, 3) := by decide +kernel
theorem dX0_follow_83 : decode cX0_follow 83 = .ok (.iload_n 3, 1) := by decide +kernel
theorem dX0_follow_84 : decode cX0_follow 84 = .ok (.invokevirtual 51, 3) := by decide +kernel
theorem dX0_follow_87 : decode cX0_follow 87 = .ok (.bipush 6, 2) := by decide +kernel
theorem dX0_follow_89 : decode cX0_follow 89 = .ok (.if_icmp .lt 36, 3) := by decide +kernel
theorem dX0_follow_92 : decode cX0_follow 92 = .ok (.aload_n 0, 1) := by decide +kernel
theorem dX0_follow_93 : decode cX0_follow 93 = .ok (.getfield 23, 3) := by decide +kernel
theorem dX0_follow_96 : decode cX0_follow 96 = .ok (.iload_n 3, 1) := by decide +kernel
theorem dX0_follow_97 : decode cX0_follow 97 = .ok (.aload_n 0, 1) := by decide +kernel
theorem dX0_follow_98 : decode cX0_follow 98 = .ok (.getfield 32, 3) := by decide +kernel
theorem dX0_follow_101 : decode cX0_follow 101 = .ok (.invokevirtual 45, 3) := by decide +kernel
theorem dX0_follow_104 : decode cX0_follow 104 = .ok (.aload_n 0, 1) := by decide +kernel
theorem dX0_follow_105 : decode cX0_follow 105 = .ok (.aload_n 1, 1) := by decide +kernel
theorem dX0_follow_106 : decode cX0_follow 106 = .ok (.aload_n 0, 1) := by decide +kernel
theorem dX0_follow_107 : decode cX0_follow 107 = .ok (.getfield 14, 3) := by decide +kernel
theorem dX0_follow_110 : decode cX0_follow 110 = .ok (.iload_n 3, 1) := by decide +kernel
theorem dX0_follow_111 : decode cX0_follow 111 = .ok (.invokevirtual 51, 3) := by decide +kernel
theorem dX0_follow_114 : decode cX0_follow 114 = .ok (.aload_n 0, 1) := by decide +kernel
theorem dX0_follow_115 : decode cX0_follow 115 = .ok (.getfield 20, 3) := by decide +kernel
theorem dX0_follow_118 : decode cX0_follow 118 = .ok (.iload_n 3, 1) := by decide +kernel
theorem dX0_follow_119 : decode cX0_follow 119 = .ok (.invokevirtual 51, 3) := by decide +kernel
theorem dX0_follow_122 : decode cX0_follow 122 = .ok (.invokevirtual 58, 3) := by decide +kernel
theorem dX0_follow_125 : decode cX0_follow 125 = .ok (.iinc 3 1, 3) := by decide +kernel
theorem dX0_follow_128 : decode cX0_follow 128 = .ok (.goto (-63), 3) := by decide +kernel
theorem dX0_follow_131 : decode cX0_follow 131 = .ok (.return_, 1) := by decide +kernel
theorem dX0_appendBelow_0 : decode cX0_appendBelow 0 = .ok (.iconst 0, 1) := by decide +kernel
theorem dX0_appendBelow_1 : decode cX0_appendBelow 1 = .ok (.istore 4, 2) := by decide +kernel
theorem dX0_appendBelow_3 : decode cX0_appendBelow 3 = .ok (.iload 4, 2) := by decide +kernel
theorem dX0_appendBelow_5 : decode cX0_appendBelow 5 = .ok (.aload_n 1, 1) := by decide +kernel
theorem dX0_appendBelow_6 : decode cX0_appendBelow 6 = .ok (.getfield 36, 3) := by decide +kernel
theorem dX0_appendBelow_9 : decode cX0_appendBelow 9 = .ok (.if_icmp .ge 77, 3) := by decide +kernel
theorem dX0_appendBelow_12 : decode cX0_appendBelow 12 = .ok (.iload 4, 2) := by decide +kernel
theorem dX0_appendBelow_14 : decode cX0_appendBelow 14 = .ok (.iload_n 3, 1) := by decide +kernel
theorem dX0_appendBelow_15 : decode cX0_appendBelow 15 = .ok (.if_icmp .ne 6, 3) := by decide +kernel
theorem dX0_appendBelow_18 : decode cX0_appendBelow 18 = .ok (.goto 62, 3) := by decide +kernel
theorem dX0_appendBelow_21 : decode cX0_appendBelow 21 = .ok (.aload_n 1, 1) := by decide +kernel
theorem dX0_appendBelow_22 : decode cX0_appendBelow 22 = .ok (.getfield 48, 3) := by decide +kernel
theorem dX0_appendBelow_25 : decode cX0_appendBelow 25 = .ok (.iload 4, 2) := by decide +kernel
theorem dX0_appendBelow_27 : decode cX0_appendBelow 27 = .ok (.invokevirtual 51, 3) := by decide +kernel
theorem dX0_appendBelow_30 : decode cX0_appendBelow 30 = .ok (.iload_n 2, 1) := by decide +kernel
theorem dX0_appendBelow_31 : decode cX0_appendBelow 31 = .ok (.if_icmp .ne 21, 3) := by decide +kernel
theorem dX0_appendBelow_34 : decode cX0_appendBelow 34 = .ok (.aload_n 0, 1) := by decide +kernel
theorem dX0_appendBelow_35 : decode cX0_appendBelow 35 = .ok (.aload_n 1, 1) := by decide +kernel
theorem dX0_appendBelow_36 : decode cX0_appendBelow 36 = .ok (.getfield 55, 3) := by decide +kernel
theorem dX0_appendBelow_39 : decode cX0_appendBelow 39 = .ok (.iload 4, 2) := by decide +kernel
theorem dX0_appendBelow_41 : decode cX0_appendBelow 41 = .ok (.invokevirtual 51, 3) := by decide +kernel
theorem dX0_appendBelow_44 : decode cX0_appendBelow 44 = .ok (.iload 4, 2) := by decide +kernel
theorem dX0_appendBelow_46 : decode cX0_appendBelow 46 = .ok (.invokevirtual 41, 3) := by decide +kernel
theorem dX0_appendBelow_49 : decode cX0_appendBelow 49 = .ok (.goto 31, 3) := by decide +kernel
theorem dX0_appendBelow_52 : decode cX0_appendBelow 52 = .ok (.aload_n 1, 1) := by decide +kernel
theorem dX0_appendBelow_53 : decode cX0_appendBelow 53 = .ok (.getfield 55, 3) := by decide +kernel
theorem dX0_appendBelow_56 : decode cX0_appendBelow 56 = .ok (.iload 4, 2) := by decide +kernel
theorem dX0_appendBelow_58 : decode cX0_appendBelow 58 = .ok (.invokevirtual 51, 3) := by decide +kernel
theorem dX0_appendBelow_61 : decode cX0_appendBelow 61 = .ok (.iload_n 2, 1) := by decide +kernel
theorem dX0_appendBelow_62 : decode cX0_appendBelow 62 = .ok (.if_icmp .ne 18, 3) := by decide +kernel
theorem dX0_appendBelow_65 : decode cX0_appendBelow 65 = .ok (.aload_n 0, 1) := by decide +kernel
theorem dX0_appendBelow_66 : decode cX0_appendBelow 66 = .ok (.aload_n 1, 1) := by decide +kernel
theorem dX0_appendBelow_67 : decode cX0_appendBelow 67 = .ok (.getfield 48, 3) := by decide +kernel
theorem dX0_appendBelow_70 : decode cX0_appendBelow 70 = .ok (.iload 4, 2) := by decide +kernel
theorem dX0_appendBelow_72 : decode cX0_appendBelow 72 = .ok (.invokevirtual 51, 3) := by decide +kernel
theorem dX0_appendBelow_75 : decode cX0_appendBelow 75 = .ok (.iload 4, 2) := by decide +kernel
theorem dX0_appendBelow_77 : decode cX0_appendBelow 77 = .ok (.invokevirtual 41, 3) := by decide +kernel
theorem dX0_appendBelow_80 : decode cX0_appendBelow 80 = .ok (.iinc 4 1, 3) := by decide +kernel
theorem dX0_appendBelow_83 : decode cX0_appendBelow 83 = .ok (.goto (-80), 3) := by decide +kernel
theorem dX0_appendBelow_86 : decode cX0_appendBelow 86 = .ok (.return_, 1) := by decide +kernel
theorem dX0_append_0 : decode cX0_append 0 = .ok (.aload_n 0, 1) := by decide +kernel
theorem dX0_append_1 : decode cX0_append 1 = .ok (.getfield 14, 3) := by decide +kernel
theorem dX0_append_4 : decode cX0_append 4 = .ok (.aload_n 0, 1) := by decide +kernel
theorem dX0_append_5 : decode cX0_append 5 = .ok (.getfield 32, 3) := by decide +kernel
theorem dX0_append_8 : decode cX0_append 8 = .ok (.iload_n 1, 1) := by decide +kernel
theorem dX0_append_9 : decode cX0_append 9 = .ok (.invokevirtual 45, 3) := by decide +kernel
theorem dX0_append_12 : decode cX0_append 12 = .ok (.aload_n 0, 1) := by decide +kernel
theorem dX0_append_13 : decode cX0_append 13 = .ok (.getfield 20, 3) := by decide +kernel
theorem dX0_append_16 : decode cX0_append 16 = .ok (.aload_n 0, 1) := by decide +kernel
theorem dX0_append_17 : decode cX0_append 17 = .ok (.getfield 32, 3) := by decide +kernel
theorem dX0_append_20 : decode cX0_append 20 = .ok (.iload_n 2, 1) := by decide +kernel
theorem dX0_append_21 : decode cX0_append 21 = .ok (.invokevirtual 45, 3) := by decide +kernel
theorem dX0_append_24 : decode cX0_append 24 = .ok (.aload_n 0, 1) := by decide +kernel
theorem dX0_append_25 : decode cX0_append 25 = .ok (.dup, 1) := by decide +kernel
theorem dX0_append_26 : decode cX0_append 26 = .ok (.getfield 32, 3) := by decide +kernel
theorem dX0_append_29 : decode cX0_append 29 = .ok (.iconst 1, 1) := by decide +kernel
theorem dX0_append_30 : decode cX0_append 30 = .ok (.iadd, 1) := by decide +kernel
theorem dX0_append_31 : decode cX0_append 31 = .ok (.putfield 32, 3) := by decide +kernel
theorem dX0_append_34 : decode cX0_append 34 = .ok (.return_, 1) := by decide +kernel
theorem dX0_changesOver_0 : decode cX0_changesOver 0 = .ok (.iconst 0, 1) := by decide +kernel
theorem dX0_changesOver_1 : decode cX0_changesOver 1 = .ok (.istore_n 2, 1) := by decide +kernel
theorem dX0_changesOver_2 : decode cX0_changesOver 2 = .ok (.aload_n 0, 1) := by decide +kernel
theorem dX0_changesOver_3 : decode cX0_changesOver 3 = .ok (.getfield 32, 3) := by decide +kernel
theorem dX0_changesOver_6 : decode cX0_changesOver 6 = .ok (.iconst 1, 1) := by decide +kernel
theorem dX0_changesOver_7 : decode cX0_changesOver 7 = .ok (.isub, 1) := by decide +kernel
theorem dX0_changesOver_8 : decode cX0_changesOver 8 = .ok (.istore_n 3, 1) := by decide +kernel
theorem dX0_changesOver_9 : decode cX0_changesOver 9 = .ok (.iload_n 3, 1) := by decide +kernel
theorem dX0_changesOver_10 : decode cX0_changesOver 10 = .ok (.ifCond .lt 123, 3) := by decide +kernel
theorem dX0_changesOver_13 : decode cX0_changesOver 13 = .ok (.aload_n 0, 1) := by decide +kernel
theorem dX0_changesOver_14 : decode cX0_changesOver 14 = .ok (.getfield 14, 3) := by decide +kernel
theorem dX0_changesOver_17 : decode cX0_changesOver 17 = .ok (.iload_n 3, 1) := by decide +kernel
theorem dX0_changesOver_18 : decode cX0_changesOver 18 = .ok (.invokevirtual 51, 3) := by decide +kernel
theorem dX0_changesOver_21 : decode cX0_changesOver 21 = .ok (.istore 4, 2) := by decide +kernel
theorem dX0_changesOver_23 : decode cX0_changesOver 23 = .ok (.iload 4, 2) := by decide +kernel
theorem dX0_changesOver_25 : decode cX0_changesOver 25 = .ok (.bipush 6, 2) := by decide +kernel
theorem dX0_changesOver_27 : decode cX0_changesOver 27 = .ok (.if_icmp .ge 20, 3) := by decide +kernel
theorem dX0_changesOver_30 : decode cX0_changesOver 30 = .ok (.aload_n 0, 1) := by decide +kernel
theorem dX0_changesOver_31 : decode cX0_changesOver 31 = .ok (.getfield 26, 3) := by decide +kernel
theorem dX0_changesOver_34 : decode cX0_changesOver 34 = .ok (.iload_n 3, 1) := by decide +kernel
theorem dX0_changesOver_35 : decode cX0_changesOver 35 = .ok (.aload_n 1, 1) := by decide +kernel
theorem dX0_changesOver_36 : decode cX0_changesOver 36 = .ok (.iload 4, 2) := by decide +kernel
theorem dX0_changesOver_38 : decode cX0_changesOver 38 = .ok (.invokevirtual 51, 3) := by decide +kernel
theorem dX0_changesOver_41 : decode cX0_changesOver 41 = .ok (.invokevirtual 45, 3) := by decide +kernel
theorem dX0_changesOver_44 : decode cX0_changesOver 44 = .ok (.goto 83, 3) := by decide +kernel
theorem dX0_changesOver_47 : decode cX0_changesOver 47 = .ok (.aload_n 0, 1) := by decide +kernel
theorem dX0_changesOver_48 : decode cX0_changesOver 48 = .ok (.getfield 26, 3) := by decide +kernel
theorem dX0_changesOver_51 : decode cX0_changesOver 51 = .ok (.aload_n 0, 1) := by decide +kernel
theorem dX0_changesOver_52 : decode cX0_changesOver 52 = .ok (.getfield 23, 3) := by decide +kernel
theorem dX0_changesOver_55 : decode cX0_changesOver 55 = .ok (.iload_n 3, 1) := by decide +kernel
theorem dX0_changesOver_56 : decode cX0_changesOver 56 = .ok (.invokevirtual 51, 3) := by decide +kernel
theorem dX0_changesOver_59 : decode cX0_changesOver 59 = .ok (.invokevirtual 51, 3) := by decide +kernel
theorem dX0_changesOver_62 : decode cX0_changesOver 62 = .ok (.istore 5, 2) := by decide +kernel
theorem dX0_changesOver_64 : decode cX0_changesOver 64 = .ok (.aload_n 0, 1) := by decide +kernel
theorem dX0_changesOver_65 : decode cX0_changesOver 65 = .ok (.getfield 26, 3) := by decide +kernel
theorem dX0_changesOver_68 : decode cX0_changesOver 68 = .ok (.aload_n 0, 1) := by decide +kernel
theorem dX0_changesOver_69 : decode cX0_changesOver 69 = .ok (.getfield 23, 3) := by decide +kernel
theorem dX0_changesOver_72 : decode cX0_changesOver 72 = .ok (.iload_n 3, 1) := by decide +kernel
theorem dX0_changesOver_73 : decode cX0_changesOver 73 = .ok (.invokevirtual 51, 3) := by decide +kernel
theorem dX0_changesOver_76 : decode cX0_changesOver 76 = .ok (.iconst 1, 1) := by decide +kernel
theorem dX0_changesOver_77 : decode cX0_changesOver 77 = .ok (.iadd, 1) := by decide +kernel
theorem dX0_changesOver_78 : decode cX0_changesOver 78 = .ok (.invokevirtual 51, 3) := by decide +kernel
theorem dX0_changesOver_81 : decode cX0_changesOver 81 = .ok (.istore 6, 2) := by decide +kernel
theorem dX0_changesOver_83 : decode cX0_changesOver 83 = .ok (.iload 5, 2) := by decide +kernel
theorem dX0_changesOver_85 : decode cX0_changesOver 85 = .ok (.iload 6, 2) := by decide +kernel
theorem dX0_changesOver_87 : decode cX0_changesOver 87 = .ok (.iand, 1) := by decide +kernel
theorem dX0_changesOver_88 : decode cX0_changesOver 88 = .ok (.istore 7, 2) := by decide +kernel
theorem dX0_changesOver_90 : decode cX0_changesOver 90 = .ok (.iload 7, 2) := by decide +kernel
theorem dX0_changesOver_92 : decode cX0_changesOver 92 = .ok (.invokestatic 62, 3) := by decide +kernel
theorem dX0_changesOver_95 : decode cX0_changesOver 95 = .ok (.istore 8, 2) := by decide +kernel
theorem dX0_changesOver_97 : decode cX0_changesOver 97 = .ok (.iload_n 2, 1) := by decide +kernel
theorem dX0_changesOver_98 : decode cX0_changesOver 98 = .ok (.iload 8, 2) := by decide +kernel
theorem dX0_changesOver_100 : decode cX0_changesOver 100 = .ok (.invokestatic 65, 3) := by decide +kernel
theorem dX0_changesOver_103 : decode cX0_changesOver 103 = .ok (.iadd, 1) := by decide +kernel
theorem dX0_changesOver_104 : decode cX0_changesOver 104 = .ok (.istore_n 2, 1) := by decide +kernel
theorem dX0_changesOver_105 : decode cX0_changesOver 105 = .ok (.aload_n 0, 1) := by decide +kernel
theorem dX0_changesOver_106 : decode cX0_changesOver 106 = .ok (.getfield 26, 3) := by decide +kernel
theorem dX0_changesOver_109 : decode cX0_changesOver 109 = .ok (.iload_n 3, 1) := by decide +kernel
theorem dX0_changesOver_110 : decode cX0_changesOver 110 = .ok (.iload 7, 2) := by decide +kernel
theorem dX0_changesOver_112 : decode cX0_changesOver 112 = .ok (.iload 5, 2) := by decide +kernel
theorem dX0_changesOver_114 : decode cX0_changesOver 114 = .ok (.iload 6, 2) := by decide +kernel
theorem dX0_changesOver_116 : decode cX0_changesOver 116 = .ok (.ior, 1) := by decide +kernel
theorem dX0_changesOver_117 : decode cX0_changesOver 117 = .ok (.iload 8, 2) := by decide +kernel
theorem dX0_changesOver_119 : decode cX0_changesOver 119 = .ok (.bipush 15, 2) := by decide +kernel
theorem dX0_changesOver_121 : decode cX0_changesOver 121 = .ok (.imul, 1) := by decide +kernel
theorem dX0_changesOver_122 : decode cX0_changesOver 122 = .ok (.iand, 1) := by decide +kernel
theorem dX0_changesOver_123 : decode cX0_changesOver 123 = .ok (.ior, 1) := by decide +kernel
theorem dX0_changesOver_124 : decode cX0_changesOver 124 = .ok (.invokevirtual 45, 3) := by decide +kernel
theorem dX0_changesOver_127 : decode cX0_changesOver 127 = .ok (.iinc 3 (-1), 3) := by decide +kernel
theorem dX0_changesOver_130 : decode cX0_changesOver 130 = .ok (.goto (-121), 3) := by decide +kernel
theorem dX0_changesOver_133 : decode cX0_changesOver 133 = .ok (.iload_n 2, 1) := by decide +kernel
theorem dX0_changesOver_134 : decode cX0_changesOver 134 = .ok (.ireturn, 1) := by decide +kernel
theorem dX0_emptyPlaces_0 : decode cX0_emptyPlaces 0 = .ok (.iload_n 0, 1) := by decide +kernel
theorem dX0_emptyPlaces_1 : decode cX0_emptyPlaces 1 = .ok (.iload_n 0, 1) := by decide +kernel
theorem dX0_emptyPlaces_2 : decode cX0_emptyPlaces 2 = .ok (.iconst 1, 1) := by decide +kernel
theorem dX0_emptyPlaces_3 : decode cX0_emptyPlaces 3 = .ok (.iushr, 1) := by decide +kernel
theorem dX0_emptyPlaces_4 : decode cX0_emptyPlaces 4 = .ok (.ior, 1) := by decide +kernel
theorem dX0_emptyPlaces_5 : decode cX0_emptyPlaces 5 = .ok (.istore_n 1, 1) := by decide +kernel
theorem dX0_emptyPlaces_6 : decode cX0_emptyPlaces 6 = .ok (.iload_n 1, 1) := by decide +kernel
theorem dX0_emptyPlaces_7 : decode cX0_emptyPlaces 7 = .ok (.iload_n 1, 1) := by decide +kernel
theorem dX0_emptyPlaces_8 : decode cX0_emptyPlaces 8 = .ok (.iconst 2, 1) := by decide +kernel
theorem dX0_emptyPlaces_9 : decode cX0_emptyPlaces 9 = .ok (.iushr, 1) := by decide +kernel
theorem dX0_emptyPlaces_10 : decode cX0_emptyPlaces 10 = .ok (.ior, 1) := by decide +kernel
theorem dX0_emptyPlaces_11 : decode cX0_emptyPlaces 11 = .ok (.istore_n 2, 1) := by decide +kernel
theorem dX0_emptyPlaces_12 : decode cX0_emptyPlaces 12 = .ok (.iload_n 2, 1) := by decide +kernel
theorem dX0_emptyPlaces_13 : decode cX0_emptyPlaces 13 = .ok (.iconst (-1), 1) := by decide +kernel
theorem dX0_emptyPlaces_14 : decode cX0_emptyPlaces 14 = .ok (.ixor, 1) := by decide +kernel
theorem dX0_emptyPlaces_15 : decode cX0_emptyPlaces 15 = .ok (.ldc 70, 2) := by decide +kernel
theorem dX0_emptyPlaces_17 : decode cX0_emptyPlaces 17 = .ok (.iand, 1) := by decide +kernel
theorem dX0_emptyPlaces_18 : decode cX0_emptyPlaces 18 = .ok (.ireturn, 1) := by decide +kernel
theorem dX0_costAt_0 : decode cX0_costAt 0 = .ok (.aload_n 0, 1) := by decide +kernel
theorem dX0_costAt_1 : decode cX0_costAt 1 = .ok (.getfield 32, 3) := by decide +kernel
theorem dX0_costAt_4 : decode cX0_costAt 4 = .ok (.iconst 1, 1) := by decide +kernel
theorem dX0_costAt_5 : decode cX0_costAt 5 = .ok (.isub, 1) := by decide +kernel
theorem dX0_costAt_6 : decode cX0_costAt 6 = .ok (.istore_n 3, 1) := by decide +kernel
theorem dX0_costAt_7 : decode cX0_costAt 7 = .ok (.iload_n 3, 1) := by decide +kernel
theorem dX0_costAt_8 : decode cX0_costAt 8 = .ok (.ifCond .lt 46, 3) := by decide +kernel
theorem dX0_costAt_11 : decode cX0_costAt 11 = .ok (.iconst 0, 1) := by decide +kernel
theorem dX0_costAt_12 : decode cX0_costAt 12 = .ok (.istore 4, 2) := by decide +kernel
theorem dX0_costAt_14 : decode cX0_costAt 14 = .ok (.iload 4, 2) := by decide +kernel
theorem dX0_costAt_16 : decode cX0_costAt 16 = .ok (.iconst 4, 1) := by decide +kernel
theorem dX0_costAt_17 : decode cX0_costAt 17 = .ok (.if_icmp .ge 31, 3) := by decide +kernel
theorem dX0_costAt_20 : decode cX0_costAt 20 = .ok (.aload_n 0, 1) := by decide +kernel
theorem dX0_costAt_21 : decode cX0_costAt 21 = .ok (.getfield 29, 3) := by decide +kernel
theorem dX0_costAt_24 : decode cX0_costAt 24 = .ok (.iload_n 3, 1) := by decide +kernel
theorem dX0_costAt_25 : decode cX0_costAt 25 = .ok (.iconst 4, 1) := by decide +kernel
theorem dX0_costAt_26 : decode cX0_costAt 26 = .ok (.imul, 1) := by decide +kernel
theorem dX0_costAt_27 : decode cX0_costAt 27 = .ok (.iload 4, 2) := by decide +kernel
theorem dX0_costAt_29 : decode cX0_costAt 29 = .ok (.iadd, 1) := by decide +kernel
theorem dX0_costAt_30 : decode cX0_costAt 30 = .ok (.aload_n 0, 1) := by decide +kernel
theorem dX0_costAt_31 : decode cX0_costAt 31 = .ok (.iload_n 3, 1) := by decide +kernel
theorem dX0_costAt_32 : decode cX0_costAt 32 = .ok (.iload 4, 2) := by decide +kernel
theorem dX0_costAt_34 : decode cX0_costAt 34 = .ok (.iload_n 1, 1) := by decide +kernel
theorem dX0_costAt_35 : decode cX0_costAt 35 = .ok (.aload_n 2, 1) := by decide +kernel
theorem dX0_costAt_36 : decode cX0_costAt 36 = .ok (.invokevirtual 71, 3) := by decide +kernel
theorem dX0_costAt_39 : decode cX0_costAt 39 = .ok (.invokevirtual 45, 3) := by decide +kernel
theorem dX0_costAt_42 : decode cX0_costAt 42 = .ok (.iinc 4 1, 3) := by decide +kernel
theorem dX0_costAt_45 : decode cX0_costAt 45 = .ok (.goto (-31), 3) := by decide +kernel
theorem dX0_costAt_48 : decode cX0_costAt 48 = .ok (.iinc 3 (-1), 3) := by decide +kernel
theorem dX0_costAt_51 : decode cX0_costAt 51 = .ok (.goto (-44), 3) := by decide +kernel
theorem dX0_costAt_54 : decode cX0_costAt 54 = .ok (.sipush 1000, 3) := by decide +kernel
theorem dX0_costAt_57 : decode cX0_costAt 57 = .ok (.istore_n 3, 1) := by decide +kernel
theorem dX0_costAt_58 : decode cX0_costAt 58 = .ok (.iconst 0, 1) := by decide +kernel
theorem dX0_costAt_59 : decode cX0_costAt 59 = .ok (.istore 4, 2) := by decide +kernel
theorem dX0_costAt_61 : decode cX0_costAt 61 = .ok (.iload 4, 2) := by decide +kernel
theorem dX0_costAt_63 : decode cX0_costAt 63 = .ok (.iconst 4, 1) := by decide +kernel
theorem dX0_costAt_64 : decode cX0_costAt 64 = .ok (.if_icmp .ge 23, 3) := by decide +kernel
theorem dX0_costAt_67 : decode cX0_costAt 67 = .ok (.iload_n 3, 1) := by decide +kernel
theorem dX0_costAt_68 : decode cX0_costAt 68 = .ok (.aload_n 0, 1) := by decide +kernel
theorem dX0_costAt_69 : decode cX0_costAt 69 = .ok (.getfield 29, 3) := by decide +kernel
theorem dX0_costAt_72 : decode cX0_costAt 72 = .ok (.iload 4, 2) := by decide +kernel
theorem dX0_costAt_74 : decode cX0_costAt 74 = .ok (.invokevirtual 51, 3) := by decide +kernel
theorem dX0_costAt_77 : decode cX0_costAt 77 = .ok (.invokestatic 75, 3) := by decide +kernel
theorem dX0_costAt_80 : decode cX0_costAt 80 = .ok (.istore_n 3, 1) := by decide +kernel
theorem dX0_costAt_81 : decode cX0_costAt 81 = .ok (.iinc 4 1, 3) := by decide +kernel
theorem dX0_costAt_84 : decode cX0_costAt 84 = .ok (.goto (-23), 3) := by decide +kernel
theorem dX0_costAt_87 : decode cX0_costAt 87 = .ok (.iload_n 3, 1) := by decide +kernel
theorem dX0_costAt_88 : decode cX0_costAt 88 = .ok (.ireturn, 1) := by decide +kernel
theorem dX0_costOf_0 : decode cX0_costOf 0 = .ok (.aload_n 0, 1) := by decide +kernel
theorem dX0_costOf_1 : decode cX0_costOf 1 = .ok (.getfield 14, 3) := by decide +kernel
theorem dX0_costOf_4 : decode cX0_costOf 4 = .ok (.iload_n 1, 1) := by decide +kernel
theorem dX0_costOf_5 : decode cX0_costOf 5 = .ok (.invokevirtual 51, 3) := by decide +kernel
theorem dX0_costOf_8 : decode cX0_costOf 8 = .ok (.istore 5, 2) := by decide +kernel
theorem dX0_costOf_10 : decode cX0_costOf 10 = .ok (.iload 5, 2) := by decide +kernel
theorem dX0_costOf_12 : decode cX0_costOf 12 = .ok (.bipush 6, 2) := by decide +kernel
theorem dX0_costOf_14 : decode cX0_costOf 14 = .ok (.if_icmp .ge 27, 3) := by decide +kernel
theorem dX0_costOf_17 : decode cX0_costOf 17 = .ok (.aload 4, 2) := by decide +kernel
theorem dX0_costOf_19 : decode cX0_costOf 19 = .ok (.iload 5, 2) := by decide +kernel
theorem dX0_costOf_21 : decode cX0_costOf 21 = .ok (.invokevirtual 51, 3) := by decide +kernel
theorem dX0_costOf_24 : decode cX0_costOf 24 = .ok (.iload_n 3, 1) := by decide +kernel
theorem dX0_costOf_25 : decode cX0_costOf 25 = .ok (.iload_n 2, 1) := by decide +kernel
theorem dX0_costOf_26 : decode cX0_costOf 26 = .ok (.invokestatic 81, 3) := by decide +kernel
theorem dX0_costOf_29 : decode cX0_costOf 29 = .ok (.iand, 1) := by decide +kernel
theorem dX0_costOf_30 : decode cX0_costOf 30 = .ok (.ifCond .eq 7, 3) := by decide +kernel
theorem dX0_costOf_33 : decode cX0_costOf 33 = .ok (.iconst 0, 1) := by decide +kernel
theorem dX0_costOf_34 : decode cX0_costOf 34 = .ok (.goto 6, 3) := by decide +kernel
theorem dX0_costOf_37 : decode cX0_costOf 37 = .ok (.sipush 1000, 3) := by decide +kernel
theorem dX0_costOf_40 : decode cX0_costOf 40 = .ok (.ireturn, 1) := by decide +kernel
theorem dX0_costOf_41 : decode cX0_costOf 41 = .ok (.aload_n 0, 1) := by decide +kernel
theorem dX0_costOf_42 : decode cX0_costOf 42 = .ok (.aload_n 0, 1) := by decide +kernel
theorem dX0_costOf_43 : decode cX0_costOf 43 = .ok (.getfield 23, 3) := by decide +kernel
theorem dX0_costOf_46 : decode cX0_costOf 46 = .ok (.iload_n 1, 1) := by decide +kernel
theorem dX0_costOf_47 : decode cX0_costOf 47 = .ok (.invokevirtual 51, 3) := by decide +kernel
theorem dX0_costOf_50 : decode cX0_costOf 50 = .ok (.iload_n 2, 1) := by decide +kernel
theorem dX0_costOf_51 : decode cX0_costOf 51 = .ok (.invokevirtual 84, 3) := by decide +kernel
theorem dX0_costOf_54 : decode cX0_costOf 54 = .ok (.aload_n 0, 1) := by decide +kernel
theorem dX0_costOf_55 : decode cX0_costOf 55 = .ok (.aload_n 0, 1) := by decide +kernel
theorem dX0_costOf_56 : decode cX0_costOf 56 = .ok (.getfield 23, 3) := by decide +kernel
theorem dX0_costOf_59 : decode cX0_costOf 59 = .ok (.iload_n 1, 1) := by decide +kernel
theorem dX0_costOf_60 : decode cX0_costOf 60 = .ok (.invokevirtual 51, 3) := by decide +kernel
theorem dX0_costOf_63 : decode cX0_costOf 63 = .ok (.iconst 1, 1) := by decide +kernel
theorem dX0_costOf_64 : decode cX0_costOf 64 = .ok (.iadd, 1) := by decide +kernel
theorem dX0_costOf_65 : decode cX0_costOf 65 = .ok (.iload_n 2, 1) := by decide +kernel
theorem dX0_costOf_66 : decode cX0_costOf 66 = .ok (.invokevirtual 84, 3) := by decide +kernel
theorem dX0_costOf_69 : decode cX0_costOf 69 = .ok (.iadd, 1) := by decide +kernel
theorem dX0_costOf_70 : decode cX0_costOf 70 = .ok (.ireturn, 1) := by decide +kernel
theorem dX0_costDown_0 : decode cX0_costDown 0 = .ok (.sipush 1000, 3) := by decide +kernel
theorem dX0_costDown_3 : decode cX0_costDown 3 = .ok (.istore_n 3, 1) := by decide +kernel
theorem dX0_costDown_4 : decode cX0_costDown 4 = .ok (.iconst 0, 1) := by decide +kernel
theorem dX0_costDown_5 : decode cX0_costDown 5 = .ok (.istore 4, 2) := by decide +kernel
theorem dX0_costDown_7 : decode cX0_costDown 7 = .ok (.iload 4, 2) := by decide +kernel
theorem dX0_costDown_9 : decode cX0_costDown 9 = .ok (.iconst 4, 1) := by decide +kernel
theorem dX0_costDown_10 : decode cX0_costDown 10 = .ok (.if_icmp .ge 53, 3) := by decide +kernel
theorem dX0_costDown_13 : decode cX0_costDown 13 = .ok (.iload 4, 2) := by decide +kernel
theorem dX0_costDown_15 : decode cX0_costDown 15 = .ok (.iload_n 2, 1) := by decide +kernel
theorem dX0_costDown_16 : decode cX0_costDown 16 = .ok (.if_icmp .ne 7, 3) := by decide +kernel
theorem dX0_costDown_19 : decode cX0_costDown 19 = .ok (.iconst 0, 1) := by decide +kernel
theorem dX0_costDown_20 : decode cX0_costDown 20 = .ok (.goto 14, 3) := by decide +kernel
theorem dX0_costDown_23 : decode cX0_costDown 23 = .ok (.iload 4, 2) := by decide +kernel
theorem dX0_costDown_25 : decode cX0_costDown 25 = .ok (.iload_n 2, 1) := by decide +kernel
theorem dX0_costDown_26 : decode cX0_costDown 26 = .ok (.if_icmp .le 7, 3) := by decide +kernel
theorem dX0_costDown_29 : decode cX0_costDown 29 = .ok (.iconst 1, 1) := by decide +kernel
theorem dX0_costDown_30 : decode cX0_costDown 30 = .ok (.goto 4, 3) := by decide +kernel
theorem dX0_costDown_33 : decode cX0_costDown 33 = .ok (.iconst 2, 1) := by decide +kernel
theorem dX0_costDown_34 : decode cX0_costDown 34 = .ok (.istore 5, 2) := by decide +kernel
theorem dX0_costDown_36 : decode cX0_costDown 36 = .ok (.iload_n 3, 1) := by decide +kernel
theorem dX0_costDown_37 : decode cX0_costDown 37 = .ok (.aload_n 0, 1) := by decide +kernel
theorem dX0_costDown_38 : decode cX0_costDown 38 = .ok (.getfield 29, 3) := by decide +kernel
theorem dX0_costDown_41 : decode cX0_costDown 41 = .ok (.iload_n 1, 1) := by decide +kernel
theorem dX0_costDown_42 : decode cX0_costDown 42 = .ok (.iconst 4, 1) := by decide +kernel
theorem dX0_costDown_43 : decode cX0_costDown 43 = .ok (.imul, 1) := by decide +kernel
theorem dX0_costDown_44 : decode cX0_costDown 44 = .ok (.iload 4, 2) := by decide +kernel
theorem dX0_costDown_46 : decode cX0_costDown 46 = .ok (.iadd, 1) := by decide +kernel
theorem dX0_costDown_47 : decode cX0_costDown 47 = .ok (.invokevirtual 51, 3) := by decide +kernel
theorem dX0_costDown_50 : decode cX0_costDown 50 = .ok (.iload 5, 2) := by decide +kernel
theorem dX0_costDown_52 : decode cX0_costDown 52 = .ok (.iadd, 1) := by decide +kernel
theorem dX0_costDown_53 : decode cX0_costDown 53 = .ok (.invokestatic 75, 3) := by decide +kernel
theorem dX0_costDown_56 : decode cX0_costDown 56 = .ok (.istore_n 3, 1) := by decide +kernel
theorem dX0_costDown_57 : decode cX0_costDown 57 = .ok (.iinc 4 1, 3) := by decide +kernel
theorem dX0_costDown_60 : decode cX0_costDown 60 = .ok (.goto (-53), 3) := by decide +kernel
theorem dX0_costDown_63 : decode cX0_costDown 63 = .ok (.iload_n 3, 1) := by decide +kernel
theorem dX0_costDown_64 : decode cX0_costDown 64 = .ok (.ireturn, 1) := by decide +kernel
theorem dX1_init_0 : decode cX1_init 0 = .ok (.aload_n 0, 1) := by decide +kernel
theorem dX1_init_1 : decode cX1_init 1 = .ok (.invokespecial 3, 3) := by decide +kernel
theorem dX1_init_4 : decode cX1_init 4 = .ok (.aload_n 0, 1) := by decide +kernel
theorem dX1_init_5 : decode cX1_init 5 = .ok (.new 9, 3) := by decide +kernel
theorem dX1_init_8 : decode cX1_init 8 = .ok (.dup, 1) := by decide +kernel
theorem dX1_init_9 : decode cX1_init 9 = .ok (.bipush 10, 2) := by decide +kernel
theorem dX1_init_11 : decode cX1_init 11 = .ok (.invokespecial 11, 3) := by decide +kernel
theorem dX1_init_14 : decode cX1_init 14 = .ok (.putfield 14, 3) := by decide +kernel
theorem dX1_init_17 : decode cX1_init 17 = .ok (.aload_n 0, 1) := by decide +kernel
theorem dX1_init_18 : decode cX1_init 18 = .ok (.new 9, 3) := by decide +kernel
theorem dX1_init_21 : decode cX1_init 21 = .ok (.dup, 1) := by decide +kernel
theorem dX1_init_22 : decode cX1_init 22 = .ok (.bipush 10, 2) := by decide +kernel
theorem dX1_init_24 : decode cX1_init 24 = .ok (.invokespecial 11, 3) := by decide +kernel
theorem dX1_init_27 : decode cX1_init 27 = .ok (.putfield 20, 3) := by decide +kernel
theorem dX1_init_30 : decode cX1_init 30 = .ok (.return_, 1) := by decide +kernel
theorem dX1_note_0 : decode cX1_note 0 = .ok (.aload_n 0, 1) := by decide +kernel
theorem dX1_note_1 : decode cX1_note 1 = .ok (.getfield 23, 3) := by decide +kernel
theorem dX1_note_4 : decode cX1_note 4 = .ok (.bipush 10, 2) := by decide +kernel
theorem dX1_note_6 : decode cX1_note 6 = .ok (.if_icmp .lt 7, 3) := by decide +kernel
theorem dX1_note_9 : decode cX1_note 9 = .ok (.aload_n 0, 1) := by decide +kernel
theorem dX1_note_10 : decode cX1_note 10 = .ok (.invokevirtual 27, 3) := by decide +kernel
theorem dX1_note_13 : decode cX1_note 13 = .ok (.aload_n 0, 1) := by decide +kernel
theorem dX1_note_14 : decode cX1_note 14 = .ok (.getfield 14, 3) := by decide +kernel
theorem dX1_note_17 : decode cX1_note 17 = .ok (.aload_n 0, 1) := by decide +kernel
theorem dX1_note_18 : decode cX1_note 18 = .ok (.getfield 23, 3) := by decide +kernel
theorem dX1_note_21 : decode cX1_note 21 = .ok (.iload_n 1, 1) := by decide +kernel
theorem dX1_note_22 : decode cX1_note 22 = .ok (.invokevirtual 30, 3) := by decide +kernel
theorem dX1_note_25 : decode cX1_note 25 = .ok (.aload_n 0, 1) := by decide +kernel
theorem dX1_note_26 : decode cX1_note 26 = .ok (.getfield 20, 3) := by decide +kernel
theorem dX1_note_29 : decode cX1_note 29 = .ok (.aload_n 0, 1) := by decide +kernel
theorem dX1_note_30 : decode cX1_note 30 = .ok (.getfield 23, 3) := by decide +kernel
theorem dX1_note_33 : decode cX1_note 33 = .ok (.iload_n 2, 1) := by decide +kernel
theorem dX1_note_34 : decode cX1_note 34 = .ok (.invokevirtual 30, 3) := by decide +kernel
theorem dX1_note_37 : decode cX1_note 37 = .ok (.aload_n 0, 1) := by decide +kernel
theorem dX1_note_38 : decode cX1_note 38 = .ok (.dup, 1) := by decide +kernel
theorem dX1_note_39 : decode cX1_note 39 = .ok (.getfield 23, 3) := by decide +kernel
theorem dX1_note_42 : decode cX1_note 42 = .ok (.iconst 1, 1) := by decide +kernel
theorem dX1_note_43 : decode cX1_note 43 = .ok (.iadd, 1) := by decide +kernel
theorem dX1_note_44 : decode cX1_note 44 = .ok (.putfield 23, 3) := by decide +kernel
theorem dX1_note_47 : decode cX1_note 47 = .ok (.return_, 1) := by decide +kernel
theorem dX1_loseOldest_0 : decode cX1_loseOldest 0 = .ok (.iconst 1, 1) := by decide +kernel
theorem dX1_loseOldest_1 : decode cX1_loseOldest 1 = .ok (.istore_n 1, 1) := by decide +kernel
theorem dX1_loseOldest_2 : decode cX1_loseOldest 2 = .ok (.iload_n 1, 1) := by decide +kernel
theorem dX1_loseOldest_3 : decode cX1_loseOldest 3 = .ok (.bipush 10, 2) := by decide +kernel
theorem dX1_loseOldest_5 : decode cX1_loseOldest 5 = .ok (.if_icmp .ge 45, 3) := by decide +kernel
theorem dX1_loseOldest_8 : decode cX1_loseOldest 8 = .ok (.aload_n 0, 1) := by decide +kernel
theorem dX1_loseOldest_9 : decode cX1_loseOldest 9 = .ok (.getfield 14, 3) := by decide +kernel
theorem dX1_loseOldest_12 : decode cX1_loseOldest 12 = .ok (.iload_n 1, 1) := by decide +kernel
theorem dX1_loseOldest_13 : decode cX1_loseOldest 13 = .ok (.iconst 1, 1) := by decide +kernel
theorem dX1_loseOldest_14 : decode cX1_loseOldest 14 = .ok (.isub, 1) := by decide +kernel
theorem dX1_loseOldest_15 : decode cX1_loseOldest 15 = .ok (.aload_n 0, 1) := by decide +kernel
theorem dX1_loseOldest_16 : decode cX1_loseOldest 16 = .ok (.getfield 14, 3) := by decide +kernel
theorem dX1_loseOldest_19 : decode cX1_loseOldest 19 = .ok (.iload_n 1, 1) := by decide +kernel
theorem dX1_loseOldest_20 : decode cX1_loseOldest 20 = .ok (.invokevirtual 34, 3) := by decide +kernel
theorem dX1_loseOldest_23 : decode cX1_loseOldest 23 = .ok (.invokevirtual 30, 3) := by decide +kernel
theorem dX1_loseOldest_26 : decode cX1_loseOldest 26 = .ok (.aload_n 0, 1) := by decide +kernel
theorem dX1_loseOldest_27 : decode cX1_loseOldest 27 = .ok (.getfield 20, 3) := by decide +kernel
theorem dX1_loseOldest_30 : decode cX1_loseOldest 30 = .ok (.iload_n 1, 1) := by decide +kernel
theorem dX1_loseOldest_31 : decode cX1_loseOldest 31 = .ok (.iconst 1, 1) := by decide +kernel
theorem dX1_loseOldest_32 : decode cX1_loseOldest 32 = .ok (.isub, 1) := by decide +kernel
theorem dX1_loseOldest_33 : decode cX1_loseOldest 33 = .ok (.aload_n 0, 1) := by decide +kernel
theorem dX1_loseOldest_34 : decode cX1_loseOldest 34 = .ok (.getfield 20, 3) := by decide +kernel
theorem dX1_loseOldest_37 : decode cX1_loseOldest 37 = .ok (.iload_n 1, 1) := by decide +kernel
theorem dX1_loseOldest_38 : decode cX1_loseOldest 38 = .ok (.invokevirtual 34, 3) := by decide +kernel
theorem dX1_loseOldest_41 : decode cX1_loseOldest 41 = .ok (.invokevirtual 30, 3) := by decide +kernel
theorem dX1_loseOldest_44 : decode cX1_loseOldest 44 = .ok (.iinc 1 1, 3) := by decide +kernel
theorem dX1_loseOldest_47 : decode cX1_loseOldest 47 = .ok (.goto (-45), 3) := by decide +kernel
theorem dX1_loseOldest_50 : decode cX1_loseOldest 50 = .ok (.aload_n 0, 1) := by decide +kernel
theorem dX1_loseOldest_51 : decode cX1_loseOldest 51 = .ok (.bipush 9, 2) := by decide +kernel
theorem dX1_loseOldest_53 : decode cX1_loseOldest 53 = .ok (.putfield 23, 3) := by decide +kernel
theorem dX1_loseOldest_56 : decode cX1_loseOldest 56 = .ok (.return_, 1) := by decide +kernel
theorem dX2_init_0 : decode cX2_init 0 = .ok (.aload_n 0, 1) := by decide +kernel
theorem dX2_init_1 : decode cX2_init 1 = .ok (.invokespecial 1, 3) := by decide +kernel
theorem dX2_init_4 : decode cX2_init 4 = .ok (.aload_n 0, 1) := by decide +kernel
theorem dX2_init_5 : decode cX2_init 5 = .ok (.new 7, 3) := by decide +kernel
theorem dX2_init_8 : decode cX2_init 8 = .ok (.dup, 1) := by decide +kernel
theorem dX2_init_9 : decode cX2_init 9 = .ok (.invokespecial 9, 3) := by decide +kernel
theorem dX2_init_12 : decode cX2_init 12 = .ok (.putfield 10, 3) := by decide +kernel
theorem dX2_init_15 : decode cX2_init 15 = .ok (.return_, 1) := by decide +kernel
theorem dX3_init_0 : decode cX3_init 0 = .ok (.aload_n 0, 1) := by decide +kernel
theorem dX3_init_1 : decode cX3_init 1 = .ok (.invokespecial 3, 3) := by decide +kernel
theorem dX3_init_4 : decode cX3_init 4 = .ok (.aload_n 0, 1) := by decide +kernel
theorem dX3_init_5 : decode cX3_init 5 = .ok (.new 9, 3) := by decide +kernel
theorem dX3_init_8 : decode cX3_init 8 = .ok (.dup, 1) := by decide +kernel
theorem dX3_init_9 : decode cX3_init 9 = .ok (.bipush 6, 2) := by decide +kernel
theorem dX3_init_11 : decode cX3_init 11 = .ok (.invokespecial 11, 3) := by decide +kernel
theorem dX3_init_14 : decode cX3_init 14 = .ok (.putfield 14, 3) := by decide +kernel
theorem dX3_init_17 : decode cX3_init 17 = .ok (.return_, 1) := by decide +kernel
theorem dX3_compare_0 : decode cX3_compare 0 = .ok (.iconst 0, 1) := by decide +kernel
theorem dX3_compare_1 : decode cX3_compare 1 = .ok (.istore_n 3, 1) := by decide +kernel
theorem dX3_compare_2 : decode cX3_compare 2 = .ok (.iload_n 3, 1) := by decide +kernel
theorem dX3_compare_3 : decode cX3_compare 3 = .ok (.aload_n 1, 1) := by decide +kernel
theorem dX3_compare_4 : decode cX3_compare 4 = .ok (.getfield 20, 3) := by decide +kernel
theorem dX3_compare_7 : decode cX3_compare 7 = .ok (.if_icmp .ge 86, 3) := by decide +kernel
theorem dX3_compare_10 : decode cX3_compare 10 = .ok (.iconst 0, 1) := by decide +kernel
theorem dX3_compare_11 : decode cX3_compare 11 = .ok (.istore 4, 2) := by decide +kernel
theorem dX3_compare_13 : decode cX3_compare 13 = .ok (.iconst 0, 1) := by decide +kernel
theorem dX3_compare_14 : decode cX3_compare 14 = .ok (.istore 5, 2) := by decide +kernel
theorem dX3_compare_16 : decode cX3_compare 16 = .ok (.iload 5, 2) := by decide +kernel
theorem dX3_compare_18 : decode cX3_compare 18 = .ok (.aload_n 1, 1) := by decide +kernel
theorem dX3_compare_19 : decode cX3_compare 19 = .ok (.getfield 26, 3) := by decide +kernel
theorem dX3_compare_22 : decode cX3_compare 22 = .ok (.if_icmp .ge 55, 3) := by decide +kernel
theorem dX3_compare_25 : decode cX3_compare 25 = .ok (.aload_n 1, 1) := by decide +kernel
theorem dX3_compare_26 : decode cX3_compare 26 = .ok (.iload_n 2, 1) := by decide +kernel
theorem dX3_compare_27 : decode cX3_compare 27 = .ok (.iload 5, 2) := by decide +kernel
theorem dX3_compare_29 : decode cX3_compare 29 = .ok (.invokevirtual 29, 3) := by decide +kernel
theorem dX3_compare_32 : decode cX3_compare 32 = .ok (.istore 6, 2) := by decide +kernel
theorem dX3_compare_34 : decode cX3_compare 34 = .ok (.aload_n 1, 1) := by decide +kernel
theorem dX3_compare_35 : decode cX3_compare 35 = .ok (.iload_n 3, 1) := by decide +kernel
theorem dX3_compare_36 : decode cX3_compare 36 = .ok (.iload 5, 2) := by decide +kernel
theorem dX3_compare_38 : decode cX3_compare 38 = .ok (.invokevirtual 29, 3) := by decide +kernel
theorem dX3_compare_41 : decode cX3_compare 41 = .ok (.istore 7, 2) := by decide +kernel
theorem dX3_compare_43 : decode cX3_compare 43 = .ok (.iload 6, 2) := by decide +kernel
theorem dX3_compare_45 : decode cX3_compare 45 = .ok (.iconst 4, 1) := by decide +kernel
theorem dX3_compare_46 : decode cX3_compare 46 = .ok (.if_icmp .eq 25, 3) := by decide +kernel
theorem dX3_compare_49 : decode cX3_compare 49 = .ok (.iload 7, 2) := by decide +kernel
theorem dX3_compare_51 : decode cX3_compare 51 = .ok (.iconst 4, 1) := by decide +kernel
theorem dX3_compare_52 : decode cX3_compare 52 = .ok (.if_icmp .eq 19, 3) := by decide +kernel
theorem dX3_compare_55 : decode cX3_compare 55 = .ok (.iload 6, 2) := by decide +kernel
theorem dX3_compare_57 : decode cX3_compare 57 = .ok (.iload 7, 2) := by decide +kernel
theorem dX3_compare_59 : decode cX3_compare 59 = .ok (.if_icmp .eq 12, 3) := by decide +kernel
theorem dX3_compare_62 : decode cX3_compare 62 = .ok (.iload 4, 2) := by decide +kernel
theorem dX3_compare_64 : decode cX3_compare 64 = .ok (.iconst 1, 1) := by decide +kernel
theorem dX3_compare_65 : decode cX3_compare 65 = .ok (.iload 5, 2) := by decide +kernel
theorem dX3_compare_67 : decode cX3_compare 67 = .ok (.ishl, 1) := by decide +kernel
theorem dX3_compare_68 : decode cX3_compare 68 = .ok (.ior, 1) := by decide +kernel
theorem dX3_compare_69 : decode cX3_compare 69 = .ok (.istore 4, 2) := by decide +kernel
theorem dX3_compare_71 : decode cX3_compare 71 = .ok (.iinc 5 1, 3) := by decide +kernel
theorem dX3_compare_74 : decode cX3_compare 74 = .ok (.goto (-58), 3) := by decide +kernel
theorem dX3_compare_77 : decode cX3_compare 77 = .ok (.aload_n 0, 1) := by decide +kernel
theorem dX3_compare_78 : decode cX3_compare 78 = .ok (.getfield 14, 3) := by decide +kernel
theorem dX3_compare_81 : decode cX3_compare 81 = .ok (.iload_n 3, 1) := by decide +kernel
theorem dX3_compare_82 : decode cX3_compare 82 = .ok (.iload 4, 2) := by decide +kernel
theorem dX3_compare_84 : decode cX3_compare 84 = .ok (.invokevirtual 33, 3) := by decide +kernel
theorem dX3_compare_87 : decode cX3_compare 87 = .ok (.iinc 3 1, 3) := by decide +kernel
theorem dX3_compare_90 : decode cX3_compare 90 = .ok (.goto (-88), 3) := by decide +kernel
theorem dX3_compare_93 : decode cX3_compare 93 = .ok (.return_, 1) := by decide +kernel
theorem dX3_plain_0 : decode cX3_plain 0 = .ok (.bipush 8, 2) := by decide +kernel
theorem dX3_plain_2 : decode cX3_plain 2 = .ok (.istore_n 3, 1) := by decide +kernel
theorem dX3_plain_3 : decode cX3_plain 3 = .ok (.iconst 0, 1) := by decide +kernel
theorem dX3_plain_4 : decode cX3_plain 4 = .ok (.istore 4, 2) := by decide +kernel
theorem dX3_plain_6 : decode cX3_plain 6 = .ok (.iload 4, 2) := by decide +kernel
theorem dX3_plain_8 : decode cX3_plain 8 = .ok (.aload_n 1, 1) := by decide +kernel
theorem dX3_plain_9 : decode cX3_plain 9 = .ok (.getfield 20, 3) := by decide +kernel
theorem dX3_plain_12 : decode cX3_plain 12 = .ok (.if_icmp .ge 32, 3) := by decide +kernel
theorem dX3_plain_15 : decode cX3_plain 15 = .ok (.iload 4, 2) := by decide +kernel
theorem dX3_plain_17 : decode cX3_plain 17 = .ok (.iload_n 2, 1) := by decide +kernel
theorem dX3_plain_18 : decode cX3_plain 18 = .ok (.if_icmp .eq 20, 3) := by decide +kernel
theorem dX3_plain_21 : decode cX3_plain 21 = .ok (.iload_n 3, 1) := by decide +kernel
theorem dX3_plain_22 : decode cX3_plain 22 = .ok (.aload_n 0, 1) := by decide +kernel
theorem dX3_plain_23 : decode cX3_plain 23 = .ok (.getfield 14, 3) := by decide +kernel
theorem dX3_plain_26 : decode cX3_plain 26 = .ok (.iload 4, 2) := by decide +kernel
theorem dX3_plain_28 : decode cX3_plain 28 = .ok (.invokevirtual 37, 3) := by decide +kernel
theorem dX3_plain_31 : decode cX3_plain 31 = .ok (.invokestatic 40, 3) := by decide +kernel
theorem dX3_plain_34 : decode cX3_plain 34 = .ok (.invokestatic 45, 3) := by decide +kernel
theorem dX3_plain_37 : decode cX3_plain 37 = .ok (.istore_n 3, 1) := by decide +kernel
theorem dX3_plain_38 : decode cX3_plain 38 = .ok (.iinc 4 1, 3) := by decide +kernel
theorem dX3_plain_41 : decode cX3_plain 41 = .ok (.goto (-35), 3) := by decide +kernel
theorem dX3_plain_44 : decode cX3_plain 44 = .ok (.iload_n 3, 1) := by decide +kernel
theorem dX3_plain_45 : decode cX3_plain 45 = .ok (.ireturn, 1) := by decide +kernel
theorem dX3_find_0 : decode cX3_find 0 = .ok (.aload_n 0, 1) := by decide +kernel
theorem dX3_find_1 : decode cX3_find 1 = .ok (.bipush 9, 2) := by decide +kernel
theorem dX3_find_3 : decode cX3_find 3 = .ok (.putfield 50, 3) := by decide +kernel
theorem dX3_find_6 : decode cX3_find 6 = .ok (.iconst 0, 1) := by decide +kernel
theorem dX3_find_7 : decode cX3_find 7 = .ok (.istore_n 3, 1) := by decide +kernel
theorem dX3_find_8 : decode cX3_find 8 = .ok (.iload_n 3, 1) := by decide +kernel
theorem dX3_find_9 : decode cX3_find 9 = .ok (.aload_n 1, 1) := by decide +kernel
theorem dX3_find_10 : decode cX3_find 10 = .ok (.getfield 20, 3) := by decide +kernel
theorem dX3_find_13 : decode cX3_find 13 = .ok (.if_icmp .ge 55, 3) := by decide +kernel
theorem dX3_find_16 : decode cX3_find 16 = .ok (.iconst 0, 1) := by decide +kernel
theorem dX3_find_17 : decode cX3_find 17 = .ok (.istore 4, 2) := by decide +kernel
theorem dX3_find_19 : decode cX3_find 19 = .ok (.iload 4, 2) := by decide +kernel
theorem dX3_find_21 : decode cX3_find 21 = .ok (.aload_n 1, 1) := by decide +kernel
theorem dX3_find_22 : decode cX3_find 22 = .ok (.getfield 20, 3) := by decide +kernel
theorem dX3_find_25 : decode cX3_find 25 = .ok (.if_icmp .ge 37, 3) := by decide +kernel
theorem dX3_find_28 : decode cX3_find 28 = .ok (.iload_n 3, 1) := by decide +kernel
theorem dX3_find_29 : decode cX3_find 29 = .ok (.iload_n 2, 1) := by decide +kernel
theorem dX3_find_30 : decode cX3_find 30 = .ok (.if_icmp .eq 26, 3) := by decide +kernel
theorem dX3_find_33 : decode cX3_find 33 = .ok (.iload 4, 2) := by decide +kernel
theorem dX3_find_35 : decode cX3_find 35 = .ok (.iload_n 2, 1) := by decide +kernel
theorem dX3_find_36 : decode cX3_find 36 = .ok (.if_icmp .eq 20, 3) := by decide +kernel
theorem dX3_find_39 : decode cX3_find 39 = .ok (.iload_n 3, 1) := by decide +kernel
theorem dX3_find_40 : decode cX3_find 40 = .ok (.iload 4, 2) := by decide +kernel
theorem dX3_find_42 : decode cX3_find 42 = .ok (.if_icmp .eq 14, 3) := by decide +kernel
theorem dX3_find_45 : decode cX3_find 45 = .ok (.aload_n 0, 1) := by decide +kernel
theorem dX3_find_46 : decode cX3_find 46 = .ok (.iload_n 3, 1) := by decide +kernel
theorem dX3_find_47 : decode cX3_find 47 = .ok (.iload 4, 2) := by decide +kernel
theorem dX3_find_49 : decode cX3_find 49 = .ok (.aload_n 1, 1) := by decide +kernel
theorem dX3_find_50 : decode cX3_find 50 = .ok (.getfield 26, 3) := by decide +kernel
theorem dX3_find_53 : decode cX3_find 53 = .ok (.invokevirtual 53, 3) := by decide +kernel
theorem dX3_find_56 : decode cX3_find 56 = .ok (.iinc 4 1, 3) := by decide +kernel
theorem dX3_find_59 : decode cX3_find 59 = .ok (.goto (-40), 3) := by decide +kernel
theorem dX3_find_62 : decode cX3_find 62 = .ok (.iinc 3 1, 3) := by decide +kernel
theorem dX3_find_65 : decode cX3_find 65 = .ok (.goto (-57), 3) := by decide +kernel
theorem dX3_find_68 : decode cX3_find 68 = .ok (.return_, 1) := by decide +kernel
theorem dX3_tryTwo_0 : decode cX3_tryTwo 0 = .ok (.iconst 1, 1) := by decide +kernel
theorem dX3_tryTwo_1 : decode cX3_tryTwo 1 = .ok (.istore 4, 2) := by decide +kernel
theorem dX3_tryTwo_3 : decode cX3_tryTwo 3 = .ok (.iload 4, 2) := by decide +kernel
theorem dX3_tryTwo_5 : decode cX3_tryTwo 5 = .ok (.iload_n 3, 1) := by decide +kernel
theorem dX3_tryTwo_6 : decode cX3_tryTwo 6 = .ok (.if_icmp .ge 81, 3) := by decide +kernel
theorem dX3_tryTwo_9 : decode cX3_tryTwo 9 = .ok (.iconst 1, 1) := by decide +kernel
theorem dX3_tryTwo_10 : decode cX3_tryTwo 10 = .ok (.iload 4, 2) := by decide +kernel
theorem dX3_tryTwo_12 : decode cX3_tryTwo 12 = .ok (.ishl, 1) := by decide +kernel
theorem dX3_tryTwo_13 : decode cX3_tryTwo 13 = .ok (.iconst 1, 1) := by decide +kernel
theorem dX3_tryTwo_14 : decode cX3_tryTwo 14 = .ok (.isub, 1) := by decide +kernel
theorem dX3_tryTwo_15 : decode cX3_tryTwo 15 = .ok (.istore 5, 2) := by decide +kernel
theorem dX3_tryTwo_17 : decode cX3_tryTwo 17 = .ok (.aload_n 0, 1) := by decide +kernel
theorem dX3_tryTwo_18 : decode cX3_tryTwo 18 = .ok (.getfield 14, 3) := by decide +kernel
theorem dX3_tryTwo_21 : decode cX3_tryTwo 21 = .ok (.iload_n 1, 1) := by decide +kernel
theorem dX3_tryTwo_22 : decode cX3_tryTwo 22 = .ok (.invokevirtual 37, 3) := by decide +kernel
theorem dX3_tryTwo_25 : decode cX3_tryTwo 25 = .ok (.iload 5, 2) := by decide +kernel
theorem dX3_tryTwo_27 : decode cX3_tryTwo 27 = .ok (.iand, 1) := by decide +kernel
theorem dX3_tryTwo_28 : decode cX3_tryTwo 28 = .ok (.invokestatic 40, 3) := by decide +kernel
theorem dX3_tryTwo_31 : decode cX3_tryTwo 31 = .ok (.aload_n 0, 1) := by decide +kernel
theorem dX3_tryTwo_32 : decode cX3_tryTwo 32 = .ok (.getfield 14, 3) := by decide +kernel
theorem dX3_tryTwo_35 : decode cX3_tryTwo 35 = .ok (.iload_n 2, 1) := by decide +kernel
theorem dX3_tryTwo_36 : decode cX3_tryTwo 36 = .ok (.invokevirtual 37, 3) := by decide +kernel
theorem dX3_tryTwo_39 : decode cX3_tryTwo 39 = .ok (.iload 5, 2) := by decide +kernel
theorem dX3_tryTwo_41 : decode cX3_tryTwo 41 = .ok (.iconst (-1), 1) := by decide +kernel
theorem dX3_tryTwo_42 : decode cX3_tryTwo 42 = .ok (.ixor, 1) := by decide +kernel
theorem dX3_tryTwo_43 : decode cX3_tryTwo 43 = .ok (.iand, 1) := by decide +kernel
theorem dX3_tryTwo_44 : decode cX3_tryTwo 44 = .ok (.invokestatic 40, 3) := by decide +kernel
theorem dX3_tryTwo_47 : decode cX3_tryTwo 47 = .ok (.iadd, 1) := by decide +kernel
theorem dX3_tryTwo_48 : decode cX3_tryTwo 48 = .ok (.istore 6, 2) := by decide +kernel
theorem dX3_tryTwo_50 : decode cX3_tryTwo 50 = .ok (.iload 6, 2) := by decide +kernel
theorem dX3_tryTwo_52 : decode cX3_tryTwo 52 = .ok (.aload_n 0, 1) := by decide +kernel
theorem dX3_tryTwo_53 : decode cX3_tryTwo 53 = .ok (.getfield 50, 3) := by decide +kernel
theorem dX3_tryTwo_56 : decode cX3_tryTwo 56 = .ok (.if_icmp .ge 25, 3) := by decide +kernel
theorem dX3_tryTwo_59 : decode cX3_tryTwo 59 = .ok (.aload_n 0, 1) := by decide +kernel
theorem dX3_tryTwo_60 : decode cX3_tryTwo 60 = .ok (.iload 6, 2) := by decide +kernel
theorem dX3_tryTwo_62 : decode cX3_tryTwo 62 = .ok (.putfield 50, 3) := by decide +kernel
theorem dX3_tryTwo_65 : decode cX3_tryTwo 65 = .ok (.aload_n 0, 1) := by decide +kernel
theorem dX3_tryTwo_66 : decode cX3_tryTwo 66 = .ok (.iload_n 1, 1) := by decide +kernel
theorem dX3_tryTwo_67 : decode cX3_tryTwo 67 = .ok (.putfield 57, 3) := by decide +kernel
theorem dX3_tryTwo_70 : decode cX3_tryTwo 70 = .ok (.aload_n 0, 1) := by decide +kernel
theorem dX3_tryTwo_71 : decode cX3_tryTwo 71 = .ok (.iload_n 2, 1) := by decide +kernel
theorem dX3_tryTwo_72 : decode cX3_tryTwo 72 = .ok (.putfield 60, 3) := by decide +kernel
theorem dX3_tryTwo_75 : decode cX3_tryTwo 75 = .ok (.aload_n 0, 1) := by decide +kernel
theorem dX3_tryTwo_76 : decode cX3_tryTwo 76 = .ok (.iload 4, 2) := by decide +kernel
theorem dX3_tryTwo_78 : decode cX3_tryTwo 78 = .ok (.putfield 63, 3) := by decide +kernel
theorem dX3_tryTwo_81 : decode cX3_tryTwo 81 = .ok (.iinc 4 1, 3) := by decide +kernel
theorem dX3_tryTwo_84 : decode cX3_tryTwo 84 = .ok (.goto (-81), 3) := by decide +kernel
theorem dX3_tryTwo_87 : decode cX3_tryTwo 87 = .ok (.return_, 1) := by decide +kernel
theorem dX4_init_0 : decode cX4_init 0 = .ok (.aload_n 0, 1) := by decide +kernel
theorem dX4_init_1 : decode cX4_init 1 = .ok (.invokespecial 3, 3) := by decide +kernel
theorem dX4_init_4 : decode cX4_init 4 = .ok (.aload_n 0, 1) := by decide +kernel
theorem dX4_init_5 : decode cX4_init 5 = .ok (.new 9, 3) := by decide +kernel
theorem dX4_init_8 : decode cX4_init 8 = .ok (.dup, 1) := by decide +kernel
theorem dX4_init_9 : decode cX4_init 9 = .ok (.bipush 48, 2) := by decide +kernel
theorem dX4_init_11 : decode cX4_init 11 = .ok (.invokespecial 11, 3) := by decide +kernel
theorem dX4_init_14 : decode cX4_init 14 = .ok (.putfield 14, 3) := by decide +kernel
theorem dX4_init_17 : decode cX4_init 17 = .ok (.return_, 1) := by decide +kernel
theorem dX4_hasCopy_0 : decode cX4_hasCopy 0 = .ok (.iload_n 1, 1) := by decide +kernel
theorem dX4_hasCopy_1 : decode cX4_hasCopy 1 = .ok (.ifCond .lt 15, 3) := by decide +kernel
theorem dX4_hasCopy_4 : decode cX4_hasCopy 4 = .ok (.iload_n 1, 1) := by decide +kernel
theorem dX4_hasCopy_5 : decode cX4_hasCopy 5 = .ok (.aload_n 0, 1) := by decide +kernel
theorem dX4_hasCopy_6 : decode cX4_hasCopy 6 = .ok (.getfield 20, 3) := by decide +kernel
theorem dX4_hasCopy_9 : decode cX4_hasCopy 9 = .ok (.if_icmp .ge 7, 3) := by decide +kernel
theorem dX4_hasCopy_12 : decode cX4_hasCopy 12 = .ok (.iconst 1, 1) := by decide +kernel
theorem dX4_hasCopy_13 : decode cX4_hasCopy 13 = .ok (.goto 4, 3) := by decide +kernel
theorem dX4_hasCopy_16 : decode cX4_hasCopy 16 = .ok (.iconst 0, 1) := by decide +kernel
theorem dX4_hasCopy_17 : decode cX4_hasCopy 17 = .ok (.ireturn, 1) := by decide +kernel
theorem dX4_hasPlace_0 : decode cX4_hasPlace 0 = .ok (.iload_n 1, 1) := by decide +kernel
theorem dX4_hasPlace_1 : decode cX4_hasPlace 1 = .ok (.ifCond .lt 15, 3) := by decide +kernel
theorem dX4_hasPlace_4 : decode cX4_hasPlace 4 = .ok (.iload_n 1, 1) := by decide +kernel
theorem dX4_hasPlace_5 : decode cX4_hasPlace 5 = .ok (.aload_n 0, 1) := by decide +kernel
theorem dX4_hasPlace_6 : decode cX4_hasPlace 6 = .ok (.getfield 24, 3) := by decide +kernel
theorem dX4_hasPlace_9 : decode cX4_hasPlace 9 = .ok (.if_icmp .ge 7, 3) := by decide +kernel
theorem dX4_hasPlace_12 : decode cX4_hasPlace 12 = .ok (.iconst 1, 1) := by decide +kernel
theorem dX4_hasPlace_13 : decode cX4_hasPlace 13 = .ok (.goto 4, 3) := by decide +kernel
theorem dX4_hasPlace_16 : decode cX4_hasPlace 16 = .ok (.iconst 0, 1) := by decide +kernel
theorem dX4_hasPlace_17 : decode cX4_hasPlace 17 = .ok (.ireturn, 1) := by decide +kernel
theorem dX4_has_0 : decode cX4_has 0 = .ok (.aload_n 0, 1) := by decide +kernel
theorem dX4_has_1 : decode cX4_has 1 = .ok (.iload_n 1, 1) := by decide +kernel
theorem dX4_has_2 : decode cX4_has 2 = .ok (.invokevirtual 27, 3) := by decide +kernel
theorem dX4_has_5 : decode cX4_has 5 = .ok (.ifCond .eq 15, 3) := by decide +kernel
theorem dX4_has_8 : decode cX4_has 8 = .ok (.aload_n 0, 1) := by decide +kernel
theorem dX4_has_9 : decode cX4_has 9 = .ok (.iload_n 2, 1) := by decide +kernel
theorem dX4_has_10 : decode cX4_has 10 = .ok (.invokevirtual 31, 3) := by decide +kernel
theorem dX4_has_13 : decode cX4_has 13 = .ok (.ifCond .eq 7, 3) := by decide +kernel
theorem dX4_has_16 : decode cX4_has 16 = .ok (.iconst 1, 1) := by decide +kernel
theorem dX4_has_17 : decode cX4_has 17 = .ok (.goto 4, 3) := by decide +kernel
theorem dX4_has_20 : decode cX4_has 20 = .ok (.iconst 0, 1) := by decide +kernel
theorem dX4_has_21 : decode cX4_has 21 = .ok (.ireturn, 1) := by decide +kernel
theorem dX4_cellOf_0 : decode cX4_cellOf 0 = .ok (.iload_n 1, 1) := by decide +kernel
theorem dX4_cellOf_1 : decode cX4_cellOf 1 = .ok (.bipush 8, 2) := by decide +kernel
theorem dX4_cellOf_3 : decode cX4_cellOf 3 = .ok (.imul, 1) := by decide +kernel
theorem dX4_cellOf_4 : decode cX4_cellOf 4 = .ok (.iload_n 2, 1) := by decide +kernel
theorem dX4_cellOf_5 : decode cX4_cellOf 5 = .ok (.iadd, 1) := by decide +kernel
theorem dX4_cellOf_6 : decode cX4_cellOf 6 = .ok (.ireturn, 1) := by decide +kernel
theorem dX4_at_0 : decode cX4_at 0 = .ok (.aload_n 0, 1) := by decide +kernel
theorem dX4_at_1 : decode cX4_at 1 = .ok (.iload_n 1, 1) := by decide +kernel
theorem dX4_at_2 : decode cX4_at 2 = .ok (.iload_n 2, 1) := by decide +kernel
theorem dX4_at_3 : decode cX4_at 3 = .ok (.invokevirtual 34, 3) := by decide +kernel
theorem dX4_at_6 : decode cX4_at 6 = .ok (.ifCond .eq 19, 3) := by decide +kernel
theorem dX4_at_9 : decode cX4_at 9 = .ok (.aload_n 0, 1) := by decide +kernel
theorem dX4_at_10 : decode cX4_at 10 = .ok (.getfield 14, 3) := by decide +kernel
theorem dX4_at_13 : decode cX4_at 13 = .ok (.aload_n 0, 1) := by decide +kernel
theorem dX4_at_14 : decode cX4_at 14 = .ok (.iload_n 1, 1) := by decide +kernel
theorem dX4_at_15 : decode cX4_at 15 = .ok (.iload_n 2, 1) := by decide +kernel
theorem dX4_at_16 : decode cX4_at 16 = .ok (.invokevirtual 38, 3) := by decide +kernel
theorem dX4_at_19 : decode cX4_at 19 = .ok (.invokevirtual 42, 3) := by decide +kernel
theorem dX4_at_22 : decode cX4_at 22 = .ok (.goto 4, 3) := by decide +kernel
theorem dX4_at_25 : decode cX4_at 25 = .ok (.iconst 4, 1) := by decide +kernel
theorem dX4_at_26 : decode cX4_at 26 = .ok (.ireturn, 1) := by decide +kernel
theorem dX4_put_0 : decode cX4_put 0 = .ok (.aload_n 0, 1) := by decide +kernel
theorem dX4_put_1 : decode cX4_put 1 = .ok (.getfield 14, 3) := by decide +kernel
theorem dX4_put_4 : decode cX4_put 4 = .ok (.aload_n 0, 1) := by decide +kernel
theorem dX4_put_5 : decode cX4_put 5 = .ok (.iload_n 1, 1) := by decide +kernel
theorem dX4_put_6 : decode cX4_put 6 = .ok (.iload_n 2, 1) := by decide +kernel
theorem dX4_put_7 : decode cX4_put 7 = .ok (.invokevirtual 38, 3) := by decide +kernel
theorem dX4_put_10 : decode cX4_put 10 = .ok (.iload_n 3, 1) := by decide +kernel
theorem dX4_put_11 : decode cX4_put 11 = .ok (.invokevirtual 46, 3) := by decide +kernel
theorem dX4_put_14 : decode cX4_put 14 = .ok (.return_, 1) := by decide +kernel
theorem dX4_take_0 : decode cX4_take 0 = .ok (.aload_n 0, 1) := by decide +kernel
theorem dX4_take_1 : decode cX4_take 1 = .ok (.getfield 14, 3) := by decide +kernel
theorem dX4_take_4 : decode cX4_take 4 = .ok (.aload_n 1, 1) := by decide +kernel
theorem dX4_take_5 : decode cX4_take 5 = .ok (.getfield 14, 3) := by decide +kernel
theorem dX4_take_8 : decode cX4_take 8 = .ok (.invokevirtual 50, 3) := by decide +kernel
theorem dX4_take_11 : decode cX4_take 11 = .ok (.aload_n 0, 1) := by decide +kernel
theorem dX4_take_12 : decode cX4_take 12 = .ok (.aload_n 1, 1) := by decide +kernel
theorem dX4_take_13 : decode cX4_take 13 = .ok (.getfield 20, 3) := by decide +kernel
theorem dX4_take_16 : decode cX4_take 16 = .ok (.putfield 20, 3) := by decide +kernel
theorem dX4_take_19 : decode cX4_take 19 = .ok (.aload_n 0, 1) := by decide +kernel
theorem dX4_take_20 : decode cX4_take 20 = .ok (.aload_n 1, 1) := by decide +kernel
theorem dX4_take_21 : decode cX4_take 21 = .ok (.getfield 24, 3) := by decide +kernel
theorem dX4_take_24 : decode cX4_take 24 = .ok (.putfield 24, 3) := by decide +kernel
theorem dX4_take_27 : decode cX4_take 27 = .ok (.return_, 1) := by decide +kernel
theorem dX4_setsOf_0 : decode cX4_setsOf 0 = .ok (.iconst (-1), 1) := by decide +kernel
theorem dX4_setsOf_1 : decode cX4_setsOf 1 = .ok (.istore_n 2, 1) := by decide +kernel
theorem dX4_setsOf_2 : decode cX4_setsOf 2 = .ok (.iconst 0, 1) := by decide +kernel
theorem dX4_setsOf_3 : decode cX4_setsOf 3 = .ok (.istore_n 3, 1) := by decide +kernel
theorem dX4_setsOf_4 : decode cX4_setsOf 4 = .ok (.iload_n 3, 1) := by decide +kernel
theorem dX4_setsOf_5 : decode cX4_setsOf 5 = .ok (.aload_n 0, 1) := by decide +kernel
theorem dX4_setsOf_6 : decode cX4_setsOf 6 = .ok (.getfield 24, 3) := by decide +kernel
theorem dX4_setsOf_9 : decode cX4_setsOf 9 = .ok (.if_icmp .ge 39, 3) := by decide +kernel
theorem dX4_setsOf_12 : decode cX4_setsOf 12 = .ok (.aload_n 0, 1) := by decide +kernel
theorem dX4_setsOf_13 : decode cX4_setsOf 13 = .ok (.iload_n 1, 1) := by decide +kernel
theorem dX4_setsOf_14 : decode cX4_setsOf 14 = .ok (.iload_n 3, 1) := by decide +kernel
theorem dX4_setsOf_15 : decode cX4_setsOf 15 = .ok (.invokevirtual 54, 3) := by decide +kernel
theorem dX4_setsOf_18 : decode cX4_setsOf 18 = .ok (.istore 4, 2) := by decide +kernel
theorem dX4_setsOf_20 : decode cX4_setsOf 20 = .ok (.iload 4, 2) := by decide +kernel
theorem dX4_setsOf_22 : decode cX4_setsOf 22 = .ok (.iconst 4, 1) := by decide +kernel
theorem dX4_setsOf_23 : decode cX4_setsOf 23 = .ok (.if_icmp .eq 19, 3) := by decide +kernel
theorem dX4_setsOf_26 : decode cX4_setsOf 26 = .ok (.iload_n 2, 1) := by decide +kernel
theorem dX4_setsOf_27 : decode cX4_setsOf 27 = .ok (.iload_n 3, 1) := by decide +kernel
theorem dX4_setsOf_28 : decode cX4_setsOf 28 = .ok (.invokestatic 56, 3) := by decide +kernel
theorem dX4_setsOf_31 : decode cX4_setsOf 31 = .ok (.iconst (-1), 1) := by decide +kernel
theorem dX4_setsOf_32 : decode cX4_setsOf 32 = .ok (.ixor, 1) := by decide +kernel
theorem dX4_setsOf_33 : decode cX4_setsOf 33 = .ok (.iload_n 3, 1) := by decide +kernel
theorem dX4_setsOf_34 : decode cX4_setsOf 34 = .ok (.iload 4, 2) := by decide +kernel
theorem dX4_setsOf_36 : decode cX4_setsOf 36 = .ok (.invokestatic 59, 3) := by decide +kernel
theorem dX4_setsOf_39 : decode cX4_setsOf 39 = .ok (.ior, 1) := by decide +kernel
theorem dX4_setsOf_40 : decode cX4_setsOf 40 = .ok (.iand, 1) := by decide +kernel
theorem dX4_setsOf_41 : decode cX4_setsOf 41 = .ok (.istore_n 2, 1) := by decide +kernel
theorem dX4_setsOf_42 : decode cX4_setsOf 42 = .ok (.iinc 3 1, 3) := by decide +kernel
