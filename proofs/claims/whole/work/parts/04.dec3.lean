theorem dX8_betterTree_1 : decode cX8_betterTree 1 = .ok (.getfield 97, 3) := by decide +kernel
theorem dX8_betterTree_4 : decode cX8_betterTree 4 = .ok (.istore_n 1, 1) := by decide +kernel
theorem dX8_betterTree_5 : decode cX8_betterTree 5 = .ok (.aload_n 0, 1) := by decide +kernel
theorem dX8_betterTree_6 : decode cX8_betterTree 6 = .ok (.getfield 69, 3) := by decide +kernel
theorem dX8_betterTree_9 : decode cX8_betterTree 9 = .ok (.aload_n 0, 1) := by decide +kernel
theorem dX8_betterTree_10 : decode cX8_betterTree 10 = .ok (.getfield 97, 3) := by decide +kernel
theorem dX8_betterTree_13 : decode cX8_betterTree 13 = .ok (.invokevirtual 152, 3) := by decide +kernel
theorem dX8_betterTree_16 : decode cX8_betterTree 16 = .ok (.istore_n 2, 1) := by decide +kernel
theorem dX8_betterTree_17 : decode cX8_betterTree 17 = .ok (.iconst 3, 1) := by decide +kernel
theorem dX8_betterTree_18 : decode cX8_betterTree 18 = .ok (.istore_n 3, 1) := by decide +kernel
theorem dX8_betterTree_19 : decode cX8_betterTree 19 = .ok (.iload_n 3, 1) := by decide +kernel
theorem dX8_betterTree_20 : decode cX8_betterTree 20 = .ok (.aload_n 0, 1) := by decide +kernel
theorem dX8_betterTree_21 : decode cX8_betterTree 21 = .ok (.getfield 19, 3) := by decide +kernel
theorem dX8_betterTree_24 : decode cX8_betterTree 24 = .ok (.getfield 113, 3) := by decide +kernel
theorem dX8_betterTree_27 : decode cX8_betterTree 27 = .ok (.if_icmp .ge 115, 3) := by decide +kernel
theorem dX8_betterTree_30 : decode cX8_betterTree 30 = .ok (.aload_n 0, 1) := by decide +kernel
theorem dX8_betterTree_31 : decode cX8_betterTree 31 = .ok (.getfield 97, 3) := by decide +kernel
theorem dX8_betterTree_34 : decode cX8_betterTree 34 = .ok (.aload_n 0, 1) := by decide +kernel
theorem dX8_betterTree_35 : decode cX8_betterTree 35 = .ok (.getfield 97, 3) := by decide +kernel
theorem dX8_betterTree_38 : decode cX8_betterTree 38 = .ok (.iload_n 3, 1) := by decide +kernel
theorem dX8_betterTree_39 : decode cX8_betterTree 39 = .ok (.invokestatic 277, 3) := by decide +kernel
theorem dX8_betterTree_42 : decode cX8_betterTree 42 = .ok (.iload_n 3, 1) := by decide +kernel
theorem dX8_betterTree_43 : decode cX8_betterTree 43 = .ok (.invokestatic 280, 3) := by decide +kernel
theorem dX8_betterTree_46 : decode cX8_betterTree 46 = .ok (.imul, 1) := by decide +kernel
theorem dX8_betterTree_47 : decode cX8_betterTree 47 = .ok (.isub, 1) := by decide +kernel
theorem dX8_betterTree_48 : decode cX8_betterTree 48 = .ok (.istore 4, 2) := by decide +kernel
theorem dX8_betterTree_50 : decode cX8_betterTree 50 = .ok (.iconst 0, 1) := by decide +kernel
theorem dX8_betterTree_51 : decode cX8_betterTree 51 = .ok (.istore 5, 2) := by decide +kernel
theorem dX8_betterTree_53 : decode cX8_betterTree 53 = .ok (.iload 5, 2) := by decide +kernel
theorem dX8_betterTree_55 : decode cX8_betterTree 55 = .ok (.iconst 2, 1) := by decide +kernel
theorem dX8_betterTree_56 : decode cX8_betterTree 56 = .ok (.iload_n 3, 1) := by decide +kernel
theorem dX8_betterTree_57 : decode cX8_betterTree 57 = .ok (.imul, 1) := by decide +kernel
theorem dX8_betterTree_58 : decode cX8_betterTree 58 = .ok (.iconst 3, 1) := by decide +kernel
theorem dX8_betterTree_59 : decode cX8_betterTree 59 = .ok (.isub, 1) := by decide +kernel
theorem dX8_betterTree_60 : decode cX8_betterTree 60 = .ok (.if_icmp .ge 76, 3) := by decide +kernel
theorem dX8_betterTree_63 : decode cX8_betterTree 63 = .ok (.iload 4, 2) := by decide +kernel
theorem dX8_betterTree_65 : decode cX8_betterTree 65 = .ok (.iload 5, 2) := by decide +kernel
theorem dX8_betterTree_67 : decode cX8_betterTree 67 = .ok (.iload_n 3, 1) := by decide +kernel
theorem dX8_betterTree_68 : decode cX8_betterTree 68 = .ok (.invokestatic 280, 3) := by decide +kernel
theorem dX8_betterTree_71 : decode cX8_betterTree 71 = .ok (.imul, 1) := by decide +kernel
theorem dX8_betterTree_72 : decode cX8_betterTree 72 = .ok (.iadd, 1) := by decide +kernel
theorem dX8_betterTree_73 : decode cX8_betterTree 73 = .ok (.istore 6, 2) := by decide +kernel
theorem dX8_betterTree_75 : decode cX8_betterTree 75 = .ok (.aload_n 0, 1) := by decide +kernel
theorem dX8_betterTree_76 : decode cX8_betterTree 76 = .ok (.getfield 69, 3) := by decide +kernel
theorem dX8_betterTree_79 : decode cX8_betterTree 79 = .ok (.iload 6, 2) := by decide +kernel
theorem dX8_betterTree_81 : decode cX8_betterTree 81 = .ok (.invokevirtual 152, 3) := by decide +kernel
theorem dX8_betterTree_84 : decode cX8_betterTree 84 = .ok (.istore 7, 2) := by decide +kernel
theorem dX8_betterTree_86 : decode cX8_betterTree 86 = .ok (.iload_n 1, 1) := by decide +kernel
theorem dX8_betterTree_87 : decode cX8_betterTree 87 = .ok (.aload_n 0, 1) := by decide +kernel
theorem dX8_betterTree_88 : decode cX8_betterTree 88 = .ok (.getfield 97, 3) := by decide +kernel
theorem dX8_betterTree_91 : decode cX8_betterTree 91 = .ok (.if_icmp .eq 19, 3) := by decide +kernel
theorem dX8_betterTree_94 : decode cX8_betterTree 94 = .ok (.iload 7, 2) := by decide +kernel
theorem dX8_betterTree_96 : decode cX8_betterTree 96 = .ok (.iload_n 2, 1) := by decide +kernel
theorem dX8_betterTree_97 : decode cX8_betterTree 97 = .ok (.if_icmp .ne 13, 3) := by decide +kernel
theorem dX8_betterTree_100 : decode cX8_betterTree 100 = .ok (.iload 6, 2) := by decide +kernel
theorem dX8_betterTree_102 : decode cX8_betterTree 102 = .ok (.iload_n 1, 1) := by decide +kernel
theorem dX8_betterTree_103 : decode cX8_betterTree 103 = .ok (.if_icmp .ge 7, 3) := by decide +kernel
theorem dX8_betterTree_106 : decode cX8_betterTree 106 = .ok (.iconst 1, 1) := by decide +kernel
theorem dX8_betterTree_107 : decode cX8_betterTree 107 = .ok (.goto 4, 3) := by decide +kernel
theorem dX8_betterTree_110 : decode cX8_betterTree 110 = .ok (.iconst 0, 1) := by decide +kernel
theorem dX8_betterTree_111 : decode cX8_betterTree 111 = .ok (.istore 8, 2) := by decide +kernel
theorem dX8_betterTree_113 : decode cX8_betterTree 113 = .ok (.iload 7, 2) := by decide +kernel
theorem dX8_betterTree_115 : decode cX8_betterTree 115 = .ok (.iload_n 2, 1) := by decide +kernel
theorem dX8_betterTree_116 : decode cX8_betterTree 116 = .ok (.if_icmp .lt 8, 3) := by decide +kernel
theorem dX8_betterTree_119 : decode cX8_betterTree 119 = .ok (.iload 8, 2) := by decide +kernel
theorem dX8_betterTree_121 : decode cX8_betterTree 121 = .ok (.ifCond .eq 9, 3) := by decide +kernel
theorem dX8_betterTree_124 : decode cX8_betterTree 124 = .ok (.iload 6, 2) := by decide +kernel
theorem dX8_betterTree_126 : decode cX8_betterTree 126 = .ok (.istore_n 1, 1) := by decide +kernel
theorem dX8_betterTree_127 : decode cX8_betterTree 127 = .ok (.iload 7, 2) := by decide +kernel
theorem dX8_betterTree_129 : decode cX8_betterTree 129 = .ok (.istore_n 2, 1) := by decide +kernel
theorem dX8_betterTree_130 : decode cX8_betterTree 130 = .ok (.iinc 5 1, 3) := by decide +kernel
theorem dX8_betterTree_133 : decode cX8_betterTree 133 = .ok (.goto (-80), 3) := by decide +kernel
theorem dX8_betterTree_136 : decode cX8_betterTree 136 = .ok (.iinc 3 1, 3) := by decide +kernel
theorem dX8_betterTree_139 : decode cX8_betterTree 139 = .ok (.goto (-120), 3) := by decide +kernel
theorem dX8_betterTree_142 : decode cX8_betterTree 142 = .ok (.iload_n 1, 1) := by decide +kernel
theorem dX8_betterTree_143 : decode cX8_betterTree 143 = .ok (.ireturn, 1) := by decide +kernel
theorem dX8_bound_0 : decode cX8_bound 0 = .ok (.iconst 0, 1) := by decide +kernel
theorem dX8_bound_1 : decode cX8_bound 1 = .ok (.istore_n 1, 1) := by decide +kernel
theorem dX8_bound_2 : decode cX8_bound 2 = .ok (.iconst 0, 1) := by decide +kernel
theorem dX8_bound_3 : decode cX8_bound 3 = .ok (.istore_n 2, 1) := by decide +kernel
theorem dX8_bound_4 : decode cX8_bound 4 = .ok (.iload_n 2, 1) := by decide +kernel
theorem dX8_bound_5 : decode cX8_bound 5 = .ok (.aload_n 0, 1) := by decide +kernel
theorem dX8_bound_6 : decode cX8_bound 6 = .ok (.getfield 19, 3) := by decide +kernel
theorem dX8_bound_9 : decode cX8_bound 9 = .ok (.getfield 212, 3) := by decide +kernel
theorem dX8_bound_12 : decode cX8_bound 12 = .ok (.if_icmp .ge 70, 3) := by decide +kernel
theorem dX8_bound_15 : decode cX8_bound 15 = .ok (.iconst 0, 1) := by decide +kernel
theorem dX8_bound_16 : decode cX8_bound 16 = .ok (.istore_n 3, 1) := by decide +kernel
theorem dX8_bound_17 : decode cX8_bound 17 = .ok (.iconst 0, 1) := by decide +kernel
theorem dX8_bound_18 : decode cX8_bound 18 = .ok (.istore 4, 2) := by decide +kernel
theorem dX8_bound_20 : decode cX8_bound 20 = .ok (.iload 4, 2) := by decide +kernel
theorem dX8_bound_22 : decode cX8_bound 22 = .ok (.aload_n 0, 1) := by decide +kernel
theorem dX8_bound_23 : decode cX8_bound 23 = .ok (.getfield 19, 3) := by decide +kernel
theorem dX8_bound_26 : decode cX8_bound 26 = .ok (.getfield 113, 3) := by decide +kernel
theorem dX8_bound_29 : decode cX8_bound 29 = .ok (.if_icmp .ge 34, 3) := by decide +kernel
theorem dX8_bound_32 : decode cX8_bound 32 = .ok (.aload_n 0, 1) := by decide +kernel
theorem dX8_bound_33 : decode cX8_bound 33 = .ok (.getfield 19, 3) := by decide +kernel
theorem dX8_bound_36 : decode cX8_bound 36 = .ok (.iload 4, 2) := by decide +kernel
theorem dX8_bound_38 : decode cX8_bound 38 = .ok (.iload_n 2, 1) := by decide +kernel
theorem dX8_bound_39 : decode cX8_bound 39 = .ok (.invokevirtual 120, 3) := by decide +kernel
theorem dX8_bound_42 : decode cX8_bound 42 = .ok (.istore 5, 2) := by decide +kernel
theorem dX8_bound_44 : decode cX8_bound 44 = .ok (.iload 5, 2) := by decide +kernel
theorem dX8_bound_46 : decode cX8_bound 46 = .ok (.iconst 4, 1) := by decide +kernel
theorem dX8_bound_47 : decode cX8_bound 47 = .ok (.if_icmp .eq 10, 3) := by decide +kernel
theorem dX8_bound_50 : decode cX8_bound 50 = .ok (.iload_n 3, 1) := by decide +kernel
theorem dX8_bound_51 : decode cX8_bound 51 = .ok (.iconst 1, 1) := by decide +kernel
theorem dX8_bound_52 : decode cX8_bound 52 = .ok (.iload 5, 2) := by decide +kernel
theorem dX8_bound_54 : decode cX8_bound 54 = .ok (.ishl, 1) := by decide +kernel
theorem dX8_bound_55 : decode cX8_bound 55 = .ok (.ior, 1) := by decide +kernel
theorem dX8_bound_56 : decode cX8_bound 56 = .ok (.istore_n 3, 1) := by decide +kernel
theorem dX8_bound_57 : decode cX8_bound 57 = .ok (.iinc 4 1, 3) := by decide +kernel
theorem dX8_bound_60 : decode cX8_bound 60 = .ok (.goto (-40), 3) := by decide +kernel
theorem dX8_bound_63 : decode cX8_bound 63 = .ok (.iload_n 1, 1) := by decide +kernel
theorem dX8_bound_64 : decode cX8_bound 64 = .ok (.iload_n 3, 1) := by decide +kernel
theorem dX8_bound_65 : decode cX8_bound 65 = .ok (.invokestatic 283, 3) := by decide +kernel
theorem dX8_bound_68 : decode cX8_bound 68 = .ok (.iconst 1, 1) := by decide +kernel
theorem dX8_bound_69 : decode cX8_bound 69 = .ok (.isub, 1) := by decide +kernel
theorem dX8_bound_70 : decode cX8_bound 70 = .ok (.iconst 0, 1) := by decide +kernel
theorem dX8_bound_71 : decode cX8_bound 71 = .ok (.invokestatic 255, 3) := by decide +kernel
theorem dX8_bound_74 : decode cX8_bound 74 = .ok (.iadd, 1) := by decide +kernel
theorem dX8_bound_75 : decode cX8_bound 75 = .ok (.istore_n 1, 1) := by decide +kernel
theorem dX8_bound_76 : decode cX8_bound 76 = .ok (.iinc 2 1, 3) := by decide +kernel
theorem dX8_bound_79 : decode cX8_bound 79 = .ok (.goto (-75), 3) := by decide +kernel
theorem dX8_bound_82 : decode cX8_bound 82 = .ok (.iload_n 1, 1) := by decide +kernel
theorem dX8_bound_83 : decode cX8_bound 83 = .ok (.ireturn, 1) := by decide +kernel
theorem dX8_inQuarrel_0 : decode cX8_inQuarrel 0 = .ok (.iconst 0, 1) := by decide +kernel
theorem dX8_inQuarrel_1 : decode cX8_inQuarrel 1 = .ok (.istore_n 3, 1) := by decide +kernel
theorem dX8_inQuarrel_2 : decode cX8_inQuarrel 2 = .ok (.iconst 0, 1) := by decide +kernel
theorem dX8_inQuarrel_3 : decode cX8_inQuarrel 3 = .ok (.istore 4, 2) := by decide +kernel
theorem dX8_inQuarrel_5 : decode cX8_inQuarrel 5 = .ok (.iload 4, 2) := by decide +kernel
theorem dX8_inQuarrel_7 : decode cX8_inQuarrel 7 = .ok (.aload_n 0, 1) := by decide +kernel
theorem dX8_inQuarrel_8 : decode cX8_inQuarrel 8 = .ok (.getfield 19, 3) := by decide +kernel
theorem dX8_inQuarrel_11 : decode cX8_inQuarrel 11 = .ok (.getfield 113, 3) := by decide +kernel
theorem dX8_inQuarrel_14 : decode cX8_inQuarrel 14 = .ok (.if_icmp .ge 57, 3) := by decide +kernel
theorem dX8_inQuarrel_17 : decode cX8_inQuarrel 17 = .ok (.aload_n 0, 1) := by decide +kernel
theorem dX8_inQuarrel_18 : decode cX8_inQuarrel 18 = .ok (.getfield 19, 3) := by decide +kernel
theorem dX8_inQuarrel_21 : decode cX8_inQuarrel 21 = .ok (.iload 4, 2) := by decide +kernel
theorem dX8_inQuarrel_23 : decode cX8_inQuarrel 23 = .ok (.iload_n 1, 1) := by decide +kernel
theorem dX8_inQuarrel_24 : decode cX8_inQuarrel 24 = .ok (.invokevirtual 120, 3) := by decide +kernel
theorem dX8_inQuarrel_27 : decode cX8_inQuarrel 27 = .ok (.istore 5, 2) := by decide +kernel
theorem dX8_inQuarrel_29 : decode cX8_inQuarrel 29 = .ok (.aload_n 0, 1) := by decide +kernel
theorem dX8_inQuarrel_30 : decode cX8_inQuarrel 30 = .ok (.getfield 19, 3) := by decide +kernel
theorem dX8_inQuarrel_33 : decode cX8_inQuarrel 33 = .ok (.iload 4, 2) := by decide +kernel
theorem dX8_inQuarrel_35 : decode cX8_inQuarrel 35 = .ok (.iload_n 2, 1) := by decide +kernel
theorem dX8_inQuarrel_36 : decode cX8_inQuarrel 36 = .ok (.invokevirtual 120, 3) := by decide +kernel
theorem dX8_inQuarrel_39 : decode cX8_inQuarrel 39 = .ok (.istore 6, 2) := by decide +kernel
theorem dX8_inQuarrel_41 : decode cX8_inQuarrel 41 = .ok (.iload 5, 2) := by decide +kernel
theorem dX8_inQuarrel_43 : decode cX8_inQuarrel 43 = .ok (.iconst 4, 1) := by decide +kernel
theorem dX8_inQuarrel_44 : decode cX8_inQuarrel 44 = .ok (.if_icmp .eq 21, 3) := by decide +kernel
theorem dX8_inQuarrel_47 : decode cX8_inQuarrel 47 = .ok (.iload 6, 2) := by decide +kernel
theorem dX8_inQuarrel_49 : decode cX8_inQuarrel 49 = .ok (.iconst 4, 1) := by decide +kernel
theorem dX8_inQuarrel_50 : decode cX8_inQuarrel 50 = .ok (.if_icmp .eq 15, 3) := by decide +kernel
theorem dX8_inQuarrel_53 : decode cX8_inQuarrel 53 = .ok (.iload_n 3, 1) := by decide +kernel
theorem dX8_inQuarrel_54 : decode cX8_inQuarrel 54 = .ok (.iconst 1, 1) := by decide +kernel
theorem dX8_inQuarrel_55 : decode cX8_inQuarrel 55 = .ok (.iconst 4, 1) := by decide +kernel
theorem dX8_inQuarrel_56 : decode cX8_inQuarrel 56 = .ok (.iload 5, 2) := by decide +kernel
theorem dX8_inQuarrel_58 : decode cX8_inQuarrel 58 = .ok (.imul, 1) := by decide +kernel
theorem dX8_inQuarrel_59 : decode cX8_inQuarrel 59 = .ok (.iload 6, 2) := by decide +kernel
theorem dX8_inQuarrel_61 : decode cX8_inQuarrel 61 = .ok (.iadd, 1) := by decide +kernel
theorem dX8_inQuarrel_62 : decode cX8_inQuarrel 62 = .ok (.ishl, 1) := by decide +kernel
theorem dX8_inQuarrel_63 : decode cX8_inQuarrel 63 = .ok (.ior, 1) := by decide +kernel
theorem dX8_inQuarrel_64 : decode cX8_inQuarrel 64 = .ok (.istore_n 3, 1) := by decide +kernel
theorem dX8_inQuarrel_65 : decode cX8_inQuarrel 65 = .ok (.iinc 4 1, 3) := by decide +kernel
theorem dX8_inQuarrel_68 : decode cX8_inQuarrel 68 = .ok (.goto (-63), 3) := by decide +kernel
theorem dX8_inQuarrel_71 : decode cX8_inQuarrel 71 = .ok (.iconst 0, 1) := by decide +kernel
theorem dX8_inQuarrel_72 : decode cX8_inQuarrel 72 = .ok (.istore 4, 2) := by decide +kernel
theorem dX8_inQuarrel_74 : decode cX8_inQuarrel 74 = .ok (.iload 4, 2) := by decide +kernel
theorem dX8_inQuarrel_76 : decode cX8_inQuarrel 76 = .ok (.iconst 4, 1) := by decide +kernel
theorem dX8_inQuarrel_77 : decode cX8_inQuarrel 77 = .ok (.if_icmp .ge 56, 3) := by decide +kernel
theorem dX8_inQuarrel_80 : decode cX8_inQuarrel 80 = .ok (.iload 4, 2) := by decide +kernel
theorem dX8_inQuarrel_82 : decode cX8_inQuarrel 82 = .ok (.iconst 1, 1) := by decide +kernel
theorem dX8_inQuarrel_83 : decode cX8_inQuarrel 83 = .ok (.iadd, 1) := by decide +kernel
theorem dX8_inQuarrel_84 : decode cX8_inQuarrel 84 = .ok (.istore 5, 2) := by decide +kernel
theorem dX8_inQuarrel_86 : decode cX8_inQuarrel 86 = .ok (.iload 5, 2) := by decide +kernel
theorem dX8_inQuarrel_88 : decode cX8_inQuarrel 88 = .ok (.iconst 4, 1) := by decide +kernel
theorem dX8_inQuarrel_89 : decode cX8_inQuarrel 89 = .ok (.if_icmp .ge 38, 3) := by decide +kernel
theorem dX8_inQuarrel_92 : decode cX8_inQuarrel 92 = .ok (.iload_n 3, 1) := by decide +kernel
theorem dX8_inQuarrel_93 : decode cX8_inQuarrel 93 = .ok (.iconst 4, 1) := by decide +kernel
theorem dX8_inQuarrel_94 : decode cX8_inQuarrel 94 = .ok (.iload 4, 2) := by decide +kernel
theorem dX8_inQuarrel_96 : decode cX8_inQuarrel 96 = .ok (.imul, 1) := by decide +kernel
theorem dX8_inQuarrel_97 : decode cX8_inQuarrel 97 = .ok (.iushr, 1) := by decide +kernel
theorem dX8_inQuarrel_98 : decode cX8_inQuarrel 98 = .ok (.iload_n 3, 1) := by decide +kernel
theorem dX8_inQuarrel_99 : decode cX8_inQuarrel 99 = .ok (.iconst 4, 1) := by decide +kernel
theorem dX8_inQuarrel_100 : decode cX8_inQuarrel 100 = .ok (.iload 5, 2) := by decide +kernel
theorem dX8_inQuarrel_102 : decode cX8_inQuarrel 102 = .ok (.imul, 1) := by decide +kernel
theorem dX8_inQuarrel_103 : decode cX8_inQuarrel 103 = .ok (.iushr, 1) := by decide +kernel
theorem dX8_inQuarrel_104 : decode cX8_inQuarrel 104 = .ok (.iand, 1) := by decide +kernel
theorem dX8_inQuarrel_105 : decode cX8_inQuarrel 105 = .ok (.bipush 15, 2) := by decide +kernel
theorem dX8_inQuarrel_107 : decode cX8_inQuarrel 107 = .ok (.iand, 1) := by decide +kernel
theorem dX8_inQuarrel_108 : decode cX8_inQuarrel 108 = .ok (.istore 6, 2) := by decide +kernel
theorem dX8_inQuarrel_110 : decode cX8_inQuarrel 110 = .ok (.iload 6, 2) := by decide +kernel
theorem dX8_inQuarrel_112 : decode cX8_inQuarrel 112 = .ok (.invokestatic 283, 3) := by decide +kernel
theorem dX8_inQuarrel_115 : decode cX8_inQuarrel 115 = .ok (.iconst 2, 1) := by decide +kernel
theorem dX8_inQuarrel_116 : decode cX8_inQuarrel 116 = .ok (.if_icmp .lt 5, 3) := by decide +kernel
theorem dX8_inQuarrel_119 : decode cX8_inQuarrel 119 = .ok (.iconst 1, 1) := by decide +kernel
theorem dX8_inQuarrel_120 : decode cX8_inQuarrel 120 = .ok (.ireturn, 1) := by decide +kernel
theorem dX8_inQuarrel_121 : decode cX8_inQuarrel 121 = .ok (.iinc 5 1, 3) := by decide +kernel
theorem dX8_inQuarrel_124 : decode cX8_inQuarrel 124 = .ok (.goto (-38), 3) := by decide +kernel
theorem dX8_inQuarrel_127 : decode cX8_inQuarrel 127 = .ok (.iinc 4 1, 3) := by decide +kernel
theorem dX8_inQuarrel_130 : decode cX8_inQuarrel 130 = .ok (.goto (-56), 3) := by decide +kernel
theorem dX8_inQuarrel_133 : decode cX8_inQuarrel 133 = .ok (.iconst 0, 1) := by decide +kernel
theorem dX8_inQuarrel_134 : decode cX8_inQuarrel 134 = .ok (.ireturn, 1) := by decide +kernel
theorem dX8_quarrels_0 : decode cX8_quarrels 0 = .ok (.iconst 0, 1) := by decide +kernel
theorem dX8_quarrels_1 : decode cX8_quarrels 1 = .ok (.istore_n 1, 1) := by decide +kernel
theorem dX8_quarrels_2 : decode cX8_quarrels 2 = .ok (.iconst 0, 1) := by decide +kernel
theorem dX8_quarrels_3 : decode cX8_quarrels 3 = .ok (.istore_n 2, 1) := by decide +kernel
theorem dX8_quarrels_4 : decode cX8_quarrels 4 = .ok (.iload_n 2, 1) := by decide +kernel
theorem dX8_quarrels_5 : decode cX8_quarrels 5 = .ok (.aload_n 0, 1) := by decide +kernel
theorem dX8_quarrels_6 : decode cX8_quarrels 6 = .ok (.getfield 19, 3) := by decide +kernel
theorem dX8_quarrels_9 : decode cX8_quarrels 9 = .ok (.getfield 212, 3) := by decide +kernel
theorem dX8_quarrels_12 : decode cX8_quarrels 12 = .ok (.if_icmp .ge 42, 3) := by decide +kernel
theorem dX8_quarrels_15 : decode cX8_quarrels 15 = .ok (.iload_n 2, 1) := by decide +kernel
theorem dX8_quarrels_16 : decode cX8_quarrels 16 = .ok (.iconst 1, 1) := by decide +kernel
theorem dX8_quarrels_17 : decode cX8_quarrels 17 = .ok (.iadd, 1) := by decide +kernel
theorem dX8_quarrels_18 : decode cX8_quarrels 18 = .ok (.istore_n 3, 1) := by decide +kernel
theorem dX8_quarrels_19 : decode cX8_quarrels 19 = .ok (.iload_n 3, 1) := by decide +kernel
theorem dX8_quarrels_20 : decode cX8_quarrels 20 = .ok (.aload_n 0, 1) := by decide +kernel
theorem dX8_quarrels_21 : decode cX8_quarrels 21 = .ok (.getfield 19, 3) := by decide +kernel
theorem dX8_quarrels_24 : decode cX8_quarrels 24 = .ok (.getfield 212, 3) := by decide +kernel
theorem dX8_quarrels_27 : decode cX8_quarrels 27 = .ok (.if_icmp .ge 21, 3) := by decide +kernel
theorem dX8_quarrels_30 : decode cX8_quarrels 30 = .ok (.aload_n 0, 1) := by decide +kernel
theorem dX8_quarrels_31 : decode cX8_quarrels 31 = .ok (.iload_n 2, 1) := by decide +kernel
theorem dX8_quarrels_32 : decode cX8_quarrels 32 = .ok (.iload_n 3, 1) := by decide +kernel
theorem dX8_quarrels_33 : decode cX8_quarrels 33 = .ok (.invokevirtual 198, 3) := by decide +kernel
theorem dX8_quarrels_36 : decode cX8_quarrels 36 = .ok (.ifCond .eq 6, 3) := by decide +kernel
theorem dX8_quarrels_39 : decode cX8_quarrels 39 = .ok (.iinc 1 1, 3) := by decide +kernel
theorem dX8_quarrels_42 : decode cX8_quarrels 42 = .ok (.iinc 3 1, 3) := by decide +kernel
theorem dX8_quarrels_45 : decode cX8_quarrels 45 = .ok (.goto (-26), 3) := by decide +kernel
theorem dX8_quarrels_48 : decode cX8_quarrels 48 = .ok (.iinc 2 1, 3) := by decide +kernel
theorem dX8_quarrels_51 : decode cX8_quarrels 51 = .ok (.goto (-47), 3) := by decide +kernel
theorem dX8_quarrels_54 : decode cX8_quarrels 54 = .ok (.iload_n 1, 1) := by decide +kernel
theorem dX8_quarrels_55 : decode cX8_quarrels 55 = .ok (.ireturn, 1) := by decide +kernel
theorem dX8_lostOnes_0 : decode cX8_lostOnes 0 = .ok (.iconst 0, 1) := by decide +kernel
theorem dX8_lostOnes_1 : decode cX8_lostOnes 1 = .ok (.istore_n 1, 1) := by decide +kernel
theorem dX8_lostOnes_2 : decode cX8_lostOnes 2 = .ok (.iconst 0, 1) := by decide +kernel
theorem dX8_lostOnes_3 : decode cX8_lostOnes 3 = .ok (.istore_n 2, 1) := by decide +kernel
theorem dX8_lostOnes_4 : decode cX8_lostOnes 4 = .ok (.iload_n 2, 1) := by decide +kernel
theorem dX8_lostOnes_5 : decode cX8_lostOnes 5 = .ok (.aload_n 0, 1) := by decide +kernel
theorem dX8_lostOnes_6 : decode cX8_lostOnes 6 = .ok (.getfield 19, 3) := by decide +kernel
theorem dX8_lostOnes_9 : decode cX8_lostOnes 9 = .ok (.getfield 113, 3) := by decide +kernel
theorem dX8_lostOnes_12 : decode cX8_lostOnes 12 = .ok (.if_icmp .ge 44, 3) := by decide +kernel
theorem dX8_lostOnes_15 : decode cX8_lostOnes 15 = .ok (.iconst 0, 1) := by decide +kernel
theorem dX8_lostOnes_16 : decode cX8_lostOnes 16 = .ok (.istore_n 3, 1) := by decide +kernel
theorem dX8_lostOnes_17 : decode cX8_lostOnes 17 = .ok (.iload_n 3, 1) := by decide +kernel
theorem dX8_lostOnes_18 : decode cX8_lostOnes 18 = .ok (.aload_n 0, 1) := by decide +kernel
theorem dX8_lostOnes_19 : decode cX8_lostOnes 19 = .ok (.getfield 19, 3) := by decide +kernel
theorem dX8_lostOnes_22 : decode cX8_lostOnes 22 = .ok (.getfield 212, 3) := by decide +kernel
theorem dX8_lostOnes_25 : decode cX8_lostOnes 25 = .ok (.if_icmp .ge 25, 3) := by decide +kernel
theorem dX8_lostOnes_28 : decode cX8_lostOnes 28 = .ok (.aload_n 0, 1) := by decide +kernel
theorem dX8_lostOnes_29 : decode cX8_lostOnes 29 = .ok (.getfield 19, 3) := by decide +kernel
theorem dX8_lostOnes_32 : decode cX8_lostOnes 32 = .ok (.iload_n 2, 1) := by decide +kernel
theorem dX8_lostOnes_33 : decode cX8_lostOnes 33 = .ok (.iload_n 3, 1) := by decide +kernel
theorem dX8_lostOnes_34 : decode cX8_lostOnes 34 = .ok (.invokevirtual 120, 3) := by decide +kernel
theorem dX8_lostOnes_37 : decode cX8_lostOnes 37 = .ok (.iconst 4, 1) := by decide +kernel
theorem dX8_lostOnes_38 : decode cX8_lostOnes 38 = .ok (.if_icmp .ne 6, 3) := by decide +kernel
theorem dX8_lostOnes_41 : decode cX8_lostOnes 41 = .ok (.iinc 1 1, 3) := by decide +kernel
theorem dX8_lostOnes_44 : decode cX8_lostOnes 44 = .ok (.iinc 3 1, 3) := by decide +kernel
theorem dX8_lostOnes_47 : decode cX8_lostOnes 47 = .ok (.goto (-30), 3) := by decide +kernel
theorem dX8_lostOnes_50 : decode cX8_lostOnes 50 = .ok (.iinc 2 1, 3) := by decide +kernel
theorem dX8_lostOnes_53 : decode cX8_lostOnes 53 = .ok (.goto (-49), 3) := by decide +kernel
theorem dX8_lostOnes_56 : decode cX8_lostOnes 56 = .ok (.iload_n 1, 1) := by decide +kernel
theorem dX8_lostOnes_57 : decode cX8_lostOnes 57 = .ok (.ireturn, 1) := by decide +kernel
theorem dX8_mayBeMisread_0 : decode cX8_mayBeMisread 0 = .ok (.aload_n 0, 1) := by decide +kernel
theorem dX8_mayBeMisread_1 : decode cX8_mayBeMisread 1 = .ok (.getfield 19, 3) := by decide +kernel
theorem dX8_mayBeMisread_4 : decode cX8_mayBeMisread 4 = .ok (.iload_n 1, 1) := by decide +kernel
theorem dX8_mayBeMisread_5 : decode cX8_mayBeMisread 5 = .ok (.iconst 0, 1) := by decide +kernel
theorem dX8_mayBeMisread_6 : decode cX8_mayBeMisread 6 = .ok (.invokevirtual 120, 3) := by decide +kernel
theorem dX8_mayBeMisread_9 : decode cX8_mayBeMisread 9 = .ok (.istore_n 2, 1) := by decide +kernel
theorem dX8_mayBeMisread_10 : decode cX8_mayBeMisread 10 = .ok (.iload_n 2, 1) := by decide +kernel
theorem dX8_mayBeMisread_11 : decode cX8_mayBeMisread 11 = .ok (.iconst 4, 1) := by decide +kernel
theorem dX8_mayBeMisread_12 : decode cX8_mayBeMisread 12 = .ok (.if_icmp .ne 5, 3) := by decide +kernel
theorem dX8_mayBeMisread_15 : decode cX8_mayBeMisread 15 = .ok (.iconst 0, 1) := by decide +kernel
theorem dX8_mayBeMisread_16 : decode cX8_mayBeMisread 16 = .ok (.ireturn, 1) := by decide +kernel
theorem dX8_mayBeMisread_17 : decode cX8_mayBeMisread 17 = .ok (.iconst 0, 1) := by decide +kernel
theorem dX8_mayBeMisread_18 : decode cX8_mayBeMisread 18 = .ok (.istore_n 3, 1) := by decide +kernel
theorem dX8_mayBeMisread_19 : decode cX8_mayBeMisread 19 = .ok (.iload_n 3, 1) := by decide +kernel
theorem dX8_mayBeMisread_20 : decode cX8_mayBeMisread 20 = .ok (.iconst 4, 1) := by decide +kernel
theorem dX8_mayBeMisread_21 : decode cX8_mayBeMisread 21 = .ok (.if_icmp .ge 30, 3) := by decide +kernel
theorem dX8_mayBeMisread_24 : decode cX8_mayBeMisread 24 = .ok (.iload_n 3, 1) := by decide +kernel
theorem dX8_mayBeMisread_25 : decode cX8_mayBeMisread 25 = .ok (.iload_n 2, 1) := by decide +kernel
theorem dX8_mayBeMisread_26 : decode cX8_mayBeMisread 26 = .ok (.if_icmp .eq 19, 3) := by decide +kernel
theorem dX8_mayBeMisread_29 : decode cX8_mayBeMisread 29 = .ok (.aload_n 0, 1) := by decide +kernel
theorem dX8_mayBeMisread_30 : decode cX8_mayBeMisread 30 = .ok (.aload_n 0, 1) := by decide +kernel
theorem dX8_mayBeMisread_31 : decode cX8_mayBeMisread 31 = .ok (.iload_n 1, 1) := by decide +kernel
theorem dX8_mayBeMisread_32 : decode cX8_mayBeMisread 32 = .ok (.iconst 0, 1) := by decide +kernel
theorem dX8_mayBeMisread_33 : decode cX8_mayBeMisread 33 = .ok (.iload_n 3, 1) := by decide +kernel
theorem dX8_mayBeMisread_34 : decode cX8_mayBeMisread 34 = .ok (.invokevirtual 194, 3) := by decide +kernel
theorem dX8_mayBeMisread_37 : decode cX8_mayBeMisread 37 = .ok (.invokevirtual 288, 3) := by decide +kernel
theorem dX8_mayBeMisread_40 : decode cX8_mayBeMisread 40 = .ok (.ifCond .eq 5, 3) := by decide +kernel
theorem dX8_mayBeMisread_43 : decode cX8_mayBeMisread 43 = .ok (.iconst 1, 1) := by decide +kernel
theorem dX8_mayBeMisread_44 : decode cX8_mayBeMisread 44 = .ok (.ireturn, 1) := by decide +kernel
theorem dX8_mayBeMisread_45 : decode cX8_mayBeMisread 45 = .ok (.iinc 3 1, 3) := by decide +kernel
theorem dX8_mayBeMisread_48 : decode cX8_mayBeMisread 48 = .ok (.goto (-29), 3) := by decide +kernel
theorem dX8_mayBeMisread_51 : decode cX8_mayBeMisread 51 = .ok (.iconst 0, 1) := by decide +kernel
theorem dX8_mayBeMisread_52 : decode cX8_mayBeMisread 52 = .ok (.ireturn, 1) := by decide +kernel
theorem dX8_allSeenIs_0 : decode cX8_allSeenIs 0 = .ok (.iconst 0, 1) := by decide +kernel
theorem dX8_allSeenIs_1 : decode cX8_allSeenIs 1 = .ok (.istore_n 2, 1) := by decide +kernel
theorem dX8_allSeenIs_2 : decode cX8_allSeenIs 2 = .ok (.iload_n 2, 1) := by decide +kernel
theorem dX8_allSeenIs_3 : decode cX8_allSeenIs 3 = .ok (.aload_n 0, 1) := by decide +kernel
theorem dX8_allSeenIs_4 : decode cX8_allSeenIs 4 = .ok (.getfield 103, 3) := by decide +kernel
theorem dX8_allSeenIs_7 : decode cX8_allSeenIs 7 = .ok (.if_icmp .ge 23, 3) := by decide +kernel
theorem dX8_allSeenIs_10 : decode cX8_allSeenIs 10 = .ok (.aload_n 0, 1) := by decide +kernel
theorem dX8_allSeenIs_11 : decode cX8_allSeenIs 11 = .ok (.getfield 48, 3) := by decide +kernel
theorem dX8_allSeenIs_14 : decode cX8_allSeenIs 14 = .ok (.iload_n 2, 1) := by decide +kernel
theorem dX8_allSeenIs_15 : decode cX8_allSeenIs 15 = .ok (.invokevirtual 152, 3) := by decide +kernel
theorem dX8_allSeenIs_18 : decode cX8_allSeenIs 18 = .ok (.iload_n 1, 1) := by decide +kernel
theorem dX8_allSeenIs_19 : decode cX8_allSeenIs 19 = .ok (.if_icmp .eq 5, 3) := by decide +kernel
theorem dX8_allSeenIs_22 : decode cX8_allSeenIs 22 = .ok (.iconst 0, 1) := by decide +kernel
theorem dX8_allSeenIs_23 : decode cX8_allSeenIs 23 = .ok (.ireturn, 1) := by decide +kernel
theorem dX8_allSeenIs_24 : decode cX8_allSeenIs 24 = .ok (.iinc 2 1, 3) := by decide +kernel
theorem dX8_allSeenIs_27 : decode cX8_allSeenIs 27 = .ok (.goto (-25), 3) := by decide +kernel
theorem dX8_allSeenIs_30 : decode cX8_allSeenIs 30 = .ok (.iconst 1, 1) := by decide +kernel
theorem dX8_allSeenIs_31 : decode cX8_allSeenIs 31 = .ok (.ireturn, 1) := by decide +kernel
theorem dX9_init_0 : decode cX9_init 0 = .ok (.aload_n 0, 1) := by decide +kernel
theorem dX9_init_1 : decode cX9_init 1 = .ok (.invokespecial 1, 3) := by decide +kernel
theorem dX9_init_4 : decode cX9_init 4 = .ok (.aload_n 0, 1) := by decide +kernel
theorem dX9_init_5 : decode cX9_init 5 = .ok (.bipush 49, 2) := by decide +kernel
theorem dX9_init_7 : decode cX9_init 7 = .ok (.newarray .int, 2) := by decide +kernel
theorem dX9_init_9 : decode cX9_init 9 = .ok (.putfield 7, 3) := by decide +kernel
theorem dX9_init_12 : decode cX9_init 12 = .ok (.aload_n 0, 1) := by decide +kernel
theorem dX9_init_13 : decode cX9_init 13 = .ok (.sipush 490, 3) := by decide +kernel
theorem dX9_init_16 : decode cX9_init 16 = .ok (.newarray .int, 2) := by decide +kernel
theorem dX9_init_18 : decode cX9_init 18 = .ok (.putfield 13, 3) := by decide +kernel
theorem dX9_init_21 : decode cX9_init 21 = .ok (.aload_n 0, 1) := by decide +kernel
theorem dX9_init_22 : decode cX9_init 22 = .ok (.bipush 6, 2) := by decide +kernel
theorem dX9_init_24 : decode cX9_init 24 = .ok (.newarray .int, 2) := by decide +kernel
theorem dX9_init_26 : decode cX9_init 26 = .ok (.putfield 16, 3) := by decide +kernel
theorem dX9_init_29 : decode cX9_init 29 = .ok (.aload_n 0, 1) := by decide +kernel
theorem dX9_init_30 : decode cX9_init 30 = .ok (.iconst 2, 1) := by decide +kernel
theorem dX9_init_31 : decode cX9_init 31 = .ok (.newarray .boolean, 2) := by decide +kernel
theorem dX9_init_33 : decode cX9_init 33 = .ok (.putfield 19, 3) := by decide +kernel
theorem dX9_init_36 : decode cX9_init 36 = .ok (.aload_n 0, 1) := by decide +kernel
theorem dX9_init_37 : decode cX9_init 37 = .ok (.bipush 98, 2) := by decide +kernel
theorem dX9_init_39 : decode cX9_init 39 = .ok (.newarray .int, 2) := by decide +kernel
theorem dX9_init_41 : decode cX9_init 41 = .ok (.putfield 23, 3) := by decide +kernel
theorem dX9_init_44 : decode cX9_init 44 = .ok (.aload_n 0, 1) := by decide +kernel
theorem dX9_init_45 : decode cX9_init 45 = .ok (.bipush 90, 2) := by decide +kernel
theorem dX9_init_47 : decode cX9_init 47 = .ok (.newarray .int, 2) := by decide +kernel
theorem dX9_init_49 : decode cX9_init 49 = .ok (.putfield 26, 3) := by decide +kernel
theorem dX9_init_52 : decode cX9_init 52 = .ok (.aload_n 0, 1) := by decide +kernel
theorem dX9_init_53 : decode cX9_init 53 = .ok (.bipush 48, 2) := by decide +kernel
theorem dX9_init_55 : decode cX9_init 55 = .ok (.newarray .int, 2) := by decide +kernel
theorem dX9_init_57 : decode cX9_init 57 = .ok (.putfield 29, 3) := by decide +kernel
theorem dX9_init_60 : decode cX9_init 60 = .ok (.aload_n 0, 1) := by decide +kernel
theorem dX9_init_61 : decode cX9_init 61 = .ok (.bipush 10, 2) := by decide +kernel
theorem dX9_init_63 : decode cX9_init 63 = .ok (.newarray .int, 2) := by decide +kernel
theorem dX9_init_65 : decode cX9_init 65 = .ok (.putfield 32, 3) := by decide +kernel
theorem dX9_init_68 : decode cX9_init 68 = .ok (.aload_n 0, 1) := by decide +kernel
theorem dX9_init_69 : decode cX9_init 69 = .ok (.bipush 10, 2) := by decide +kernel
theorem dX9_init_71 : decode cX9_init 71 = .ok (.newarray .int, 2) := by decide +kernel
theorem dX9_init_73 : decode cX9_init 73 = .ok (.putfield 35, 3) := by decide +kernel
theorem dX9_init_76 : decode cX9_init 76 = .ok (.aload_n 0, 1) := by decide +kernel
theorem dX9_init_77 : decode cX9_init 77 = .ok (.bipush 44, 2) := by decide +kernel
theorem dX9_init_79 : decode cX9_init 79 = .ok (.newarray .int, 2) := by decide +kernel
theorem dX9_init_81 : decode cX9_init 81 = .ok (.putfield 38, 3) := by decide +kernel
theorem dX9_init_84 : decode cX9_init 84 = .ok (.aload_n 0, 1) := by decide +kernel
theorem dX9_init_85 : decode cX9_init 85 = .ok (.bipush 10, 2) := by decide +kernel
theorem dX9_init_87 : decode cX9_init 87 = .ok (.newarray .boolean, 2) := by decide +kernel
theorem dX9_init_89 : decode cX9_init 89 = .ok (.putfield 41, 3) := by decide +kernel
theorem dX9_init_92 : decode cX9_init 92 = .ok (.aload_n 0, 1) := by decide +kernel
theorem dX9_init_93 : decode cX9_init 93 = .ok (.bipush 105, 2) := by decide +kernel
theorem dX9_init_95 : decode cX9_init 95 = .ok (.newarray .int, 2) := by decide +kernel
theorem dX9_init_97 : decode cX9_init 97 = .ok (.putfield 44, 3) := by decide +kernel
theorem dX9_init_100 : decode cX9_init 100 = .ok (.aload_n 0, 1) := by decide +kernel
theorem dX9_init_101 : decode cX9_init 101 = .ok (.iconst 5, 1) := by decide +kernel
theorem dX9_init_102 : decode cX9_init 102 = .ok (.newarray .int, 2) := by decide +kernel
theorem dX9_init_104 : decode cX9_init 104 = .ok (.putfield 47, 3) := by decide +kernel
theorem dX9_init_107 : decode cX9_init 107 = .ok (.return_, 1) := by decide +kernel
theorem dX9_in_0 : decode cX9_in 0 = .ok (.iload_n 0, 1) := by decide +kernel
theorem dX9_in_1 : decode cX9_in 1 = .ok (.iload_n 1, 1) := by decide +kernel
theorem dX9_in_2 : decode cX9_in 2 = .ok (.if_icmp .lt 12, 3) := by decide +kernel
theorem dX9_in_5 : decode cX9_in 5 = .ok (.iload_n 0, 1) := by decide +kernel
theorem dX9_in_6 : decode cX9_in 6 = .ok (.iload_n 2, 1) := by decide +kernel
theorem dX9_in_7 : decode cX9_in 7 = .ok (.if_icmp .gt 7, 3) := by decide +kernel
theorem dX9_in_10 : decode cX9_in 10 = .ok (.iconst 1, 1) := by decide +kernel
theorem dX9_in_11 : decode cX9_in 11 = .ok (.goto 4, 3) := by decide +kernel
theorem dX9_in_14 : decode cX9_in 14 = .ok (.iconst 0, 1) := by decide +kernel
theorem dX9_in_15 : decode cX9_in 15 = .ok (.ireturn, 1) := by decide +kernel
theorem dX9_has_0 : decode cX9_has 0 = .ok (.iload_n 0, 1) := by decide +kernel
theorem dX9_has_1 : decode cX9_has 1 = .ok (.iload_n 1, 1) := by decide +kernel
theorem dX9_has_2 : decode cX9_has 2 = .ok (.ishr, 1) := by decide +kernel
theorem dX9_has_3 : decode cX9_has 3 = .ok (.iconst 1, 1) := by decide +kernel
theorem dX9_has_4 : decode cX9_has 4 = .ok (.iand, 1) := by decide +kernel
theorem dX9_has_5 : decode cX9_has 5 = .ok (.iconst 1, 1) := by decide +kernel
theorem dX9_has_6 : decode cX9_has 6 = .ok (.if_icmp .ne 7, 3) := by decide +kernel
theorem dX9_has_9 : decode cX9_has 9 = .ok (.iconst 1, 1) := by decide +kernel
theorem dX9_has_10 : decode cX9_has 10 = .ok (.goto 4, 3) := by decide +kernel
theorem dX9_has_13 : decode cX9_has 13 = .ok (.iconst 0, 1) := by decide +kernel
theorem dX9_has_14 : decode cX9_has 14 = .ok (.ireturn, 1) := by decide +kernel
theorem dX9_type_0 : decode cX9_type 0 = .ok (.iload_n 1, 1) := by decide +kernel
theorem dX9_type_1 : decode cX9_type 1 = .ok (.iconst 0, 1) := by decide +kernel
theorem dX9_type_2 : decode cX9_type 2 = .ok (.sipush 255, 3) := by decide +kernel
theorem dX9_type_5 : decode cX9_type 5 = .ok (.invokestatic 50, 3) := by decide +kernel
theorem dX9_type_8 : decode cX9_type 8 = .ok (.ifCond .ne 5, 3) := by decide +kernel
theorem dX9_type_11 : decode cX9_type 11 = .ok (.iconst (-1), 1) := by decide +kernel
theorem dX9_type_12 : decode cX9_type 12 = .ok (.ireturn, 1) := by decide +kernel
theorem dX9_type_13 : decode cX9_type 13 = .ok (.aload_n 0, 1) := by decide +kernel
theorem dX9_type_14 : decode cX9_type 14 = .ok (.getfield 54, 3) := by decide +kernel
theorem dX9_type_17 : decode cX9_type 17 = .ok (.bipush 90, 2) := by decide +kernel
theorem dX9_type_19 : decode cX9_type 19 = .ok (.if_icmp .ne 6, 3) := by decide +kernel
theorem dX9_type_22 : decode cX9_type 22 = .ok (.bipush (-3), 2) := by decide +kernel
theorem dX9_type_24 : decode cX9_type 24 = .ok (.ireturn, 1) := by decide +kernel
theorem dX9_type_25 : decode cX9_type 25 = .ok (.aload_n 0, 1) := by decide +kernel
theorem dX9_type_26 : decode cX9_type 26 = .ok (.getfield 26, 3) := by decide +kernel
theorem dX9_type_29 : decode cX9_type 29 = .ok (.aload_n 0, 1) := by decide +kernel
theorem dX9_type_30 : decode cX9_type 30 = .ok (.getfield 54, 3) := by decide +kernel
theorem dX9_type_33 : decode cX9_type 33 = .ok (.iload_n 1, 1) := by decide +kernel
theorem dX9_type_34 : decode cX9_type 34 = .ok (.iastore, 1) := by decide +kernel
theorem dX9_type_35 : decode cX9_type 35 = .ok (.aload_n 0, 1) := by decide +kernel
theorem dX9_type_36 : decode cX9_type 36 = .ok (.dup, 1) := by decide +kernel
theorem dX9_type_37 : decode cX9_type 37 = .ok (.getfield 54, 3) := by decide +kernel
theorem dX9_type_40 : decode cX9_type 40 = .ok (.iconst 1, 1) := by decide +kernel
theorem dX9_type_41 : decode cX9_type 41 = .ok (.iadd, 1) := by decide +kernel
theorem dX9_type_42 : decode cX9_type 42 = .ok (.putfield 54, 3) := by decide +kernel
theorem dX9_type_45 : decode cX9_type 45 = .ok (.aload_n 0, 1) := by decide +kernel
theorem dX9_type_46 : decode cX9_type 46 = .ok (.getfield 54, 3) := by decide +kernel
theorem dX9_type_49 : decode cX9_type 49 = .ok (.ireturn, 1) := by decide +kernel
theorem dX9_clear_0 : decode cX9_clear 0 = .ok (.aload_n 0, 1) := by decide +kernel
theorem dX9_clear_1 : decode cX9_clear 1 = .ok (.getfield 54, 3) := by decide +kernel
theorem dX9_clear_4 : decode cX9_clear 4 = .ok (.istore_n 1, 1) := by decide +kernel
theorem dX9_clear_5 : decode cX9_clear 5 = .ok (.aload_n 0, 1) := by decide +kernel
theorem dX9_clear_6 : decode cX9_clear 6 = .ok (.iconst 0, 1) := by decide +kernel
theorem dX9_clear_7 : decode cX9_clear 7 = .ok (.putfield 54, 3) := by decide +kernel
theorem dX9_clear_10 : decode cX9_clear 10 = .ok (.iload_n 1, 1) := by decide +kernel
theorem dX9_clear_11 : decode cX9_clear 11 = .ok (.ireturn, 1) := by decide +kernel
theorem dX9_blanks_0 : decode cX9_blanks 0 = .ok (.aload_n 0, 1) := by decide +kernel
theorem dX9_blanks_1 : decode cX9_blanks 1 = .ok (.getfield 58, 3) := by decide +kernel
theorem dX9_blanks_4 : decode cX9_blanks 4 = .ok (.aload_n 0, 1) := by decide +kernel
theorem dX9_blanks_5 : decode cX9_blanks 5 = .ok (.getfield 54, 3) := by decide +kernel
theorem dX9_blanks_8 : decode cX9_blanks 8 = .ok (.if_icmp .ge 30, 3) := by decide +kernel
theorem dX9_blanks_11 : decode cX9_blanks 11 = .ok (.aload_n 0, 1) := by decide +kernel
theorem dX9_blanks_12 : decode cX9_blanks 12 = .ok (.getfield 26, 3) := by decide +kernel
theorem dX9_blanks_15 : decode cX9_blanks 15 = .ok (.aload_n 0, 1) := by decide +kernel
theorem dX9_blanks_16 : decode cX9_blanks 16 = .ok (.getfield 58, 3) := by decide +kernel
theorem dX9_blanks_19 : decode cX9_blanks 19 = .ok (.iaload, 1) := by decide +kernel
theorem dX9_blanks_20 : decode cX9_blanks 20 = .ok (.bipush 32, 2) := by decide +kernel
theorem dX9_blanks_22 : decode cX9_blanks 22 = .ok (.if_icmp .ne 16, 3) := by decide +kernel
theorem dX9_blanks_25 : decode cX9_blanks 25 = .ok (.aload_n 0, 1) := by decide +kernel
theorem dX9_blanks_26 : decode cX9_blanks 26 = .ok (.dup, 1) := by decide +kernel
theorem dX9_blanks_27 : decode cX9_blanks 27 = .ok (.getfield 58, 3) := by decide +kernel
theorem dX9_blanks_30 : decode cX9_blanks 30 = .ok (.iconst 1, 1) := by decide +kernel
theorem dX9_blanks_31 : decode cX9_blanks 31 = .ok (.iadd, 1) := by decide +kernel
theorem dX9_blanks_32 : decode cX9_blanks 32 = .ok (.putfield 58, 3) := by decide +kernel
theorem dX9_blanks_35 : decode cX9_blanks 35 = .ok (.goto (-35), 3) := by decide +kernel
theorem dX9_blanks_38 : decode cX9_blanks 38 = .ok (.return_, 1) := by decide +kernel
theorem dX9_next_0 : decode cX9_next 0 = .ok (.aload_n 0, 1) := by decide +kernel
theorem dX9_next_1 : decode cX9_next 1 = .ok (.invokevirtual 61, 3) := by decide +kernel
theorem dX9_next_4 : decode cX9_next 4 = .ok (.aload_n 0, 1) := by decide +kernel
theorem dX9_next_5 : decode cX9_next 5 = .ok (.aload_n 0, 1) := by decide +kernel
theorem dX9_next_6 : decode cX9_next 6 = .ok (.getfield 58, 3) := by decide +kernel
theorem dX9_next_9 : decode cX9_next 9 = .ok (.putfield 64, 3) := by decide +kernel
theorem dX9_next_12 : decode cX9_next 12 = .ok (.aload_n 0, 1) := by decide +kernel
theorem dX9_next_13 : decode cX9_next 13 = .ok (.aload_n 0, 1) := by decide +kernel
theorem dX9_next_14 : decode cX9_next 14 = .ok (.getfield 58, 3) := by decide +kernel
theorem dX9_next_17 : decode cX9_next 17 = .ok (.aload_n 0, 1) := by decide +kernel
theorem dX9_next_18 : decode cX9_next 18 = .ok (.getfield 54, 3) := by decide +kernel
theorem dX9_next_21 : decode cX9_next 21 = .ok (.if_icmp .ne 7, 3) := by decide +kernel
theorem dX9_next_24 : decode cX9_next 24 = .ok (.iconst (-1), 1) := by decide +kernel
theorem dX9_next_25 : decode cX9_next 25 = .ok (.goto 12, 3) := by decide +kernel
theorem dX9_next_28 : decode cX9_next 28 = .ok (.aload_n 0, 1) := by decide +kernel
theorem dX9_next_29 : decode cX9_next 29 = .ok (.getfield 26, 3) := by decide +kernel
theorem dX9_next_32 : decode cX9_next 32 = .ok (.aload_n 0, 1) := by decide +kernel
theorem dX9_next_33 : decode cX9_next 33 = .ok (.getfield 58, 3) := by decide +kernel
theorem dX9_next_36 : decode cX9_next 36 = .ok (.iaload, 1) := by decide +kernel
theorem dX9_next_37 : decode cX9_next 37 = .ok (.putfield 67, 3) := by decide +kernel
theorem dX9_next_40 : decode cX9_next 40 = .ok (.aload_n 0, 1) := by decide +kernel
theorem dX9_next_41 : decode cX9_next 41 = .ok (.dup, 1) := by decide +kernel
theorem dX9_next_42 : decode cX9_next 42 = .ok (.getfield 58, 3) := by decide +kernel
theorem dX9_next_45 : decode cX9_next 45 = .ok (.aload_n 0, 1) := by decide +kernel
theorem dX9_next_46 : decode cX9_next 46 = .ok (.getfield 58, 3) := by decide +kernel
theorem dX9_next_49 : decode cX9_next 49 = .ok (.aload_n 0, 1) := by decide +kernel
theorem dX9_next_50 : decode cX9_next 50 = .ok (.getfield 54, 3) := by decide +kernel
theorem dX9_next_53 : decode cX9_next 53 = .ok (.if_icmp .ne 7, 3) := by decide +kernel
theorem dX9_next_56 : decode cX9_next 56 = .ok (.iconst 0, 1) := by decide +kernel
theorem dX9_next_57 : decode cX9_next 57 = .ok (.goto 4, 3) := by decide +kernel
theorem dX9_next_60 : decode cX9_next 60 = .ok (.iconst 1, 1) := by decide +kernel
theorem dX9_next_61 : decode cX9_next 61 = .ok (.iadd, 1) := by decide +kernel
theorem dX9_next_62 : decode cX9_next 62 = .ok (.putfield 58, 3) := by decide +kernel
theorem dX9_next_65 : decode cX9_next 65 = .ok (.return_, 1) := by decide +kernel
theorem dX9_readsCopy_0 : decode cX9_readsCopy 0 = .ok (.aload_n 0, 1) := by decide +kernel
theorem dX9_readsCopy_1 : decode cX9_readsCopy 1 = .ok (.invokevirtual 70, 3) := by decide +kernel
theorem dX9_readsCopy_4 : decode cX9_readsCopy 4 = .ok (.aload_n 0, 1) := by decide +kernel
theorem dX9_readsCopy_5 : decode cX9_readsCopy 5 = .ok (.getfield 67, 3) := by decide +kernel
theorem dX9_readsCopy_8 : decode cX9_readsCopy 8 = .ok (.bipush 109, 2) := by decide +kernel
theorem dX9_readsCopy_10 : decode cX9_readsCopy 10 = .ok (.if_icmp .ne 12, 3) := by decide +kernel
theorem dX9_readsCopy_13 : decode cX9_readsCopy 13 = .ok (.aload_n 0, 1) := by decide +kernel
theorem dX9_readsCopy_14 : decode cX9_readsCopy 14 = .ok (.getfield 73, 3) := by decide +kernel
theorem dX9_readsCopy_17 : decode cX9_readsCopy 17 = .ok (.bipush 6, 2) := by decide +kernel
theorem dX9_readsCopy_19 : decode cX9_readsCopy 19 = .ok (.if_icmp .ne 5, 3) := by decide +kernel
theorem dX9_readsCopy_22 : decode cX9_readsCopy 22 = .ok (.iconst 0, 1) := by decide +kernel
theorem dX9_readsCopy_23 : decode cX9_readsCopy 23 = .ok (.ireturn, 1) := by decide +kernel
theorem dX9_readsCopy_24 : decode cX9_readsCopy 24 = .ok (.iconst 0, 1) := by decide +kernel
theorem dX9_readsCopy_25 : decode cX9_readsCopy 25 = .ok (.istore_n 1, 1) := by decide +kernel
theorem dX9_readsCopy_26 : decode cX9_readsCopy 26 = .ok (.aload_n 0, 1) := by decide +kernel
theorem dX9_readsCopy_27 : decode cX9_readsCopy 27 = .ok (.invokevirtual 70, 3) := by decide +kernel
theorem dX9_readsCopy_30 : decode cX9_readsCopy 30 = .ok (.aload_n 0, 1) := by decide +kernel
theorem dX9_readsCopy_31 : decode cX9_readsCopy 31 = .ok (.getfield 67, 3) := by decide +kernel
theorem dX9_readsCopy_34 : decode cX9_readsCopy 34 = .ok (.bipush 59, 2) := by decide +kernel
theorem dX9_readsCopy_36 : decode cX9_readsCopy 36 = .ok (.if_icmp .eq 94, 3) := by decide +kernel
theorem dX9_readsCopy_39 : decode cX9_readsCopy 39 = .ok (.aload_n 0, 1) := by decide +kernel
theorem dX9_readsCopy_40 : decode cX9_readsCopy 40 = .ok (.getfield 73, 3) := by decide +kernel
theorem dX9_readsCopy_43 : decode cX9_readsCopy 43 = .ok (.ifCond .ne 8, 3) := by decide +kernel
theorem dX9_readsCopy_46 : decode cX9_readsCopy 46 = .ok (.bipush 8, 2) := by decide +kernel
theorem dX9_readsCopy_48 : decode cX9_readsCopy 48 = .ok (.goto 7, 3) := by decide +kernel
theorem dX9_readsCopy_51 : decode cX9_readsCopy 51 = .ok (.aload_n 0, 1) := by decide +kernel
theorem dX9_readsCopy_52 : decode cX9_readsCopy 52 = .ok (.getfield 76, 3) := by decide +kernel
theorem dX9_readsCopy_55 : decode cX9_readsCopy 55 = .ok (.istore_n 2, 1) := by decide +kernel
theorem dX9_readsCopy_56 : decode cX9_readsCopy 56 = .ok (.aload_n 0, 1) := by decide +kernel
theorem dX9_readsCopy_57 : decode cX9_readsCopy 57 = .ok (.getfield 67, 3) := by decide +kernel
theorem dX9_readsCopy_60 : decode cX9_readsCopy 60 = .ok (.bipush 97, 2) := by decide +kernel
theorem dX9_readsCopy_62 : decode cX9_readsCopy 62 = .ok (.bipush 100, 2) := by decide +kernel
theorem dX9_readsCopy_64 : decode cX9_readsCopy 64 = .ok (.invokestatic 50, 3) := by decide +kernel
theorem dX9_readsCopy_67 : decode cX9_readsCopy 67 = .ok (.ifCond .ne 12, 3) := by decide +kernel
theorem dX9_readsCopy_70 : decode cX9_readsCopy 70 = .ok (.aload_n 0, 1) := by decide +kernel
theorem dX9_readsCopy_71 : decode cX9_readsCopy 71 = .ok (.getfield 67, 3) := by decide +kernel
theorem dX9_readsCopy_74 : decode cX9_readsCopy 74 = .ok (.bipush 63, 2) := by decide +kernel
theorem dX9_readsCopy_76 : decode cX9_readsCopy 76 = .ok (.if_icmp .ne 8, 3) := by decide +kernel
theorem dX9_readsCopy_79 : decode cX9_readsCopy 79 = .ok (.iload_n 1, 1) := by decide +kernel
theorem dX9_readsCopy_80 : decode cX9_readsCopy 80 = .ok (.iload_n 2, 1) := by decide +kernel
theorem dX9_readsCopy_81 : decode cX9_readsCopy 81 = .ok (.if_icmp .ne 5, 3) := by decide +kernel
theorem dX9_readsCopy_84 : decode cX9_readsCopy 84 = .ok (.iconst 0, 1) := by decide +kernel
theorem dX9_readsCopy_85 : decode cX9_readsCopy 85 = .ok (.ireturn, 1) := by decide +kernel
theorem dX9_readsCopy_86 : decode cX9_readsCopy 86 = .ok (.aload_n 0, 1) := by decide +kernel
theorem dX9_readsCopy_87 : decode cX9_readsCopy 87 = .ok (.getfield 29, 3) := by decide +kernel
theorem dX9_readsCopy_90 : decode cX9_readsCopy 90 = .ok (.bipush 8, 2) := by decide +kernel
theorem dX9_readsCopy_92 : decode cX9_readsCopy 92 = .ok (.aload_n 0, 1) := by decide +kernel
theorem dX9_readsCopy_93 : decode cX9_readsCopy 93 = .ok (.getfield 73, 3) := by decide +kernel
theorem dX9_readsCopy_96 : decode cX9_readsCopy 96 = .ok (.imul, 1) := by decide +kernel
theorem dX9_readsCopy_97 : decode cX9_readsCopy 97 = .ok (.iload_n 1, 1) := by decide +kernel
theorem dX9_readsCopy_98 : decode cX9_readsCopy 98 = .ok (.iadd, 1) := by decide +kernel
theorem dX9_readsCopy_99 : decode cX9_readsCopy 99 = .ok (.aload_n 0, 1) := by decide +kernel
theorem dX9_readsCopy_100 : decode cX9_readsCopy 100 = .ok (.getfield 67, 3) := by decide +kernel
theorem dX9_readsCopy_103 : decode cX9_readsCopy 103 = .ok (.bipush 63, 2) := by decide +kernel
theorem dX9_readsCopy_105 : decode cX9_readsCopy 105 = .ok (.if_icmp .ne 7, 3) := by decide +kernel
theorem dX9_readsCopy_108 : decode cX9_readsCopy 108 = .ok (.iconst 4, 1) := by decide +kernel
theorem dX9_readsCopy_109 : decode cX9_readsCopy 109 = .ok (.goto 10, 3) := by decide +kernel
theorem dX9_readsCopy_112 : decode cX9_readsCopy 112 = .ok (.aload_n 0, 1) := by decide +kernel
theorem dX9_readsCopy_113 : decode cX9_readsCopy 113 = .ok (.getfield 67, 3) := by decide +kernel
theorem dX9_readsCopy_116 : decode cX9_readsCopy 116 = .ok (.bipush 97, 2) := by decide +kernel
theorem dX9_readsCopy_118 : decode cX9_readsCopy 118 = .ok (.isub, 1) := by decide +kernel
theorem dX9_readsCopy_119 : decode cX9_readsCopy 119 = .ok (.iastore, 1) := by decide +kernel
theorem dX9_readsCopy_120 : decode cX9_readsCopy 120 = .ok (.iinc 1 1, 3) := by decide +kernel
theorem dX9_readsCopy_123 : decode cX9_readsCopy 123 = .ok (.aload_n 0, 1) := by decide +kernel
theorem dX9_readsCopy_124 : decode cX9_readsCopy 124 = .ok (.invokevirtual 70, 3) := by decide +kernel
theorem dX9_readsCopy_127 : decode cX9_readsCopy 127 = .ok (.goto (-97), 3) := by decide +kernel
theorem dX9_readsCopy_130 : decode cX9_readsCopy 130 = .ok (.iload_n 1, 1) := by decide +kernel
theorem dX9_readsCopy_131 : decode cX9_readsCopy 131 = .ok (.ifCond .eq 18, 3) := by decide +kernel
theorem dX9_readsCopy_134 : decode cX9_readsCopy 134 = .ok (.aload_n 0, 1) := by decide +kernel
theorem dX9_readsCopy_135 : decode cX9_readsCopy 135 = .ok (.getfield 73, 3) := by decide +kernel
theorem dX9_readsCopy_138 : decode cX9_readsCopy 138 = .ok (.ifCond .le 13, 3) := by decide +kernel
theorem dX9_readsCopy_141 : decode cX9_readsCopy 141 = .ok (.iload_n 1, 1) := by decide +kernel
theorem dX9_readsCopy_142 : decode cX9_readsCopy 142 = .ok (.aload_n 0, 1) := by decide +kernel
theorem dX9_readsCopy_143 : decode cX9_readsCopy 143 = .ok (.getfield 76, 3) := by decide +kernel
theorem dX9_readsCopy_146 : decode cX9_readsCopy 146 = .ok (.if_icmp .ge 5, 3) := by decide +kernel
theorem dX9_readsCopy_149 : decode cX9_readsCopy 149 = .ok (.iconst 0, 1) := by decide +kernel
theorem dX9_readsCopy_150 : decode cX9_readsCopy 150 = .ok (.ireturn, 1) := by decide +kernel
theorem dX9_readsCopy_151 : decode cX9_readsCopy 151 = .ok (.aload_n 0, 1) := by decide +kernel
theorem dX9_readsCopy_152 : decode cX9_readsCopy 152 = .ok (.iload_n 1, 1) := by decide +kernel
theorem dX9_readsCopy_153 : decode cX9_readsCopy 153 = .ok (.putfield 76, 3) := by decide +kernel
theorem dX9_readsCopy_156 : decode cX9_readsCopy 156 = .ok (.aload_n 0, 1) := by decide +kernel
theorem dX9_readsCopy_157 : decode cX9_readsCopy 157 = .ok (.dup, 1) := by decide +kernel
theorem dX9_readsCopy_158 : decode cX9_readsCopy 158 = .ok (.getfield 73, 3) := by decide +kernel
theorem dX9_readsCopy_161 : decode cX9_readsCopy 161 = .ok (.iconst 1, 1) := by decide +kernel
theorem dX9_readsCopy_162 : decode cX9_readsCopy 162 = .ok (.iadd, 1) := by decide +kernel
theorem dX9_readsCopy_163 : decode cX9_readsCopy 163 = .ok (.putfield 73, 3) := by decide +kernel
theorem dX9_readsCopy_166 : decode cX9_readsCopy 166 = .ok (.iconst 1, 1) := by decide +kernel
theorem dX9_readsCopy_167 : decode cX9_readsCopy 167 = .ok (.ireturn, 1) := by decide +kernel
theorem dX9_copies_0 : decode cX9_copies 0 = .ok (.aload_n 0, 1) := by decide +kernel
theorem dX9_copies_1 : decode cX9_copies 1 = .ok (.iconst 0, 1) := by decide +kernel
theorem dX9_copies_2 : decode cX9_copies 2 = .ok (.putfield 58, 3) := by decide +kernel
theorem dX9_copies_5 : decode cX9_copies 5 = .ok (.aload_n 0, 1) := by decide +kernel
theorem dX9_copies_6 : decode cX9_copies 6 = .ok (.iconst 0, 1) := by decide +kernel
theorem dX9_copies_7 : decode cX9_copies 7 = .ok (.putfield 73, 3) := by decide +kernel
theorem dX9_copies_10 : decode cX9_copies 10 = .ok (.aload_n 0, 1) := by decide +kernel
theorem dX9_copies_11 : decode cX9_copies 11 = .ok (.iconst 0, 1) := by decide +kernel
theorem dX9_copies_12 : decode cX9_copies 12 = .ok (.putfield 76, 3) := by decide +kernel
theorem dX9_copies_15 : decode cX9_copies 15 = .ok (.aload_n 0, 1) := by decide +kernel
theorem dX9_copies_16 : decode cX9_copies 16 = .ok (.invokevirtual 61, 3) := by decide +kernel
theorem dX9_copies_19 : decode cX9_copies 19 = .ok (.aload_n 0, 1) := by decide +kernel
theorem dX9_copies_20 : decode cX9_copies 20 = .ok (.getfield 58, 3) := by decide +kernel
theorem dX9_copies_23 : decode cX9_copies 23 = .ok (.aload_n 0, 1) := by decide +kernel
theorem dX9_copies_24 : decode cX9_copies 24 = .ok (.getfield 54, 3) := by decide +kernel
theorem dX9_copies_27 : decode cX9_copies 27 = .ok (.if_icmp .ge 33, 3) := by decide +kernel
theorem dX9_copies_30 : decode cX9_copies 30 = .ok (.aload_n 0, 1) := by decide +kernel
theorem dX9_copies_31 : decode cX9_copies 31 = .ok (.invokevirtual 79, 3) := by decide +kernel
theorem dX9_copies_34 : decode cX9_copies 34 = .ok (.ifCond .ne 19, 3) := by decide +kernel
theorem dX9_copies_37 : decode cX9_copies 37 = .ok (.aload_n 0, 1) := by decide +kernel
theorem dX9_copies_38 : decode cX9_copies 38 = .ok (.aload_n 0, 1) := by decide +kernel
theorem dX9_copies_39 : decode cX9_copies 39 = .ok (.getfield 64, 3) := by decide +kernel
theorem dX9_copies_42 : decode cX9_copies 42 = .ok (.putfield 83, 3) := by decide +kernel
theorem dX9_copies_45 : decode cX9_copies 45 = .ok (.bipush (-10), 2) := by decide +kernel
theorem dX9_copies_47 : decode cX9_copies 47 = .ok (.aload_n 0, 1) := by decide +kernel
theorem dX9_copies_48 : decode cX9_copies 48 = .ok (.getfield 83, 3) := by decide +kernel
theorem dX9_copies_51 : decode cX9_copies 51 = .ok (.isub, 1) := by decide +kernel
theorem dX9_copies_52 : decode cX9_copies 52 = .ok (.ireturn, 1) := by decide +kernel
theorem dX9_copies_53 : decode cX9_copies 53 = .ok (.aload_n 0, 1) := by decide +kernel
theorem dX9_copies_54 : decode cX9_copies 54 = .ok (.invokevirtual 61, 3) := by decide +kernel
theorem dX9_copies_57 : decode cX9_copies 57 = .ok (.goto (-38), 3) := by decide +kernel
theorem dX9_copies_60 : decode cX9_copies 60 = .ok (.aload_n 0, 1) := by decide +kernel
theorem dX9_copies_61 : decode cX9_copies 61 = .ok (.iconst 0, 1) := by decide +kernel
theorem dX9_copies_62 : decode cX9_copies 62 = .ok (.putfield 54, 3) := by decide +kernel
theorem dX9_copies_65 : decode cX9_copies 65 = .ok (.aload_n 0, 1) := by decide +kernel
theorem dX9_copies_66 : decode cX9_copies 66 = .ok (.aload_n 0, 1) := by decide +kernel
theorem dX9_copies_67 : decode cX9_copies 67 = .ok (.getfield 73, 3) := by decide +kernel
theorem dX9_copies_70 : decode cX9_copies 70 = .ok (.putfield 86, 3) := by decide +kernel
theorem dX9_copies_73 : decode cX9_copies 73 = .ok (.aload_n 0, 1) := by decide +kernel
theorem dX9_copies_74 : decode cX9_copies 74 = .ok (.aload_n 0, 1) := by decide +kernel
theorem dX9_copies_75 : decode cX9_copies 75 = .ok (.getfield 76, 3) := by decide +kernel
theorem dX9_copies_78 : decode cX9_copies 78 = .ok (.putfield 89, 3) := by decide +kernel
theorem dX9_copies_81 : decode cX9_copies 81 = .ok (.iconst 0, 1) := by decide +kernel
theorem dX9_copies_82 : decode cX9_copies 82 = .ok (.istore_n 1, 1) := by decide +kernel
theorem dX9_copies_83 : decode cX9_copies 83 = .ok (.iload_n 1, 1) := by decide +kernel
theorem dX9_copies_84 : decode cX9_copies 84 = .ok (.bipush 48, 2) := by decide +kernel
theorem dX9_copies_86 : decode cX9_copies 86 = .ok (.if_icmp .ge 21, 3) := by decide +kernel
theorem dX9_copies_89 : decode cX9_copies 89 = .ok (.aload_n 0, 1) := by decide +kernel
theorem dX9_copies_90 : decode cX9_copies 90 = .ok (.getfield 7, 3) := by decide +kernel
theorem dX9_copies_93 : decode cX9_copies 93 = .ok (.iload_n 1, 1) := by decide +kernel
theorem dX9_copies_94 : decode cX9_copies 94 = .ok (.aload_n 0, 1) := by decide +kernel
theorem dX9_copies_95 : decode cX9_copies 95 = .ok (.getfield 29, 3) := by decide +kernel
theorem dX9_copies_98 : decode cX9_copies 98 = .ok (.iload_n 1, 1) := by decide +kernel
theorem dX9_copies_99 : decode cX9_copies 99 = .ok (.iaload, 1) := by decide +kernel
theorem dX9_copies_100 : decode cX9_copies 100 = .ok (.iastore, 1) := by decide +kernel
theorem dX9_copies_101 : decode cX9_copies 101 = .ok (.iinc 1 1, 3) := by decide +kernel
theorem dX9_copies_104 : decode cX9_copies 104 = .ok (.goto (-21), 3) := by decide +kernel
theorem dX9_copies_107 : decode cX9_copies 107 = .ok (.aload_n 0, 1) := by decide +kernel
theorem dX9_copies_108 : decode cX9_copies 108 = .ok (.getfield 7, 3) := by decide +kernel
theorem dX9_copies_111 : decode cX9_copies 111 = .ok (.bipush 48, 2) := by decide +kernel
theorem dX9_copies_113 : decode cX9_copies 113 = .ok (.iconst 0, 1) := by decide +kernel
theorem dX9_copies_114 : decode cX9_copies 114 = .ok (.iastore, 1) := by decide +kernel
theorem dX9_copies_115 : decode cX9_copies 115 = .ok (.aload_n 0, 1) := by decide +kernel
theorem dX9_copies_116 : decode cX9_copies 116 = .ok (.iconst 0, 1) := by decide +kernel
theorem dX9_copies_117 : decode cX9_copies 117 = .ok (.putfield 92, 3) := by decide +kernel
theorem dX9_copies_120 : decode cX9_copies 120 = .ok (.aload_n 0, 1) := by decide +kernel
theorem dX9_copies_121 : decode cX9_copies 121 = .ok (.iconst 0, 1) := by decide +kernel
theorem dX9_copies_122 : decode cX9_copies 122 = .ok (.putfield 95, 3) := by decide +kernel
theorem dX9_copies_125 : decode cX9_copies 125 = .ok (.aload_n 0, 1) := by decide +kernel
theorem dX9_copies_126 : decode cX9_copies 126 = .ok (.getfield 19, 3) := by decide +kernel
theorem dX9_copies_129 : decode cX9_copies 129 = .ok (.iconst 0, 1) := by decide +kernel
theorem dX9_copies_130 : decode cX9_copies 130 = .ok (.iconst 0, 1) := by decide +kernel
theorem dX9_copies_131 : decode cX9_copies 131 = .ok (.bastore, 1) := by decide +kernel
theorem dX9_copies_132 : decode cX9_copies 132 = .ok (.aload_n 0, 1) := by decide +kernel
theorem dX9_copies_133 : decode cX9_copies 133 = .ok (.getfield 19, 3) := by decide +kernel
theorem dX9_copies_136 : decode cX9_copies 136 = .ok (.iconst 1, 1) := by decide +kernel
theorem dX9_copies_137 : decode cX9_copies 137 = .ok (.iconst 0, 1) := by decide +kernel
theorem dX9_copies_138 : decode cX9_copies 138 = .ok (.bastore, 1) := by decide +kernel
theorem dX9_copies_139 : decode cX9_copies 139 = .ok (.aload_n 0, 1) := by decide +kernel
theorem dX9_copies_140 : decode cX9_copies 140 = .ok (.getfield 86, 3) := by decide +kernel
theorem dX9_copies_143 : decode cX9_copies 143 = .ok (.ireturn, 1) := by decide +kernel
theorem dX9_isCopy_0 : decode cX9_isCopy 0 = .ok (.iload_n 1, 1) := by decide +kernel
theorem dX9_isCopy_1 : decode cX9_isCopy 1 = .ok (.iconst 0, 1) := by decide +kernel
theorem dX9_isCopy_2 : decode cX9_isCopy 2 = .ok (.aload_n 0, 1) := by decide +kernel
theorem dX9_isCopy_3 : decode cX9_isCopy 3 = .ok (.getfield 86, 3) := by decide +kernel
theorem dX9_isCopy_6 : decode cX9_isCopy 6 = .ok (.iconst 1, 1) := by decide +kernel
theorem dX9_isCopy_7 : decode cX9_isCopy 7 = .ok (.isub, 1) := by decide +kernel
theorem dX9_isCopy_8 : decode cX9_isCopy 8 = .ok (.invokestatic 50, 3) := by decide +kernel
theorem dX9_isCopy_11 : decode cX9_isCopy 11 = .ok (.ireturn, 1) := by decide +kernel
theorem dX9_isPlace_0 : decode cX9_isPlace 0 = .ok (.iload_n 1, 1) := by decide +kernel
theorem dX9_isPlace_1 : decode cX9_isPlace 1 = .ok (.iconst 0, 1) := by decide +kernel
theorem dX9_isPlace_2 : decode cX9_isPlace 2 = .ok (.aload_n 0, 1) := by decide +kernel
theorem dX9_isPlace_3 : decode cX9_isPlace 3 = .ok (.getfield 89, 3) := by decide +kernel
theorem dX9_isPlace_6 : decode cX9_isPlace 6 = .ok (.iconst 1, 1) := by decide +kernel
theorem dX9_isPlace_7 : decode cX9_isPlace 7 = .ok (.isub, 1) := by decide +kernel
theorem dX9_isPlace_8 : decode cX9_isPlace 8 = .ok (.invokestatic 50, 3) := by decide +kernel
theorem dX9_isPlace_11 : decode cX9_isPlace 11 = .ok (.ireturn, 1) := by decide +kernel
theorem dX9_readingOf_0 : decode cX9_readingOf 0 = .ok (.aload_n 0, 1) := by decide +kernel
theorem dX9_readingOf_1 : decode cX9_readingOf 1 = .ok (.getfield 7, 3) := by decide +kernel
theorem dX9_readingOf_4 : decode cX9_readingOf 4 = .ok (.bipush 8, 2) := by decide +kernel
theorem dX9_readingOf_6 : decode cX9_readingOf 6 = .ok (.iload_n 1, 1) := by decide +kernel
theorem dX9_readingOf_7 : decode cX9_readingOf 7 = .ok (.imul, 1) := by decide +kernel
theorem dX9_readingOf_8 : decode cX9_readingOf 8 = .ok (.iload_n 2, 1) := by decide +kernel
theorem dX9_readingOf_9 : decode cX9_readingOf 9 = .ok (.iadd, 1) := by decide +kernel
theorem dX9_readingOf_10 : decode cX9_readingOf 10 = .ok (.iaload, 1) := by decide +kernel
theorem dX9_readingOf_11 : decode cX9_readingOf 11 = .ok (.ireturn, 1) := by decide +kernel
theorem dX9_reading_0 : decode cX9_reading 0 = .ok (.aload_n 0, 1) := by decide +kernel
theorem dX9_reading_1 : decode cX9_reading 1 = .ok (.iload_n 1, 1) := by decide +kernel
theorem dX9_reading_2 : decode cX9_reading 2 = .ok (.invokevirtual 98, 3) := by decide +kernel
theorem dX9_reading_5 : decode cX9_reading 5 = .ok (.ifCond .eq 11, 3) := by decide +kernel
theorem dX9_reading_8 : decode cX9_reading 8 = .ok (.aload_n 0, 1) := by decide +kernel
theorem dX9_reading_9 : decode cX9_reading 9 = .ok (.iload_n 2, 1) := by decide +kernel
theorem dX9_reading_10 : decode cX9_reading 10 = .ok (.invokevirtual 102, 3) := by decide +kernel
theorem dX9_reading_13 : decode cX9_reading 13 = .ok (.ifCond .ne 5, 3) := by decide +kernel
theorem dX9_reading_16 : decode cX9_reading 16 = .ok (.iconst (-1), 1) := by decide +kernel
theorem dX9_reading_17 : decode cX9_reading 17 = .ok (.ireturn, 1) := by decide +kernel
theorem dX9_reading_18 : decode cX9_reading 18 = .ok (.aload_n 0, 1) := by decide +kernel
theorem dX9_reading_19 : decode cX9_reading 19 = .ok (.iload_n 1, 1) := by decide +kernel
theorem dX9_reading_20 : decode cX9_reading 20 = .ok (.iload_n 2, 1) := by decide +kernel
theorem dX9_reading_21 : decode cX9_reading 21 = .ok (.invokevirtual 105, 3) := by decide +kernel
theorem dX9_reading_24 : decode cX9_reading 24 = .ok (.iconst 4, 1) := by decide +kernel
theorem dX9_reading_25 : decode cX9_reading 25 = .ok (.if_icmp .ne 8, 3) := by decide +kernel
theorem dX9_reading_28 : decode cX9_reading 28 = .ok (.bipush (-9), 2) := by decide +kernel
theorem dX9_reading_30 : decode cX9_reading 30 = .ok (.goto 9, 3) := by decide +kernel
theorem dX9_reading_33 : decode cX9_reading 33 = .ok (.aload_n 0, 1) := by decide +kernel
theorem dX9_reading_34 : decode cX9_reading 34 = .ok (.iload_n 1, 1) := by decide +kernel
theorem dX9_reading_35 : decode cX9_reading 35 = .ok (.iload_n 2, 1) := by decide +kernel
theorem dX9_reading_36 : decode cX9_reading 36 = .ok (.invokevirtual 105, 3) := by decide +kernel
theorem dX9_reading_39 : decode cX9_reading 39 = .ok (.ireturn, 1) := by decide +kernel
theorem dX9_trees_0 : decode cX9_trees 0 = .ok (.aload_n 0, 1) := by decide +kernel
theorem dX9_trees_1 : decode cX9_trees 1 = .ok (.getfield 86, 3) := by decide +kernel
theorem dX9_trees_4 : decode cX9_trees 4 = .ok (.iconst 4, 1) := by decide +kernel
theorem dX9_trees_5 : decode cX9_trees 5 = .ok (.if_icmp .ge 7, 3) := by decide +kernel
theorem dX9_trees_8 : decode cX9_trees 8 = .ok (.iconst 1, 1) := by decide +kernel
theorem dX9_trees_9 : decode cX9_trees 9 = .ok (.goto 30, 3) := by decide +kernel
theorem dX9_trees_12 : decode cX9_trees 12 = .ok (.aload_n 0, 1) := by decide +kernel
theorem dX9_trees_13 : decode cX9_trees 13 = .ok (.getfield 86, 3) := by decide +kernel
theorem dX9_trees_16 : decode cX9_trees 16 = .ok (.iconst 4, 1) := by decide +kernel
theorem dX9_trees_17 : decode cX9_trees 17 = .ok (.if_icmp .ne 7, 3) := by decide +kernel
theorem dX9_trees_20 : decode cX9_trees 20 = .ok (.iconst 3, 1) := by decide +kernel
theorem dX9_trees_21 : decode cX9_trees 21 = .ok (.goto 18, 3) := by decide +kernel
theorem dX9_trees_24 : decode cX9_trees 24 = .ok (.aload_n 0, 1) := by decide +kernel
theorem dX9_trees_25 : decode cX9_trees 25 = .ok (.getfield 86, 3) := by decide +kernel
theorem dX9_trees_28 : decode cX9_trees 28 = .ok (.iconst 5, 1) := by decide +kernel
theorem dX9_trees_29 : decode cX9_trees 29 = .ok (.if_icmp .ne 8, 3) := by decide +kernel
theorem dX9_trees_32 : decode cX9_trees 32 = .ok (.bipush 15, 2) := by decide +kernel
theorem dX9_trees_34 : decode cX9_trees 34 = .ok (.goto 5, 3) := by decide +kernel
theorem dX9_trees_37 : decode cX9_trees 37 = .ok (.bipush 105, 2) := by decide +kernel
theorem dX9_trees_39 : decode cX9_trees 39 = .ok (.ireturn, 1) := by decide +kernel
theorem dX9_edgeOf_0 : decode cX9_edgeOf 0 = .ok (.iload_n 1, 1) := by decide +kernel
theorem dX9_edgeOf_1 : decode cX9_edgeOf 1 = .ok (.iconst 3, 1) := by decide +kernel
theorem dX9_edgeOf_2 : decode cX9_edgeOf 2 = .ok (.if_icmp .ne 9, 3) := by decide +kernel
theorem dX9_edgeOf_5 : decode cX9_edgeOf 5 = .ok (.iload_n 0, 1) := by decide +kernel
theorem dX9_edgeOf_6 : decode cX9_edgeOf 6 = .ok (.iconst 3, 1) := by decide +kernel
theorem dX9_edgeOf_7 : decode cX9_edgeOf 7 = .ok (.irem, 1) := by decide +kernel
theorem dX9_edgeOf_8 : decode cX9_edgeOf 8 = .ok (.goto 20, 3) := by decide +kernel
theorem dX9_edgeOf_11 : decode cX9_edgeOf 11 = .ok (.iload_n 1, 1) := by decide +kernel
theorem dX9_edgeOf_12 : decode cX9_edgeOf 12 = .ok (.iconst 4, 1) := by decide +kernel
theorem dX9_edgeOf_13 : decode cX9_edgeOf 13 = .ok (.if_icmp .ne 11, 3) := by decide +kernel
theorem dX9_edgeOf_16 : decode cX9_edgeOf 16 = .ok (.iload_n 0, 1) := by decide +kernel
theorem dX9_edgeOf_17 : decode cX9_edgeOf 17 = .ok (.iconst 3, 1) := by decide +kernel
theorem dX9_edgeOf_18 : decode cX9_edgeOf 18 = .ok (.idiv, 1) := by decide +kernel
theorem dX9_edgeOf_19 : decode cX9_edgeOf 19 = .ok (.iconst 5, 1) := by decide +kernel
