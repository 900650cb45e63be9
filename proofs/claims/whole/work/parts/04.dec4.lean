theorem dX9_edgeOf_20 : decode cX9_edgeOf 20 = .ok (.irem, 1) := by decide +kernel
theorem dX9_edgeOf_21 : decode cX9_edgeOf 21 = .ok (.goto 7, 3) := by decide +kernel
theorem dX9_edgeOf_24 : decode cX9_edgeOf 24 = .ok (.iload_n 0, 1) := by decide +kernel
theorem dX9_edgeOf_25 : decode cX9_edgeOf 25 = .ok (.bipush 15, 2) := by decide +kernel
theorem dX9_edgeOf_27 : decode cX9_edgeOf 27 = .ok (.idiv, 1) := by decide +kernel
theorem dX9_edgeOf_28 : decode cX9_edgeOf 28 = .ok (.ireturn, 1) := by decide +kernel
theorem dX9_edge_0 : decode cX9_edge 0 = .ok (.aload_n 0, 1) := by decide +kernel
theorem dX9_edge_1 : decode cX9_edge 1 = .ok (.getfield 32, 3) := by decide +kernel
theorem dX9_edge_4 : decode cX9_edge 4 = .ok (.aload_n 0, 1) := by decide +kernel
theorem dX9_edge_5 : decode cX9_edge 5 = .ok (.getfield 109, 3) := by decide +kernel
theorem dX9_edge_8 : decode cX9_edge 8 = .ok (.iload_n 1, 1) := by decide +kernel
theorem dX9_edge_9 : decode cX9_edge 9 = .ok (.iastore, 1) := by decide +kernel
theorem dX9_edge_10 : decode cX9_edge 10 = .ok (.aload_n 0, 1) := by decide +kernel
theorem dX9_edge_11 : decode cX9_edge 11 = .ok (.getfield 35, 3) := by decide +kernel
theorem dX9_edge_14 : decode cX9_edge 14 = .ok (.aload_n 0, 1) := by decide +kernel
theorem dX9_edge_15 : decode cX9_edge 15 = .ok (.getfield 109, 3) := by decide +kernel
theorem dX9_edge_18 : decode cX9_edge 18 = .ok (.iload_n 2, 1) := by decide +kernel
theorem dX9_edge_19 : decode cX9_edge 19 = .ok (.iastore, 1) := by decide +kernel
theorem dX9_edge_20 : decode cX9_edge 20 = .ok (.aload_n 0, 1) := by decide +kernel
theorem dX9_edge_21 : decode cX9_edge 21 = .ok (.dup, 1) := by decide +kernel
theorem dX9_edge_22 : decode cX9_edge 22 = .ok (.getfield 109, 3) := by decide +kernel
theorem dX9_edge_25 : decode cX9_edge 25 = .ok (.iconst 1, 1) := by decide +kernel
theorem dX9_edge_26 : decode cX9_edge 26 = .ok (.iadd, 1) := by decide +kernel
theorem dX9_edge_27 : decode cX9_edge 27 = .ok (.putfield 109, 3) := by decide +kernel
theorem dX9_edge_30 : decode cX9_edge 30 = .ok (.return_, 1) := by decide +kernel
theorem dX9_layTree_0 : decode cX9_layTree 0 = .ok (.aload_n 0, 1) := by decide +kernel
theorem dX9_layTree_1 : decode cX9_layTree 1 = .ok (.iconst 0, 1) := by decide +kernel
theorem dX9_layTree_2 : decode cX9_layTree 2 = .ok (.putfield 109, 3) := by decide +kernel
theorem dX9_layTree_5 : decode cX9_layTree 5 = .ok (.aload_n 0, 1) := by decide +kernel
theorem dX9_layTree_6 : decode cX9_layTree 6 = .ok (.aload_n 0, 1) := by decide +kernel
theorem dX9_layTree_7 : decode cX9_layTree 7 = .ok (.getfield 86, 3) := by decide +kernel
theorem dX9_layTree_10 : decode cX9_layTree 10 = .ok (.putfield 112, 3) := by decide +kernel
theorem dX9_layTree_13 : decode cX9_layTree 13 = .ok (.aload_n 0, 1) := by decide +kernel
theorem dX9_layTree_14 : decode cX9_layTree 14 = .ok (.getfield 86, 3) := by decide +kernel
theorem dX9_layTree_17 : decode cX9_layTree 17 = .ok (.iconst 2, 1) := by decide +kernel
theorem dX9_layTree_18 : decode cX9_layTree 18 = .ok (.if_icmp .ne 9, 3) := by decide +kernel
theorem dX9_layTree_21 : decode cX9_layTree 21 = .ok (.aload_n 0, 1) := by decide +kernel
theorem dX9_layTree_22 : decode cX9_layTree 22 = .ok (.iconst 0, 1) := by decide +kernel
theorem dX9_layTree_23 : decode cX9_layTree 23 = .ok (.iconst 1, 1) := by decide +kernel
theorem dX9_layTree_24 : decode cX9_layTree 24 = .ok (.invokevirtual 115, 3) := by decide +kernel
theorem dX9_layTree_27 : decode cX9_layTree 27 = .ok (.aload_n 0, 1) := by decide +kernel
theorem dX9_layTree_28 : decode cX9_layTree 28 = .ok (.getfield 86, 3) := by decide +kernel
theorem dX9_layTree_31 : decode cX9_layTree 31 = .ok (.iconst 3, 1) := by decide +kernel
theorem dX9_layTree_32 : decode cX9_layTree 32 = .ok (.if_icmp .ge 4, 3) := by decide +kernel
theorem dX9_layTree_35 : decode cX9_layTree 35 = .ok (.return_, 1) := by decide +kernel
theorem dX9_layTree_36 : decode cX9_layTree 36 = .ok (.aload_n 0, 1) := by decide +kernel
theorem dX9_layTree_37 : decode cX9_layTree 37 = .ok (.iconst 0, 1) := by decide +kernel
theorem dX9_layTree_38 : decode cX9_layTree 38 = .ok (.aload_n 0, 1) := by decide +kernel
theorem dX9_layTree_39 : decode cX9_layTree 39 = .ok (.getfield 86, 3) := by decide +kernel
theorem dX9_layTree_42 : decode cX9_layTree 42 = .ok (.invokevirtual 115, 3) := by decide +kernel
theorem dX9_layTree_45 : decode cX9_layTree 45 = .ok (.aload_n 0, 1) := by decide +kernel
theorem dX9_layTree_46 : decode cX9_layTree 46 = .ok (.iconst 1, 1) := by decide +kernel
theorem dX9_layTree_47 : decode cX9_layTree 47 = .ok (.aload_n 0, 1) := by decide +kernel
theorem dX9_layTree_48 : decode cX9_layTree 48 = .ok (.getfield 86, 3) := by decide +kernel
theorem dX9_layTree_51 : decode cX9_layTree 51 = .ok (.invokevirtual 115, 3) := by decide +kernel
theorem dX9_layTree_54 : decode cX9_layTree 54 = .ok (.aload_n 0, 1) := by decide +kernel
theorem dX9_layTree_55 : decode cX9_layTree 55 = .ok (.iconst 2, 1) := by decide +kernel
theorem dX9_layTree_56 : decode cX9_layTree 56 = .ok (.aload_n 0, 1) := by decide +kernel
theorem dX9_layTree_57 : decode cX9_layTree 57 = .ok (.getfield 86, 3) := by decide +kernel
theorem dX9_layTree_60 : decode cX9_layTree 60 = .ok (.invokevirtual 115, 3) := by decide +kernel
theorem dX9_layTree_63 : decode cX9_layTree 63 = .ok (.aload_n 0, 1) := by decide +kernel
theorem dX9_layTree_64 : decode cX9_layTree 64 = .ok (.dup, 1) := by decide +kernel
theorem dX9_layTree_65 : decode cX9_layTree 65 = .ok (.getfield 112, 3) := by decide +kernel
theorem dX9_layTree_68 : decode cX9_layTree 68 = .ok (.iconst 1, 1) := by decide +kernel
theorem dX9_layTree_69 : decode cX9_layTree 69 = .ok (.iadd, 1) := by decide +kernel
theorem dX9_layTree_70 : decode cX9_layTree 70 = .ok (.putfield 112, 3) := by decide +kernel
theorem dX9_layTree_73 : decode cX9_layTree 73 = .ok (.iconst 3, 1) := by decide +kernel
theorem dX9_layTree_74 : decode cX9_layTree 74 = .ok (.istore_n 2, 1) := by decide +kernel
theorem dX9_layTree_75 : decode cX9_layTree 75 = .ok (.iload_n 2, 1) := by decide +kernel
theorem dX9_layTree_76 : decode cX9_layTree 76 = .ok (.aload_n 0, 1) := by decide +kernel
theorem dX9_layTree_77 : decode cX9_layTree 77 = .ok (.getfield 86, 3) := by decide +kernel
theorem dX9_layTree_80 : decode cX9_layTree 80 = .ok (.if_icmp .ge 62, 3) := by decide +kernel
theorem dX9_layTree_83 : decode cX9_layTree 83 = .ok (.iload_n 1, 1) := by decide +kernel
theorem dX9_layTree_84 : decode cX9_layTree 84 = .ok (.iload_n 2, 1) := by decide +kernel
theorem dX9_layTree_85 : decode cX9_layTree 85 = .ok (.invokestatic 119, 3) := by decide +kernel
theorem dX9_layTree_88 : decode cX9_layTree 88 = .ok (.istore_n 3, 1) := by decide +kernel
theorem dX9_layTree_89 : decode cX9_layTree 89 = .ok (.aload_n 0, 1) := by decide +kernel
theorem dX9_layTree_90 : decode cX9_layTree 90 = .ok (.getfield 35, 3) := by decide +kernel
theorem dX9_layTree_93 : decode cX9_layTree 93 = .ok (.iload_n 3, 1) := by decide +kernel
theorem dX9_layTree_94 : decode cX9_layTree 94 = .ok (.iaload, 1) := by decide +kernel
theorem dX9_layTree_95 : decode cX9_layTree 95 = .ok (.istore 4, 2) := by decide +kernel
theorem dX9_layTree_97 : decode cX9_layTree 97 = .ok (.aload_n 0, 1) := by decide +kernel
theorem dX9_layTree_98 : decode cX9_layTree 98 = .ok (.getfield 35, 3) := by decide +kernel
theorem dX9_layTree_101 : decode cX9_layTree 101 = .ok (.iload_n 3, 1) := by decide +kernel
theorem dX9_layTree_102 : decode cX9_layTree 102 = .ok (.aload_n 0, 1) := by decide +kernel
theorem dX9_layTree_103 : decode cX9_layTree 103 = .ok (.getfield 112, 3) := by decide +kernel
theorem dX9_layTree_106 : decode cX9_layTree 106 = .ok (.iastore, 1) := by decide +kernel
theorem dX9_layTree_107 : decode cX9_layTree 107 = .ok (.aload_n 0, 1) := by decide +kernel
theorem dX9_layTree_108 : decode cX9_layTree 108 = .ok (.aload_n 0, 1) := by decide +kernel
theorem dX9_layTree_109 : decode cX9_layTree 109 = .ok (.getfield 112, 3) := by decide +kernel
theorem dX9_layTree_112 : decode cX9_layTree 112 = .ok (.iload 4, 2) := by decide +kernel
theorem dX9_layTree_114 : decode cX9_layTree 114 = .ok (.invokevirtual 115, 3) := by decide +kernel
theorem dX9_layTree_117 : decode cX9_layTree 117 = .ok (.aload_n 0, 1) := by decide +kernel
theorem dX9_layTree_118 : decode cX9_layTree 118 = .ok (.aload_n 0, 1) := by decide +kernel
theorem dX9_layTree_119 : decode cX9_layTree 119 = .ok (.getfield 112, 3) := by decide +kernel
theorem dX9_layTree_122 : decode cX9_layTree 122 = .ok (.iload_n 2, 1) := by decide +kernel
theorem dX9_layTree_123 : decode cX9_layTree 123 = .ok (.invokevirtual 115, 3) := by decide +kernel
theorem dX9_layTree_126 : decode cX9_layTree 126 = .ok (.aload_n 0, 1) := by decide +kernel
theorem dX9_layTree_127 : decode cX9_layTree 127 = .ok (.dup, 1) := by decide +kernel
theorem dX9_layTree_128 : decode cX9_layTree 128 = .ok (.getfield 112, 3) := by decide +kernel
theorem dX9_layTree_131 : decode cX9_layTree 131 = .ok (.iconst 1, 1) := by decide +kernel
theorem dX9_layTree_132 : decode cX9_layTree 132 = .ok (.iadd, 1) := by decide +kernel
theorem dX9_layTree_133 : decode cX9_layTree 133 = .ok (.putfield 112, 3) := by decide +kernel
theorem dX9_layTree_136 : decode cX9_layTree 136 = .ok (.iinc 2 1, 3) := by decide +kernel
theorem dX9_layTree_139 : decode cX9_layTree 139 = .ok (.goto (-64), 3) := by decide +kernel
theorem dX9_layTree_142 : decode cX9_layTree 142 = .ok (.return_, 1) := by decide +kernel
theorem dX9_between_0 : decode cX9_between 0 = .ok (.iload_n 0, 1) := by decide +kernel
theorem dX9_between_1 : decode cX9_between 1 = .ok (.iload_n 1, 1) := by decide +kernel
theorem dX9_between_2 : decode cX9_between 2 = .ok (.if_icmp .ne 7, 3) := by decide +kernel
theorem dX9_between_5 : decode cX9_between 5 = .ok (.iconst 0, 1) := by decide +kernel
theorem dX9_between_6 : decode cX9_between 6 = .ok (.goto 17, 3) := by decide +kernel
theorem dX9_between_9 : decode cX9_between 9 = .ok (.iload_n 2, 1) := by decide +kernel
theorem dX9_between_10 : decode cX9_between 10 = .ok (.ifCond .eq 12, 3) := by decide +kernel
theorem dX9_between_13 : decode cX9_between 13 = .ok (.iload_n 0, 1) := by decide +kernel
theorem dX9_between_14 : decode cX9_between 14 = .ok (.iload_n 1, 1) := by decide +kernel
theorem dX9_between_15 : decode cX9_between 15 = .ok (.if_icmp .le 7, 3) := by decide +kernel
theorem dX9_between_18 : decode cX9_between 18 = .ok (.iconst 2, 1) := by decide +kernel
theorem dX9_between_19 : decode cX9_between 19 = .ok (.goto 4, 3) := by decide +kernel
theorem dX9_between_22 : decode cX9_between 22 = .ok (.iconst 1, 1) := by decide +kernel
theorem dX9_between_23 : decode cX9_between 23 = .ok (.ireturn, 1) := by decide +kernel
theorem dX9_layLeaves_0 : decode cX9_layLeaves 0 = .ok (.iconst 0, 1) := by decide +kernel
theorem dX9_layLeaves_1 : decode cX9_layLeaves 1 = .ok (.istore_n 2, 1) := by decide +kernel
theorem dX9_layLeaves_2 : decode cX9_layLeaves 2 = .ok (.iload_n 2, 1) := by decide +kernel
theorem dX9_layLeaves_3 : decode cX9_layLeaves 3 = .ok (.aload_n 0, 1) := by decide +kernel
theorem dX9_layLeaves_4 : decode cX9_layLeaves 4 = .ok (.getfield 112, 3) := by decide +kernel
theorem dX9_layLeaves_7 : decode cX9_layLeaves 7 = .ok (.if_icmp .ge 79, 3) := by decide +kernel
theorem dX9_layLeaves_10 : decode cX9_layLeaves 10 = .ok (.iconst 0, 1) := by decide +kernel
theorem dX9_layLeaves_11 : decode cX9_layLeaves 11 = .ok (.istore_n 3, 1) := by decide +kernel
theorem dX9_layLeaves_12 : decode cX9_layLeaves 12 = .ok (.iload_n 3, 1) := by decide +kernel
theorem dX9_layLeaves_13 : decode cX9_layLeaves 13 = .ok (.iconst 4, 1) := by decide +kernel
theorem dX9_layLeaves_14 : decode cX9_layLeaves 14 = .ok (.if_icmp .ge 66, 3) := by decide +kernel
theorem dX9_layLeaves_17 : decode cX9_layLeaves 17 = .ok (.iload_n 2, 1) := by decide +kernel
theorem dX9_layLeaves_18 : decode cX9_layLeaves 18 = .ok (.aload_n 0, 1) := by decide +kernel
theorem dX9_layLeaves_19 : decode cX9_layLeaves 19 = .ok (.getfield 86, 3) := by decide +kernel
theorem dX9_layLeaves_22 : decode cX9_layLeaves 22 = .ok (.if_icmp .ge 23, 3) := by decide +kernel
theorem dX9_layLeaves_25 : decode cX9_layLeaves 25 = .ok (.aload_n 0, 1) := by decide +kernel
theorem dX9_layLeaves_26 : decode cX9_layLeaves 26 = .ok (.iload_n 2, 1) := by decide +kernel
theorem dX9_layLeaves_27 : decode cX9_layLeaves 27 = .ok (.iload_n 1, 1) := by decide +kernel
theorem dX9_layLeaves_28 : decode cX9_layLeaves 28 = .ok (.invokevirtual 105, 3) := by decide +kernel
theorem dX9_layLeaves_31 : decode cX9_layLeaves 31 = .ok (.iconst 4, 1) := by decide +kernel
theorem dX9_layLeaves_32 : decode cX9_layLeaves 32 = .ok (.if_icmp .eq 13, 3) := by decide +kernel
theorem dX9_layLeaves_35 : decode cX9_layLeaves 35 = .ok (.aload_n 0, 1) := by decide +kernel
theorem dX9_layLeaves_36 : decode cX9_layLeaves 36 = .ok (.iload_n 2, 1) := by decide +kernel
theorem dX9_layLeaves_37 : decode cX9_layLeaves 37 = .ok (.iload_n 1, 1) := by decide +kernel
theorem dX9_layLeaves_38 : decode cX9_layLeaves 38 = .ok (.invokevirtual 105, 3) := by decide +kernel
theorem dX9_layLeaves_41 : decode cX9_layLeaves 41 = .ok (.iload_n 3, 1) := by decide +kernel
theorem dX9_layLeaves_42 : decode cX9_layLeaves 42 = .ok (.if_icmp .ne 7, 3) := by decide +kernel
theorem dX9_layLeaves_45 : decode cX9_layLeaves 45 = .ok (.iconst 1, 1) := by decide +kernel
theorem dX9_layLeaves_46 : decode cX9_layLeaves 46 = .ok (.goto 4, 3) := by decide +kernel
theorem dX9_layLeaves_49 : decode cX9_layLeaves 49 = .ok (.iconst 0, 1) := by decide +kernel
theorem dX9_layLeaves_50 : decode cX9_layLeaves 50 = .ok (.istore 4, 2) := by decide +kernel
theorem dX9_layLeaves_52 : decode cX9_layLeaves 52 = .ok (.aload_n 0, 1) := by decide +kernel
theorem dX9_layLeaves_53 : decode cX9_layLeaves 53 = .ok (.getfield 38, 3) := by decide +kernel
theorem dX9_layLeaves_56 : decode cX9_layLeaves 56 = .ok (.iconst 4, 1) := by decide +kernel
theorem dX9_layLeaves_57 : decode cX9_layLeaves 57 = .ok (.iload_n 2, 1) := by decide +kernel
theorem dX9_layLeaves_58 : decode cX9_layLeaves 58 = .ok (.imul, 1) := by decide +kernel
theorem dX9_layLeaves_59 : decode cX9_layLeaves 59 = .ok (.iload_n 3, 1) := by decide +kernel
theorem dX9_layLeaves_60 : decode cX9_layLeaves 60 = .ok (.iadd, 1) := by decide +kernel
theorem dX9_layLeaves_61 : decode cX9_layLeaves 61 = .ok (.iload 4, 2) := by decide +kernel
theorem dX9_layLeaves_63 : decode cX9_layLeaves 63 = .ok (.ifCond .eq 7, 3) := by decide +kernel
theorem dX9_layLeaves_66 : decode cX9_layLeaves 66 = .ok (.iconst 0, 1) := by decide +kernel
theorem dX9_layLeaves_67 : decode cX9_layLeaves 67 = .ok (.goto 6, 3) := by decide +kernel
theorem dX9_layLeaves_70 : decode cX9_layLeaves 70 = .ok (.sipush 9999, 3) := by decide +kernel
theorem dX9_layLeaves_73 : decode cX9_layLeaves 73 = .ok (.iastore, 1) := by decide +kernel
theorem dX9_layLeaves_74 : decode cX9_layLeaves 74 = .ok (.iinc 3 1, 3) := by decide +kernel
theorem dX9_layLeaves_77 : decode cX9_layLeaves 77 = .ok (.goto (-65), 3) := by decide +kernel
theorem dX9_layLeaves_80 : decode cX9_layLeaves 80 = .ok (.iinc 2 1, 3) := by decide +kernel
theorem dX9_layLeaves_83 : decode cX9_layLeaves 83 = .ok (.goto (-81), 3) := by decide +kernel
theorem dX9_layLeaves_86 : decode cX9_layLeaves 86 = .ok (.return_, 1) := by decide +kernel
theorem dX9_least_0 : decode cX9_least 0 = .ok (.sipush 9999, 3) := by decide +kernel
theorem dX9_least_3 : decode cX9_least 3 = .ok (.istore_n 2, 1) := by decide +kernel
theorem dX9_least_4 : decode cX9_least 4 = .ok (.iconst 0, 1) := by decide +kernel
theorem dX9_least_5 : decode cX9_least 5 = .ok (.istore_n 3, 1) := by decide +kernel
theorem dX9_least_6 : decode cX9_least 6 = .ok (.iload_n 3, 1) := by decide +kernel
theorem dX9_least_7 : decode cX9_least 7 = .ok (.iconst 4, 1) := by decide +kernel
theorem dX9_least_8 : decode cX9_least 8 = .ok (.if_icmp .ge 38, 3) := by decide +kernel
theorem dX9_least_11 : decode cX9_least 11 = .ok (.aload_n 0, 1) := by decide +kernel
theorem dX9_least_12 : decode cX9_least 12 = .ok (.getfield 38, 3) := by decide +kernel
theorem dX9_least_15 : decode cX9_least 15 = .ok (.iconst 4, 1) := by decide +kernel
theorem dX9_least_16 : decode cX9_least 16 = .ok (.iload_n 1, 1) := by decide +kernel
theorem dX9_least_17 : decode cX9_least 17 = .ok (.imul, 1) := by decide +kernel
theorem dX9_least_18 : decode cX9_least 18 = .ok (.iload_n 3, 1) := by decide +kernel
theorem dX9_least_19 : decode cX9_least 19 = .ok (.iadd, 1) := by decide +kernel
theorem dX9_least_20 : decode cX9_least 20 = .ok (.iaload, 1) := by decide +kernel
theorem dX9_least_21 : decode cX9_least 21 = .ok (.iload_n 2, 1) := by decide +kernel
theorem dX9_least_22 : decode cX9_least 22 = .ok (.if_icmp .ge 16, 3) := by decide +kernel
theorem dX9_least_25 : decode cX9_least 25 = .ok (.aload_n 0, 1) := by decide +kernel
theorem dX9_least_26 : decode cX9_least 26 = .ok (.getfield 38, 3) := by decide +kernel
theorem dX9_least_29 : decode cX9_least 29 = .ok (.iconst 4, 1) := by decide +kernel
theorem dX9_least_30 : decode cX9_least 30 = .ok (.iload_n 1, 1) := by decide +kernel
theorem dX9_least_31 : decode cX9_least 31 = .ok (.imul, 1) := by decide +kernel
theorem dX9_least_32 : decode cX9_least 32 = .ok (.iload_n 3, 1) := by decide +kernel
theorem dX9_least_33 : decode cX9_least 33 = .ok (.iadd, 1) := by decide +kernel
theorem dX9_least_34 : decode cX9_least 34 = .ok (.iaload, 1) := by decide +kernel
theorem dX9_least_35 : decode cX9_least 35 = .ok (.goto 4, 3) := by decide +kernel
theorem dX9_least_38 : decode cX9_least 38 = .ok (.iload_n 2, 1) := by decide +kernel
theorem dX9_least_39 : decode cX9_least 39 = .ok (.istore_n 2, 1) := by decide +kernel
theorem dX9_least_40 : decode cX9_least 40 = .ok (.iinc 3 1, 3) := by decide +kernel
theorem dX9_least_43 : decode cX9_least 43 = .ok (.goto (-37), 3) := by decide +kernel
theorem dX9_least_46 : decode cX9_least 46 = .ok (.iload_n 2, 1) := by decide +kernel
theorem dX9_least_47 : decode cX9_least 47 = .ok (.ireturn, 1) := by decide +kernel
theorem dX9_takes_0 : decode cX9_takes 0 = .ok (.iconst 0, 1) := by decide +kernel
theorem dX9_takes_1 : decode cX9_takes 1 = .ok (.istore 4, 2) := by decide +kernel
theorem dX9_takes_3 : decode cX9_takes 3 = .ok (.iload 4, 2) := by decide +kernel
theorem dX9_takes_5 : decode cX9_takes 5 = .ok (.iconst 4, 1) := by decide +kernel
theorem dX9_takes_6 : decode cX9_takes 6 = .ok (.if_icmp .ge 83, 3) := by decide +kernel
theorem dX9_takes_9 : decode cX9_takes 9 = .ok (.sipush 9999, 3) := by decide +kernel
theorem dX9_takes_12 : decode cX9_takes 12 = .ok (.istore 5, 2) := by decide +kernel
theorem dX9_takes_14 : decode cX9_takes 14 = .ok (.iconst 0, 1) := by decide +kernel
theorem dX9_takes_15 : decode cX9_takes 15 = .ok (.istore 6, 2) := by decide +kernel
theorem dX9_takes_17 : decode cX9_takes 17 = .ok (.iload 6, 2) := by decide +kernel
theorem dX9_takes_19 : decode cX9_takes 19 = .ok (.iconst 4, 1) := by decide +kernel
theorem dX9_takes_20 : decode cX9_takes 20 = .ok (.if_icmp .ge 47, 3) := by decide +kernel
theorem dX9_takes_23 : decode cX9_takes 23 = .ok (.aload_n 0, 1) := by decide +kernel
theorem dX9_takes_24 : decode cX9_takes 24 = .ok (.getfield 38, 3) := by decide +kernel
theorem dX9_takes_27 : decode cX9_takes 27 = .ok (.iconst 4, 1) := by decide +kernel
theorem dX9_takes_28 : decode cX9_takes 28 = .ok (.iload_n 1, 1) := by decide +kernel
theorem dX9_takes_29 : decode cX9_takes 29 = .ok (.imul, 1) := by decide +kernel
theorem dX9_takes_30 : decode cX9_takes 30 = .ok (.iload 6, 2) := by decide +kernel
theorem dX9_takes_32 : decode cX9_takes 32 = .ok (.iadd, 1) := by decide +kernel
theorem dX9_takes_33 : decode cX9_takes 33 = .ok (.iaload, 1) := by decide +kernel
theorem dX9_takes_34 : decode cX9_takes 34 = .ok (.iload 4, 2) := by decide +kernel
theorem dX9_takes_36 : decode cX9_takes 36 = .ok (.iload 6, 2) := by decide +kernel
theorem dX9_takes_38 : decode cX9_takes 38 = .ok (.iload_n 3, 1) := by decide +kernel
theorem dX9_takes_39 : decode cX9_takes 39 = .ok (.invokestatic 122, 3) := by decide +kernel
theorem dX9_takes_42 : decode cX9_takes 42 = .ok (.iadd, 1) := by decide +kernel
theorem dX9_takes_43 : decode cX9_takes 43 = .ok (.istore 7, 2) := by decide +kernel
theorem dX9_takes_45 : decode cX9_takes 45 = .ok (.iload 7, 2) := by decide +kernel
theorem dX9_takes_47 : decode cX9_takes 47 = .ok (.iload 5, 2) := by decide +kernel
theorem dX9_takes_49 : decode cX9_takes 49 = .ok (.if_icmp .ge 8, 3) := by decide +kernel
theorem dX9_takes_52 : decode cX9_takes 52 = .ok (.iload 7, 2) := by decide +kernel
theorem dX9_takes_54 : decode cX9_takes 54 = .ok (.goto 5, 3) := by decide +kernel
theorem dX9_takes_57 : decode cX9_takes 57 = .ok (.iload 5, 2) := by decide +kernel
theorem dX9_takes_59 : decode cX9_takes 59 = .ok (.istore 5, 2) := by decide +kernel
theorem dX9_takes_61 : decode cX9_takes 61 = .ok (.iinc 6 1, 3) := by decide +kernel
theorem dX9_takes_64 : decode cX9_takes 64 = .ok (.goto (-47), 3) := by decide +kernel
theorem dX9_takes_67 : decode cX9_takes 67 = .ok (.aload_n 0, 1) := by decide +kernel
theorem dX9_takes_68 : decode cX9_takes 68 = .ok (.getfield 38, 3) := by decide +kernel
theorem dX9_takes_71 : decode cX9_takes 71 = .ok (.iconst 4, 1) := by decide +kernel
theorem dX9_takes_72 : decode cX9_takes 72 = .ok (.iload_n 2, 1) := by decide +kernel
theorem dX9_takes_73 : decode cX9_takes 73 = .ok (.imul, 1) := by decide +kernel
theorem dX9_takes_74 : decode cX9_takes 74 = .ok (.iload 4, 2) := by decide +kernel
theorem dX9_takes_76 : decode cX9_takes 76 = .ok (.iadd, 1) := by decide +kernel
theorem dX9_takes_77 : decode cX9_takes 77 = .ok (.dup2, 1) := by decide +kernel
theorem dX9_takes_78 : decode cX9_takes 78 = .ok (.iaload, 1) := by decide +kernel
theorem dX9_takes_79 : decode cX9_takes 79 = .ok (.iload 5, 2) := by decide +kernel
theorem dX9_takes_81 : decode cX9_takes 81 = .ok (.iadd, 1) := by decide +kernel
theorem dX9_takes_82 : decode cX9_takes 82 = .ok (.iastore, 1) := by decide +kernel
theorem dX9_takes_83 : decode cX9_takes 83 = .ok (.iinc 4 1, 3) := by decide +kernel
theorem dX9_takes_86 : decode cX9_takes 86 = .ok (.goto (-83), 3) := by decide +kernel
theorem dX9_takes_89 : decode cX9_takes 89 = .ok (.return_, 1) := by decide +kernel
theorem dX9_lastEdge_0 : decode cX9_lastEdge 0 = .ok (.bipush (-9), 2) := by decide +kernel
theorem dX9_lastEdge_2 : decode cX9_lastEdge 2 = .ok (.istore_n 2, 1) := by decide +kernel
theorem dX9_lastEdge_3 : decode cX9_lastEdge 3 = .ok (.iconst 0, 1) := by decide +kernel
theorem dX9_lastEdge_4 : decode cX9_lastEdge 4 = .ok (.istore_n 3, 1) := by decide +kernel
theorem dX9_lastEdge_5 : decode cX9_lastEdge 5 = .ok (.iload_n 3, 1) := by decide +kernel
theorem dX9_lastEdge_6 : decode cX9_lastEdge 6 = .ok (.aload_n 0, 1) := by decide +kernel
theorem dX9_lastEdge_7 : decode cX9_lastEdge 7 = .ok (.getfield 109, 3) := by decide +kernel
theorem dX9_lastEdge_10 : decode cX9_lastEdge 10 = .ok (.if_icmp .ge 49, 3) := by decide +kernel
theorem dX9_lastEdge_13 : decode cX9_lastEdge 13 = .ok (.aload_n 0, 1) := by decide +kernel
theorem dX9_lastEdge_14 : decode cX9_lastEdge 14 = .ok (.getfield 41, 3) := by decide +kernel
theorem dX9_lastEdge_17 : decode cX9_lastEdge 17 = .ok (.iload_n 3, 1) := by decide +kernel
theorem dX9_lastEdge_18 : decode cX9_lastEdge 18 = .ok (.baload, 1) := by decide +kernel
theorem dX9_lastEdge_19 : decode cX9_lastEdge 19 = .ok (.ifCond .ne 34, 3) := by decide +kernel
theorem dX9_lastEdge_22 : decode cX9_lastEdge 22 = .ok (.aload_n 0, 1) := by decide +kernel
theorem dX9_lastEdge_23 : decode cX9_lastEdge 23 = .ok (.getfield 32, 3) := by decide +kernel
theorem dX9_lastEdge_26 : decode cX9_lastEdge 26 = .ok (.iload_n 3, 1) := by decide +kernel
theorem dX9_lastEdge_27 : decode cX9_lastEdge 27 = .ok (.iaload, 1) := by decide +kernel
theorem dX9_lastEdge_28 : decode cX9_lastEdge 28 = .ok (.iload_n 1, 1) := by decide +kernel
theorem dX9_lastEdge_29 : decode cX9_lastEdge 29 = .ok (.if_icmp .eq 13, 3) := by decide +kernel
theorem dX9_lastEdge_32 : decode cX9_lastEdge 32 = .ok (.aload_n 0, 1) := by decide +kernel
theorem dX9_lastEdge_33 : decode cX9_lastEdge 33 = .ok (.getfield 35, 3) := by decide +kernel
theorem dX9_lastEdge_36 : decode cX9_lastEdge 36 = .ok (.iload_n 3, 1) := by decide +kernel
theorem dX9_lastEdge_37 : decode cX9_lastEdge 37 = .ok (.iaload, 1) := by decide +kernel
theorem dX9_lastEdge_38 : decode cX9_lastEdge 38 = .ok (.iload_n 1, 1) := by decide +kernel
theorem dX9_lastEdge_39 : decode cX9_lastEdge 39 = .ok (.if_icmp .ne 14, 3) := by decide +kernel
theorem dX9_lastEdge_42 : decode cX9_lastEdge 42 = .ok (.iload_n 2, 1) := by decide +kernel
theorem dX9_lastEdge_43 : decode cX9_lastEdge 43 = .ok (.bipush (-9), 2) := by decide +kernel
theorem dX9_lastEdge_45 : decode cX9_lastEdge 45 = .ok (.if_icmp .eq 6, 3) := by decide +kernel
theorem dX9_lastEdge_48 : decode cX9_lastEdge 48 = .ok (.bipush (-9), 2) := by decide +kernel
theorem dX9_lastEdge_50 : decode cX9_lastEdge 50 = .ok (.ireturn, 1) := by decide +kernel
theorem dX9_lastEdge_51 : decode cX9_lastEdge 51 = .ok (.iload_n 3, 1) := by decide +kernel
theorem dX9_lastEdge_52 : decode cX9_lastEdge 52 = .ok (.istore_n 2, 1) := by decide +kernel
theorem dX9_lastEdge_53 : decode cX9_lastEdge 53 = .ok (.iinc 3 1, 3) := by decide +kernel
theorem dX9_lastEdge_56 : decode cX9_lastEdge 56 = .ok (.goto (-51), 3) := by decide +kernel
theorem dX9_lastEdge_59 : decode cX9_lastEdge 59 = .ok (.iload_n 2, 1) := by decide +kernel
theorem dX9_lastEdge_60 : decode cX9_lastEdge 60 = .ok (.ireturn, 1) := by decide +kernel
theorem dX9_costFrom_0 : decode cX9_costFrom 0 = .ok (.aload_n 0, 1) := by decide +kernel
theorem dX9_costFrom_1 : decode cX9_costFrom 1 = .ok (.iload_n 2, 1) := by decide +kernel
theorem dX9_costFrom_2 : decode cX9_costFrom 2 = .ok (.invokevirtual 126, 3) := by decide +kernel
theorem dX9_costFrom_5 : decode cX9_costFrom 5 = .ok (.iconst 0, 1) := by decide +kernel
theorem dX9_costFrom_6 : decode cX9_costFrom 6 = .ok (.istore 4, 2) := by decide +kernel
theorem dX9_costFrom_8 : decode cX9_costFrom 8 = .ok (.iload 4, 2) := by decide +kernel
theorem dX9_costFrom_10 : decode cX9_costFrom 10 = .ok (.aload_n 0, 1) := by decide +kernel
theorem dX9_costFrom_11 : decode cX9_costFrom 11 = .ok (.getfield 109, 3) := by decide +kernel
theorem dX9_costFrom_14 : decode cX9_costFrom 14 = .ok (.if_icmp .ge 17, 3) := by decide +kernel
theorem dX9_costFrom_17 : decode cX9_costFrom 17 = .ok (.aload_n 0, 1) := by decide +kernel
theorem dX9_costFrom_18 : decode cX9_costFrom 18 = .ok (.getfield 41, 3) := by decide +kernel
theorem dX9_costFrom_21 : decode cX9_costFrom 21 = .ok (.iload 4, 2) := by decide +kernel
theorem dX9_costFrom_23 : decode cX9_costFrom 23 = .ok (.iconst 0, 1) := by decide +kernel
theorem dX9_costFrom_24 : decode cX9_costFrom 24 = .ok (.bastore, 1) := by decide +kernel
theorem dX9_costFrom_25 : decode cX9_costFrom 25 = .ok (.iinc 4 1, 3) := by decide +kernel
theorem dX9_costFrom_28 : decode cX9_costFrom 28 = .ok (.goto (-20), 3) := by decide +kernel
theorem dX9_costFrom_31 : decode cX9_costFrom 31 = .ok (.iconst 0, 1) := by decide +kernel
theorem dX9_costFrom_32 : decode cX9_costFrom 32 = .ok (.istore 4, 2) := by decide +kernel
theorem dX9_costFrom_34 : decode cX9_costFrom 34 = .ok (.iload 4, 2) := by decide +kernel
theorem dX9_costFrom_36 : decode cX9_costFrom 36 = .ok (.aload_n 0, 1) := by decide +kernel
theorem dX9_costFrom_37 : decode cX9_costFrom 37 = .ok (.getfield 109, 3) := by decide +kernel
theorem dX9_costFrom_40 : decode cX9_costFrom 40 = .ok (.if_icmp .ge 97, 3) := by decide +kernel
theorem dX9_costFrom_43 : decode cX9_costFrom 43 = .ok (.iconst 0, 1) := by decide +kernel
theorem dX9_costFrom_44 : decode cX9_costFrom 44 = .ok (.istore 5, 2) := by decide +kernel
theorem dX9_costFrom_46 : decode cX9_costFrom 46 = .ok (.iload 5, 2) := by decide +kernel
theorem dX9_costFrom_48 : decode cX9_costFrom 48 = .ok (.aload_n 0, 1) := by decide +kernel
theorem dX9_costFrom_49 : decode cX9_costFrom 49 = .ok (.getfield 112, 3) := by decide +kernel
theorem dX9_costFrom_52 : decode cX9_costFrom 52 = .ok (.if_icmp .ge 82, 3) := by decide +kernel
theorem dX9_costFrom_55 : decode cX9_costFrom 55 = .ok (.iload 5, 2) := by decide +kernel
theorem dX9_costFrom_57 : decode cX9_costFrom 57 = .ok (.iload_n 1, 1) := by decide +kernel
theorem dX9_costFrom_58 : decode cX9_costFrom 58 = .ok (.if_icmp .ne 8, 3) := by decide +kernel
theorem dX9_costFrom_61 : decode cX9_costFrom 61 = .ok (.bipush (-9), 2) := by decide +kernel
theorem dX9_costFrom_63 : decode cX9_costFrom 63 = .ok (.goto 9, 3) := by decide +kernel
theorem dX9_costFrom_66 : decode cX9_costFrom 66 = .ok (.aload_n 0, 1) := by decide +kernel
theorem dX9_costFrom_67 : decode cX9_costFrom 67 = .ok (.iload 5, 2) := by decide +kernel
theorem dX9_costFrom_69 : decode cX9_costFrom 69 = .ok (.invokevirtual 130, 3) := by decide +kernel
theorem dX9_costFrom_72 : decode cX9_costFrom 72 = .ok (.istore 6, 2) := by decide +kernel
theorem dX9_costFrom_74 : decode cX9_costFrom 74 = .ok (.iload 6, 2) := by decide +kernel
theorem dX9_costFrom_76 : decode cX9_costFrom 76 = .ok (.bipush (-9), 2) := by decide +kernel
theorem dX9_costFrom_78 : decode cX9_costFrom 78 = .ok (.if_icmp .eq 50, 3) := by decide +kernel
theorem dX9_costFrom_81 : decode cX9_costFrom 81 = .ok (.aload_n 0, 1) := by decide +kernel
theorem dX9_costFrom_82 : decode cX9_costFrom 82 = .ok (.iload 5, 2) := by decide +kernel
theorem dX9_costFrom_84 : decode cX9_costFrom 84 = .ok (.aload_n 0, 1) := by decide +kernel
theorem dX9_costFrom_85 : decode cX9_costFrom 85 = .ok (.getfield 32, 3) := by decide +kernel
theorem dX9_costFrom_88 : decode cX9_costFrom 88 = .ok (.iload 6, 2) := by decide +kernel
theorem dX9_costFrom_90 : decode cX9_costFrom 90 = .ok (.iaload, 1) := by decide +kernel
theorem dX9_costFrom_91 : decode cX9_costFrom 91 = .ok (.iload 5, 2) := by decide +kernel
theorem dX9_costFrom_93 : decode cX9_costFrom 93 = .ok (.if_icmp .ne 13, 3) := by decide +kernel
theorem dX9_costFrom_96 : decode cX9_costFrom 96 = .ok (.aload_n 0, 1) := by decide +kernel
theorem dX9_costFrom_97 : decode cX9_costFrom 97 = .ok (.getfield 35, 3) := by decide +kernel
theorem dX9_costFrom_100 : decode cX9_costFrom 100 = .ok (.iload 6, 2) := by decide +kernel
theorem dX9_costFrom_102 : decode cX9_costFrom 102 = .ok (.iaload, 1) := by decide +kernel
theorem dX9_costFrom_103 : decode cX9_costFrom 103 = .ok (.goto 10, 3) := by decide +kernel
theorem dX9_costFrom_106 : decode cX9_costFrom 106 = .ok (.aload_n 0, 1) := by decide +kernel
theorem dX9_costFrom_107 : decode cX9_costFrom 107 = .ok (.getfield 32, 3) := by decide +kernel
theorem dX9_costFrom_110 : decode cX9_costFrom 110 = .ok (.iload 6, 2) := by decide +kernel
theorem dX9_costFrom_112 : decode cX9_costFrom 112 = .ok (.iaload, 1) := by decide +kernel
theorem dX9_costFrom_113 : decode cX9_costFrom 113 = .ok (.iload_n 3, 1) := by decide +kernel
theorem dX9_costFrom_114 : decode cX9_costFrom 114 = .ok (.invokevirtual 134, 3) := by decide +kernel
theorem dX9_costFrom_117 : decode cX9_costFrom 117 = .ok (.aload_n 0, 1) := by decide +kernel
theorem dX9_costFrom_118 : decode cX9_costFrom 118 = .ok (.getfield 41, 3) := by decide +kernel
theorem dX9_costFrom_121 : decode cX9_costFrom 121 = .ok (.iload 6, 2) := by decide +kernel
theorem dX9_costFrom_123 : decode cX9_costFrom 123 = .ok (.iconst 1, 1) := by decide +kernel
theorem dX9_costFrom_124 : decode cX9_costFrom 124 = .ok (.bastore, 1) := by decide +kernel
theorem dX9_costFrom_125 : decode cX9_costFrom 125 = .ok (.iinc 4 1, 3) := by decide +kernel
theorem dX9_costFrom_128 : decode cX9_costFrom 128 = .ok (.iinc 5 1, 3) := by decide +kernel
theorem dX9_costFrom_131 : decode cX9_costFrom 131 = .ok (.goto (-85), 3) := by decide +kernel
theorem dX9_costFrom_134 : decode cX9_costFrom 134 = .ok (.goto (-100), 3) := by decide +kernel
theorem dX9_costFrom_137 : decode cX9_costFrom 137 = .ok (.aload_n 0, 1) := by decide +kernel
theorem dX9_costFrom_138 : decode cX9_costFrom 138 = .ok (.iload_n 1, 1) := by decide +kernel
theorem dX9_costFrom_139 : decode cX9_costFrom 139 = .ok (.invokevirtual 138, 3) := by decide +kernel
theorem dX9_costFrom_142 : decode cX9_costFrom 142 = .ok (.ireturn, 1) := by decide +kernel
theorem dX9_changesAt_0 : decode cX9_changesAt 0 = .ok (.aload_n 0, 1) := by decide +kernel
theorem dX9_changesAt_1 : decode cX9_changesAt 1 = .ok (.getfield 86, 3) := by decide +kernel
theorem dX9_changesAt_4 : decode cX9_changesAt 4 = .ok (.ifCond .ne 7, 3) := by decide +kernel
theorem dX9_changesAt_7 : decode cX9_changesAt 7 = .ok (.iconst 0, 1) := by decide +kernel
theorem dX9_changesAt_8 : decode cX9_changesAt 8 = .ok (.goto 10, 3) := by decide +kernel
theorem dX9_changesAt_11 : decode cX9_changesAt 11 = .ok (.aload_n 0, 1) := by decide +kernel
theorem dX9_changesAt_12 : decode cX9_changesAt 12 = .ok (.iconst 0, 1) := by decide +kernel
theorem dX9_changesAt_13 : decode cX9_changesAt 13 = .ok (.iload_n 1, 1) := by decide +kernel
theorem dX9_changesAt_14 : decode cX9_changesAt 14 = .ok (.iconst 0, 1) := by decide +kernel
theorem dX9_changesAt_15 : decode cX9_changesAt 15 = .ok (.invokevirtual 141, 3) := by decide +kernel
theorem dX9_changesAt_18 : decode cX9_changesAt 18 = .ok (.ireturn, 1) := by decide +kernel
theorem dX9_changesOf_0 : decode cX9_changesOf 0 = .ok (.aload_n 0, 1) := by decide +kernel
theorem dX9_changesOf_1 : decode cX9_changesOf 1 = .ok (.iload_n 1, 1) := by decide +kernel
theorem dX9_changesOf_2 : decode cX9_changesOf 2 = .ok (.invokevirtual 144, 3) := by decide +kernel
theorem dX9_changesOf_5 : decode cX9_changesOf 5 = .ok (.iconst 0, 1) := by decide +kernel
theorem dX9_changesOf_6 : decode cX9_changesOf 6 = .ok (.istore_n 2, 1) := by decide +kernel
theorem dX9_changesOf_7 : decode cX9_changesOf 7 = .ok (.iconst 0, 1) := by decide +kernel
theorem dX9_changesOf_8 : decode cX9_changesOf 8 = .ok (.istore_n 3, 1) := by decide +kernel
theorem dX9_changesOf_9 : decode cX9_changesOf 9 = .ok (.iload_n 3, 1) := by decide +kernel
theorem dX9_changesOf_10 : decode cX9_changesOf 10 = .ok (.aload_n 0, 1) := by decide +kernel
theorem dX9_changesOf_11 : decode cX9_changesOf 11 = .ok (.getfield 89, 3) := by decide +kernel
theorem dX9_changesOf_14 : decode cX9_changesOf 14 = .ok (.if_icmp .ge 17, 3) := by decide +kernel
theorem dX9_changesOf_17 : decode cX9_changesOf 17 = .ok (.iload_n 2, 1) := by decide +kernel
theorem dX9_changesOf_18 : decode cX9_changesOf 18 = .ok (.aload_n 0, 1) := by decide +kernel
theorem dX9_changesOf_19 : decode cX9_changesOf 19 = .ok (.iload_n 3, 1) := by decide +kernel
theorem dX9_changesOf_20 : decode cX9_changesOf 20 = .ok (.invokevirtual 147, 3) := by decide +kernel
theorem dX9_changesOf_23 : decode cX9_changesOf 23 = .ok (.iadd, 1) := by decide +kernel
theorem dX9_changesOf_24 : decode cX9_changesOf 24 = .ok (.istore_n 2, 1) := by decide +kernel
theorem dX9_changesOf_25 : decode cX9_changesOf 25 = .ok (.iinc 3 1, 3) := by decide +kernel
theorem dX9_changesOf_28 : decode cX9_changesOf 28 = .ok (.goto (-19), 3) := by decide +kernel
theorem dX9_changesOf_31 : decode cX9_changesOf 31 = .ok (.iload_n 2, 1) := by decide +kernel
theorem dX9_changesOf_32 : decode cX9_changesOf 32 = .ok (.ireturn, 1) := by decide +kernel
theorem dX9_isTree_0 : decode cX9_isTree 0 = .ok (.iload_n 1, 1) := by decide +kernel
theorem dX9_isTree_1 : decode cX9_isTree 1 = .ok (.iconst 0, 1) := by decide +kernel
theorem dX9_isTree_2 : decode cX9_isTree 2 = .ok (.aload_n 0, 1) := by decide +kernel
theorem dX9_isTree_3 : decode cX9_isTree 3 = .ok (.invokevirtual 150, 3) := by decide +kernel
theorem dX9_isTree_6 : decode cX9_isTree 6 = .ok (.iconst 1, 1) := by decide +kernel
theorem dX9_isTree_7 : decode cX9_isTree 7 = .ok (.isub, 1) := by decide +kernel
theorem dX9_isTree_8 : decode cX9_isTree 8 = .ok (.invokestatic 50, 3) := by decide +kernel
theorem dX9_isTree_11 : decode cX9_isTree 11 = .ok (.ireturn, 1) := by decide +kernel
theorem dX9_changes_0 : decode cX9_changes 0 = .ok (.aload_n 0, 1) := by decide +kernel
theorem dX9_changes_1 : decode cX9_changes 1 = .ok (.iload_n 1, 1) := by decide +kernel
theorem dX9_changes_2 : decode cX9_changes 2 = .ok (.invokevirtual 154, 3) := by decide +kernel
theorem dX9_changes_5 : decode cX9_changes 5 = .ok (.ifCond .eq 16, 3) := by decide +kernel
theorem dX9_changes_8 : decode cX9_changes 8 = .ok (.iload_n 2, 1) := by decide +kernel
theorem dX9_changes_9 : decode cX9_changes 9 = .ok (.iconst (-1), 1) := by decide +kernel
theorem dX9_changes_10 : decode cX9_changes 10 = .ok (.if_icmp .eq 13, 3) := by decide +kernel
theorem dX9_changes_13 : decode cX9_changes 13 = .ok (.aload_n 0, 1) := by decide +kernel
theorem dX9_changes_14 : decode cX9_changes 14 = .ok (.iload_n 2, 1) := by decide +kernel
theorem dX9_changes_15 : decode cX9_changes 15 = .ok (.invokevirtual 102, 3) := by decide +kernel
theorem dX9_changes_18 : decode cX9_changes 18 = .ok (.ifCond .ne 5, 3) := by decide +kernel
theorem dX9_changes_21 : decode cX9_changes 21 = .ok (.iconst (-1), 1) := by decide +kernel
theorem dX9_changes_22 : decode cX9_changes 22 = .ok (.ireturn, 1) := by decide +kernel
theorem dX9_changes_23 : decode cX9_changes 23 = .ok (.iload_n 2, 1) := by decide +kernel
theorem dX9_changes_24 : decode cX9_changes 24 = .ok (.iconst (-1), 1) := by decide +kernel
theorem dX9_changes_25 : decode cX9_changes 25 = .ok (.if_icmp .ne 9, 3) := by decide +kernel
theorem dX9_changes_28 : decode cX9_changes 28 = .ok (.aload_n 0, 1) := by decide +kernel
theorem dX9_changes_29 : decode cX9_changes 29 = .ok (.iload_n 1, 1) := by decide +kernel
theorem dX9_changes_30 : decode cX9_changes 30 = .ok (.invokevirtual 157, 3) := by decide +kernel
theorem dX9_changes_33 : decode cX9_changes 33 = .ok (.ireturn, 1) := by decide +kernel
theorem dX9_changes_34 : decode cX9_changes 34 = .ok (.aload_n 0, 1) := by decide +kernel
theorem dX9_changes_35 : decode cX9_changes 35 = .ok (.iload_n 1, 1) := by decide +kernel
theorem dX9_changes_36 : decode cX9_changes 36 = .ok (.invokevirtual 144, 3) := by decide +kernel
theorem dX9_changes_39 : decode cX9_changes 39 = .ok (.aload_n 0, 1) := by decide +kernel
theorem dX9_changes_40 : decode cX9_changes 40 = .ok (.iload_n 2, 1) := by decide +kernel
theorem dX9_changes_41 : decode cX9_changes 41 = .ok (.invokevirtual 147, 3) := by decide +kernel
theorem dX9_changes_44 : decode cX9_changes 44 = .ok (.ireturn, 1) := by decide +kernel
theorem dX9_directedOf_0 : decode cX9_directedOf 0 = .ok (.aload_n 0, 1) := by decide +kernel
theorem dX9_directedOf_1 : decode cX9_directedOf 1 = .ok (.iload_n 1, 1) := by decide +kernel
theorem dX9_directedOf_2 : decode cX9_directedOf 2 = .ok (.invokevirtual 144, 3) := by decide +kernel
theorem dX9_directedOf_5 : decode cX9_directedOf 5 = .ok (.aload_n 0, 1) := by decide +kernel
theorem dX9_directedOf_6 : decode cX9_directedOf 6 = .ok (.getfield 35, 3) := by decide +kernel
theorem dX9_directedOf_9 : decode cX9_directedOf 9 = .ok (.iload_n 2, 1) := by decide +kernel
theorem dX9_directedOf_10 : decode cX9_directedOf 10 = .ok (.iaload, 1) := by decide +kernel
theorem dX9_directedOf_11 : decode cX9_directedOf 11 = .ok (.istore_n 3, 1) := by decide +kernel
theorem dX9_directedOf_12 : decode cX9_directedOf 12 = .ok (.aload_n 0, 1) := by decide +kernel
theorem dX9_directedOf_13 : decode cX9_directedOf 13 = .ok (.getfield 35, 3) := by decide +kernel
theorem dX9_directedOf_16 : decode cX9_directedOf 16 = .ok (.iload_n 2, 1) := by decide +kernel
theorem dX9_directedOf_17 : decode cX9_directedOf 17 = .ok (.aload_n 0, 1) := by decide +kernel
theorem dX9_directedOf_18 : decode cX9_directedOf 18 = .ok (.getfield 112, 3) := by decide +kernel
theorem dX9_directedOf_21 : decode cX9_directedOf 21 = .ok (.iastore, 1) := by decide +kernel
theorem dX9_directedOf_22 : decode cX9_directedOf 22 = .ok (.aload_n 0, 1) := by decide +kernel
theorem dX9_directedOf_23 : decode cX9_directedOf 23 = .ok (.aload_n 0, 1) := by decide +kernel
theorem dX9_directedOf_24 : decode cX9_directedOf 24 = .ok (.getfield 112, 3) := by decide +kernel
theorem dX9_directedOf_27 : decode cX9_directedOf 27 = .ok (.iload_n 3, 1) := by decide +kernel
theorem dX9_directedOf_28 : decode cX9_directedOf 28 = .ok (.invokevirtual 115, 3) := by decide +kernel
theorem dX9_directedOf_31 : decode cX9_directedOf 31 = .ok (.aload_n 0, 1) := by decide +kernel
theorem dX9_directedOf_32 : decode cX9_directedOf 32 = .ok (.dup, 1) := by decide +kernel
theorem dX9_directedOf_33 : decode cX9_directedOf 33 = .ok (.getfield 112, 3) := by decide +kernel
theorem dX9_directedOf_36 : decode cX9_directedOf 36 = .ok (.iconst 1, 1) := by decide +kernel
theorem dX9_directedOf_37 : decode cX9_directedOf 37 = .ok (.iadd, 1) := by decide +kernel
theorem dX9_directedOf_38 : decode cX9_directedOf 38 = .ok (.putfield 112, 3) := by decide +kernel
theorem dX9_directedOf_41 : decode cX9_directedOf 41 = .ok (.iconst 0, 1) := by decide +kernel
theorem dX9_directedOf_42 : decode cX9_directedOf 42 = .ok (.istore 4, 2) := by decide +kernel
theorem dX9_directedOf_44 : decode cX9_directedOf 44 = .ok (.iconst 0, 1) := by decide +kernel
theorem dX9_directedOf_45 : decode cX9_directedOf 45 = .ok (.istore 5, 2) := by decide +kernel
theorem dX9_directedOf_47 : decode cX9_directedOf 47 = .ok (.iload 5, 2) := by decide +kernel
theorem dX9_directedOf_49 : decode cX9_directedOf 49 = .ok (.aload_n 0, 1) := by decide +kernel
theorem dX9_directedOf_50 : decode cX9_directedOf 50 = .ok (.getfield 89, 3) := by decide +kernel
theorem dX9_directedOf_53 : decode cX9_directedOf 53 = .ok (.if_icmp .ge 27, 3) := by decide +kernel
theorem dX9_directedOf_56 : decode cX9_directedOf 56 = .ok (.iload 4, 2) := by decide +kernel
theorem dX9_directedOf_58 : decode cX9_directedOf 58 = .ok (.aload_n 0, 1) := by decide +kernel
theorem dX9_directedOf_59 : decode cX9_directedOf 59 = .ok (.aload_n 0, 1) := by decide +kernel
theorem dX9_directedOf_60 : decode cX9_directedOf 60 = .ok (.getfield 112, 3) := by decide +kernel
theorem dX9_directedOf_63 : decode cX9_directedOf 63 = .ok (.iconst 1, 1) := by decide +kernel
theorem dX9_directedOf_64 : decode cX9_directedOf 64 = .ok (.isub, 1) := by decide +kernel
theorem dX9_directedOf_65 : decode cX9_directedOf 65 = .ok (.iload 5, 2) := by decide +kernel
theorem dX9_directedOf_67 : decode cX9_directedOf 67 = .ok (.iconst 1, 1) := by decide +kernel
theorem dX9_directedOf_68 : decode cX9_directedOf 68 = .ok (.invokevirtual 141, 3) := by decide +kernel
theorem dX9_directedOf_71 : decode cX9_directedOf 71 = .ok (.iadd, 1) := by decide +kernel
theorem dX9_directedOf_72 : decode cX9_directedOf 72 = .ok (.istore 4, 2) := by decide +kernel
theorem dX9_directedOf_74 : decode cX9_directedOf 74 = .ok (.iinc 5 1, 3) := by decide +kernel
theorem dX9_directedOf_77 : decode cX9_directedOf 77 = .ok (.goto (-30), 3) := by decide +kernel
theorem dX9_directedOf_80 : decode cX9_directedOf 80 = .ok (.iload 4, 2) := by decide +kernel
theorem dX9_directedOf_82 : decode cX9_directedOf 82 = .ok (.ireturn, 1) := by decide +kernel
theorem dX9_edges_0 : decode cX9_edges 0 = .ok (.aload_n 0, 1) := by decide +kernel
theorem dX9_edges_1 : decode cX9_edges 1 = .ok (.getfield 86, 3) := by decide +kernel
theorem dX9_edges_4 : decode cX9_edges 4 = .ok (.iconst 2, 1) := by decide +kernel
theorem dX9_edges_5 : decode cX9_edges 5 = .ok (.if_icmp .ge 7, 3) := by decide +kernel
theorem dX9_edges_8 : decode cX9_edges 8 = .ok (.iconst 0, 1) := by decide +kernel
theorem dX9_edges_9 : decode cX9_edges 9 = .ok (.goto 23, 3) := by decide +kernel
theorem dX9_edges_12 : decode cX9_edges 12 = .ok (.aload_n 0, 1) := by decide +kernel
theorem dX9_edges_13 : decode cX9_edges 13 = .ok (.getfield 86, 3) := by decide +kernel
theorem dX9_edges_16 : decode cX9_edges 16 = .ok (.iconst 2, 1) := by decide +kernel
theorem dX9_edges_17 : decode cX9_edges 17 = .ok (.if_icmp .ne 7, 3) := by decide +kernel
theorem dX9_edges_20 : decode cX9_edges 20 = .ok (.iconst 1, 1) := by decide +kernel
theorem dX9_edges_21 : decode cX9_edges 21 = .ok (.goto 11, 3) := by decide +kernel
theorem dX9_edges_24 : decode cX9_edges 24 = .ok (.iconst 2, 1) := by decide +kernel
theorem dX9_edges_25 : decode cX9_edges 25 = .ok (.aload_n 0, 1) := by decide +kernel
theorem dX9_edges_26 : decode cX9_edges 26 = .ok (.getfield 86, 3) := by decide +kernel
theorem dX9_edges_29 : decode cX9_edges 29 = .ok (.imul, 1) := by decide +kernel
theorem dX9_edges_30 : decode cX9_edges 30 = .ok (.iconst 3, 1) := by decide +kernel
theorem dX9_edges_31 : decode cX9_edges 31 = .ok (.isub, 1) := by decide +kernel
theorem dX9_edges_32 : decode cX9_edges 32 = .ok (.ireturn, 1) := by decide +kernel
theorem dX9_directed_0 : decode cX9_directed 0 = .ok (.aload_n 0, 1) := by decide +kernel
theorem dX9_directed_1 : decode cX9_directed 1 = .ok (.iload_n 1, 1) := by decide +kernel
theorem dX9_directed_2 : decode cX9_directed 2 = .ok (.invokevirtual 154, 3) := by decide +kernel
theorem dX9_directed_5 : decode cX9_directed 5 = .ok (.ifCond .eq 26, 3) := by decide +kernel
theorem dX9_directed_8 : decode cX9_directed 8 = .ok (.iload_n 2, 1) := by decide +kernel
theorem dX9_directed_9 : decode cX9_directed 9 = .ok (.iconst 0, 1) := by decide +kernel
theorem dX9_directed_10 : decode cX9_directed 10 = .ok (.aload_n 0, 1) := by decide +kernel
theorem dX9_directed_11 : decode cX9_directed 11 = .ok (.invokevirtual 160, 3) := by decide +kernel
theorem dX9_directed_14 : decode cX9_directed 14 = .ok (.iconst 1, 1) := by decide +kernel
theorem dX9_directed_15 : decode cX9_directed 15 = .ok (.isub, 1) := by decide +kernel
theorem dX9_directed_16 : decode cX9_directed 16 = .ok (.invokestatic 50, 3) := by decide +kernel
theorem dX9_directed_19 : decode cX9_directed 19 = .ok (.ifCond .eq 12, 3) := by decide +kernel
theorem dX9_directed_22 : decode cX9_directed 22 = .ok (.aload_n 0, 1) := by decide +kernel
theorem dX9_directed_23 : decode cX9_directed 23 = .ok (.iload_n 1, 1) := by decide +kernel
theorem dX9_directed_24 : decode cX9_directed 24 = .ok (.iload_n 2, 1) := by decide +kernel
theorem dX9_directed_25 : decode cX9_directed 25 = .ok (.invokevirtual 163, 3) := by decide +kernel
theorem dX9_directed_28 : decode cX9_directed 28 = .ok (.goto 4, 3) := by decide +kernel
theorem dX9_directed_31 : decode cX9_directed 31 = .ok (.iconst (-1), 1) := by decide +kernel
theorem dX9_directed_32 : decode cX9_directed 32 = .ok (.ireturn, 1) := by decide +kernel
theorem dX9_root_0 : decode cX9_root 0 = .ok (.aload_n 0, 1) := by decide +kernel
theorem dX9_root_1 : decode cX9_root 1 = .ok (.iload_n 1, 1) := by decide +kernel
theorem dX9_root_2 : decode cX9_root 2 = .ok (.invokevirtual 154, 3) := by decide +kernel
theorem dX9_root_5 : decode cX9_root 5 = .ok (.ifCond .ne 5, 3) := by decide +kernel
theorem dX9_root_8 : decode cX9_root 8 = .ok (.iconst (-1), 1) := by decide +kernel
theorem dX9_root_9 : decode cX9_root 9 = .ok (.ireturn, 1) := by decide +kernel
theorem dX9_root_10 : decode cX9_root 10 = .ok (.bipush (-9), 2) := by decide +kernel
theorem dX9_root_12 : decode cX9_root 12 = .ok (.istore_n 2, 1) := by decide +kernel
theorem dX9_root_13 : decode cX9_root 13 = .ok (.sipush 9999, 3) := by decide +kernel
theorem dX9_root_16 : decode cX9_root 16 = .ok (.istore_n 3, 1) := by decide +kernel
theorem dX9_root_17 : decode cX9_root 17 = .ok (.iconst 0, 1) := by decide +kernel
theorem dX9_root_18 : decode cX9_root 18 = .ok (.istore 4, 2) := by decide +kernel
theorem dX9_root_20 : decode cX9_root 20 = .ok (.iload 4, 2) := by decide +kernel
theorem dX9_root_22 : decode cX9_root 22 = .ok (.aload_n 0, 1) := by decide +kernel
theorem dX9_root_23 : decode cX9_root 23 = .ok (.invokevirtual 160, 3) := by decide +kernel
theorem dX9_root_26 : decode cX9_root 26 = .ok (.if_icmp .ge 44, 3) := by decide +kernel
theorem dX9_root_29 : decode cX9_root 29 = .ok (.aload_n 0, 1) := by decide +kernel
theorem dX9_root_30 : decode cX9_root 30 = .ok (.iload_n 1, 1) := by decide +kernel
theorem dX9_root_31 : decode cX9_root 31 = .ok (.iload 4, 2) := by decide +kernel
theorem dX9_root_33 : decode cX9_root 33 = .ok (.invokevirtual 163, 3) := by decide +kernel
theorem dX9_root_36 : decode cX9_root 36 = .ok (.istore 5, 2) := by decide +kernel
theorem dX9_root_38 : decode cX9_root 38 = .ok (.iload 5, 2) := by decide +kernel
theorem dX9_root_40 : decode cX9_root 40 = .ok (.iload_n 3, 1) := by decide +kernel
theorem dX9_root_41 : decode cX9_root 41 = .ok (.if_icmp .ge 8, 3) := by decide +kernel
theorem dX9_root_44 : decode cX9_root 44 = .ok (.iload 4, 2) := by decide +kernel
theorem dX9_root_46 : decode cX9_root 46 = .ok (.goto 4, 3) := by decide +kernel
theorem dX9_root_49 : decode cX9_root 49 = .ok (.iload_n 2, 1) := by decide +kernel
theorem dX9_root_50 : decode cX9_root 50 = .ok (.istore_n 2, 1) := by decide +kernel
theorem dX9_root_51 : decode cX9_root 51 = .ok (.iload 5, 2) := by decide +kernel
theorem dX9_root_53 : decode cX9_root 53 = .ok (.iload_n 3, 1) := by decide +kernel
theorem dX9_root_54 : decode cX9_root 54 = .ok (.if_icmp .ge 8, 3) := by decide +kernel
theorem dX9_root_57 : decode cX9_root 57 = .ok (.iload 5, 2) := by decide +kernel
theorem dX9_root_59 : decode cX9_root 59 = .ok (.goto 4, 3) := by decide +kernel
theorem dX9_root_62 : decode cX9_root 62 = .ok (.iload_n 3, 1) := by decide +kernel
theorem dX9_root_63 : decode cX9_root 63 = .ok (.istore_n 3, 1) := by decide +kernel
theorem dX9_root_64 : decode cX9_root 64 = .ok (.iinc 4 1, 3) := by decide +kernel
theorem dX9_root_67 : decode cX9_root 67 = .ok (.goto (-47), 3) := by decide +kernel
theorem dX9_root_70 : decode cX9_root 70 = .ok (.iload_n 2, 1) := by decide +kernel
theorem dX9_root_71 : decode cX9_root 71 = .ok (.ireturn, 1) := by decide +kernel
theorem dX9_fewest_0 : decode cX9_fewest 0 = .ok (.sipush 9999, 3) := by decide +kernel
theorem dX9_fewest_3 : decode cX9_fewest 3 = .ok (.istore_n 1, 1) := by decide +kernel
theorem dX9_fewest_4 : decode cX9_fewest 4 = .ok (.iconst 0, 1) := by decide +kernel
theorem dX9_fewest_5 : decode cX9_fewest 5 = .ok (.istore_n 2, 1) := by decide +kernel
theorem dX9_fewest_6 : decode cX9_fewest 6 = .ok (.iload_n 2, 1) := by decide +kernel
theorem dX9_fewest_7 : decode cX9_fewest 7 = .ok (.aload_n 0, 1) := by decide +kernel
theorem dX9_fewest_8 : decode cX9_fewest 8 = .ok (.invokevirtual 150, 3) := by decide +kernel
theorem dX9_fewest_11 : decode cX9_fewest 11 = .ok (.if_icmp .ge 41, 3) := by decide +kernel
theorem dX9_fewest_14 : decode cX9_fewest 14 = .ok (.aload_n 0, 1) := by decide +kernel
theorem dX9_fewest_15 : decode cX9_fewest 15 = .ok (.getfield 44, 3) := by decide +kernel
theorem dX9_fewest_18 : decode cX9_fewest 18 = .ok (.iload_n 2, 1) := by decide +kernel
theorem dX9_fewest_19 : decode cX9_fewest 19 = .ok (.aload_n 0, 1) := by decide +kernel
theorem dX9_fewest_20 : decode cX9_fewest 20 = .ok (.iload_n 2, 1) := by decide +kernel
theorem dX9_fewest_21 : decode cX9_fewest 21 = .ok (.invokevirtual 157, 3) := by decide +kernel
theorem dX9_fewest_24 : decode cX9_fewest 24 = .ok (.iastore, 1) := by decide +kernel
theorem dX9_fewest_25 : decode cX9_fewest 25 = .ok (.aload_n 0, 1) := by decide +kernel
theorem dX9_fewest_26 : decode cX9_fewest 26 = .ok (.getfield 44, 3) := by decide +kernel
theorem dX9_fewest_29 : decode cX9_fewest 29 = .ok (.iload_n 2, 1) := by decide +kernel
theorem dX9_fewest_30 : decode cX9_fewest 30 = .ok (.iaload, 1) := by decide +kernel
theorem dX9_fewest_31 : decode cX9_fewest 31 = .ok (.iload_n 1, 1) := by decide +kernel
theorem dX9_fewest_32 : decode cX9_fewest 32 = .ok (.if_icmp .ge 12, 3) := by decide +kernel
theorem dX9_fewest_35 : decode cX9_fewest 35 = .ok (.aload_n 0, 1) := by decide +kernel
theorem dX9_fewest_36 : decode cX9_fewest 36 = .ok (.getfield 44, 3) := by decide +kernel
theorem dX9_fewest_39 : decode cX9_fewest 39 = .ok (.iload_n 2, 1) := by decide +kernel
theorem dX9_fewest_40 : decode cX9_fewest 40 = .ok (.iaload, 1) := by decide +kernel
theorem dX9_fewest_41 : decode cX9_fewest 41 = .ok (.goto 4, 3) := by decide +kernel
theorem dX9_fewest_44 : decode cX9_fewest 44 = .ok (.iload_n 1, 1) := by decide +kernel
theorem dX9_fewest_45 : decode cX9_fewest 45 = .ok (.istore_n 1, 1) := by decide +kernel
theorem dX9_fewest_46 : decode cX9_fewest 46 = .ok (.iinc 2 1, 3) := by decide +kernel
theorem dX9_fewest_49 : decode cX9_fewest 49 = .ok (.goto (-43), 3) := by decide +kernel
theorem dX9_fewest_52 : decode cX9_fewest 52 = .ok (.iload_n 1, 1) := by decide +kernel
theorem dX9_fewest_53 : decode cX9_fewest 53 = .ok (.ireturn, 1) := by decide +kernel
theorem dX9_rank_0 : decode cX9_rank 0 = .ok (.iload_n 1, 1) := by decide +kernel
theorem dX9_rank_1 : decode cX9_rank 1 = .ok (.ifCond .ge 5, 3) := by decide +kernel
theorem dX9_rank_4 : decode cX9_rank 4 = .ok (.iconst (-1), 1) := by decide +kernel
theorem dX9_rank_5 : decode cX9_rank 5 = .ok (.ireturn, 1) := by decide +kernel
theorem dX9_rank_6 : decode cX9_rank 6 = .ok (.aload_n 0, 1) := by decide +kernel
theorem dX9_rank_7 : decode cX9_rank 7 = .ok (.invokevirtual 166, 3) := by decide +kernel
theorem dX9_rank_10 : decode cX9_rank 10 = .ok (.pop, 1) := by decide +kernel
theorem dX9_rank_11 : decode cX9_rank 11 = .ok (.iconst 0, 1) := by decide +kernel
theorem dX9_rank_12 : decode cX9_rank 12 = .ok (.istore_n 2, 1) := by decide +kernel
theorem dX9_rank_13 : decode cX9_rank 13 = .ok (.iload_n 2, 1) := by decide +kernel
theorem dX9_rank_14 : decode cX9_rank 14 = .ok (.aload_n 0, 1) := by decide +kernel
theorem dX9_rank_15 : decode cX9_rank 15 = .ok (.invokevirtual 150, 3) := by decide +kernel
theorem dX9_rank_18 : decode cX9_rank 18 = .ok (.if_icmp .ge 82, 3) := by decide +kernel
theorem dX9_rank_21 : decode cX9_rank 21 = .ok (.iconst 0, 1) := by decide +kernel
theorem dX9_rank_22 : decode cX9_rank 22 = .ok (.istore_n 3, 1) := by decide +kernel
theorem dX9_rank_23 : decode cX9_rank 23 = .ok (.iconst 0, 1) := by decide +kernel
theorem dX9_rank_24 : decode cX9_rank 24 = .ok (.istore 4, 2) := by decide +kernel
theorem dX9_rank_26 : decode cX9_rank 26 = .ok (.iload 4, 2) := by decide +kernel
theorem dX9_rank_28 : decode cX9_rank 28 = .ok (.aload_n 0, 1) := by decide +kernel
theorem dX9_rank_29 : decode cX9_rank 29 = .ok (.invokevirtual 150, 3) := by decide +kernel
theorem dX9_rank_32 : decode cX9_rank 32 = .ok (.if_icmp .ge 55, 3) := by decide +kernel
theorem dX9_rank_35 : decode cX9_rank 35 = .ok (.iload_n 3, 1) := by decide +kernel
theorem dX9_rank_36 : decode cX9_rank 36 = .ok (.aload_n 0, 1) := by decide +kernel
theorem dX9_rank_37 : decode cX9_rank 37 = .ok (.getfield 44, 3) := by decide +kernel
theorem dX9_rank_40 : decode cX9_rank 40 = .ok (.iload 4, 2) := by decide +kernel
theorem dX9_rank_42 : decode cX9_rank 42 = .ok (.iaload, 1) := by decide +kernel
theorem dX9_rank_43 : decode cX9_rank 43 = .ok (.aload_n 0, 1) := by decide +kernel
theorem dX9_rank_44 : decode cX9_rank 44 = .ok (.getfield 44, 3) := by decide +kernel
theorem dX9_rank_47 : decode cX9_rank 47 = .ok (.iload_n 2, 1) := by decide +kernel
theorem dX9_rank_48 : decode cX9_rank 48 = .ok (.iaload, 1) := by decide +kernel
theorem dX9_rank_49 : decode cX9_rank 49 = .ok (.if_icmp .lt 25, 3) := by decide +kernel
theorem dX9_rank_52 : decode cX9_rank 52 = .ok (.aload_n 0, 1) := by decide +kernel
theorem dX9_rank_53 : decode cX9_rank 53 = .ok (.getfield 44, 3) := by decide +kernel
theorem dX9_rank_56 : decode cX9_rank 56 = .ok (.iload 4, 2) := by decide +kernel
theorem dX9_rank_58 : decode cX9_rank 58 = .ok (.iaload, 1) := by decide +kernel
theorem dX9_rank_59 : decode cX9_rank 59 = .ok (.aload_n 0, 1) := by decide +kernel
theorem dX9_rank_60 : decode cX9_rank 60 = .ok (.getfield 44, 3) := by decide +kernel
theorem dX9_rank_63 : decode cX9_rank 63 = .ok (.iload_n 2, 1) := by decide +kernel
theorem dX9_rank_64 : decode cX9_rank 64 = .ok (.iaload, 1) := by decide +kernel
theorem dX9_rank_65 : decode cX9_rank 65 = .ok (.if_icmp .ne 13, 3) := by decide +kernel
theorem dX9_rank_68 : decode cX9_rank 68 = .ok (.iload 4, 2) := by decide +kernel
theorem dX9_rank_70 : decode cX9_rank 70 = .ok (.iload_n 2, 1) := by decide +kernel
theorem dX9_rank_71 : decode cX9_rank 71 = .ok (.if_icmp .ge 7, 3) := by decide +kernel
theorem dX9_rank_74 : decode cX9_rank 74 = .ok (.iconst 1, 1) := by decide +kernel
theorem dX9_rank_75 : decode cX9_rank 75 = .ok (.goto 4, 3) := by decide +kernel
theorem dX9_rank_78 : decode cX9_rank 78 = .ok (.iconst 0, 1) := by decide +kernel
theorem dX9_rank_79 : decode cX9_rank 79 = .ok (.iadd, 1) := by decide +kernel
theorem dX9_rank_80 : decode cX9_rank 80 = .ok (.istore_n 3, 1) := by decide +kernel
theorem dX9_rank_81 : decode cX9_rank 81 = .ok (.iinc 4 1, 3) := by decide +kernel
theorem dX9_rank_84 : decode cX9_rank 84 = .ok (.goto (-58), 3) := by decide +kernel
theorem dX9_rank_87 : decode cX9_rank 87 = .ok (.iload_n 3, 1) := by decide +kernel
theorem dX9_rank_88 : decode cX9_rank 88 = .ok (.iload_n 1, 1) := by decide +kernel
theorem dX9_rank_89 : decode cX9_rank 89 = .ok (.if_icmp .ne 5, 3) := by decide +kernel
theorem dX9_rank_92 : decode cX9_rank 92 = .ok (.iload_n 2, 1) := by decide +kernel
theorem dX9_rank_93 : decode cX9_rank 93 = .ok (.ireturn, 1) := by decide +kernel
theorem dX9_rank_94 : decode cX9_rank 94 = .ok (.iinc 2 1, 3) := by decide +kernel
theorem dX9_rank_97 : decode cX9_rank 97 = .ok (.goto (-84), 3) := by decide +kernel
theorem dX9_rank_100 : decode cX9_rank 100 = .ok (.bipush (-9), 2) := by decide +kernel
theorem dX9_rank_102 : decode cX9_rank 102 = .ok (.ireturn, 1) := by decide +kernel
theorem dX9_bound_0 : decode cX9_bound 0 = .ok (.iconst 0, 1) := by decide +kernel
theorem dX9_bound_1 : decode cX9_bound 1 = .ok (.istore_n 1, 1) := by decide +kernel
theorem dX9_bound_2 : decode cX9_bound 2 = .ok (.iconst 0, 1) := by decide +kernel
theorem dX9_bound_3 : decode cX9_bound 3 = .ok (.istore_n 2, 1) := by decide +kernel
theorem dX9_bound_4 : decode cX9_bound 4 = .ok (.iload_n 2, 1) := by decide +kernel
theorem dX9_bound_5 : decode cX9_bound 5 = .ok (.aload_n 0, 1) := by decide +kernel
theorem dX9_bound_6 : decode cX9_bound 6 = .ok (.getfield 89, 3) := by decide +kernel
theorem dX9_bound_9 : decode cX9_bound 9 = .ok (.if_icmp .ge 95, 3) := by decide +kernel
theorem dX9_bound_12 : decode cX9_bound 12 = .ok (.iconst 0, 1) := by decide +kernel
theorem dX9_bound_13 : decode cX9_bound 13 = .ok (.istore_n 3, 1) := by decide +kernel
theorem dX9_bound_14 : decode cX9_bound 14 = .ok (.iconst 0, 1) := by decide +kernel
theorem dX9_bound_15 : decode cX9_bound 15 = .ok (.istore 4, 2) := by decide +kernel
theorem dX9_bound_17 : decode cX9_bound 17 = .ok (.iload 4, 2) := by decide +kernel
theorem dX9_bound_19 : decode cX9_bound 19 = .ok (.aload_n 0, 1) := by decide +kernel
theorem dX9_bound_20 : decode cX9_bound 20 = .ok (.getfield 86, 3) := by decide +kernel
theorem dX9_bound_23 : decode cX9_bound 23 = .ok (.if_icmp .ge 21, 3) := by decide +kernel
theorem dX9_bound_26 : decode cX9_bound 26 = .ok (.iload_n 3, 1) := by decide +kernel
theorem dX9_bound_27 : decode cX9_bound 27 = .ok (.iconst 1, 1) := by decide +kernel
theorem dX9_bound_28 : decode cX9_bound 28 = .ok (.aload_n 0, 1) := by decide +kernel
theorem dX9_bound_29 : decode cX9_bound 29 = .ok (.iload 4, 2) := by decide +kernel
theorem dX9_bound_31 : decode cX9_bound 31 = .ok (.iload_n 2, 1) := by decide +kernel
theorem dX9_bound_32 : decode cX9_bound 32 = .ok (.invokevirtual 105, 3) := by decide +kernel
theorem dX9_bound_35 : decode cX9_bound 35 = .ok (.ishl, 1) := by decide +kernel
theorem dX9_bound_36 : decode cX9_bound 36 = .ok (.ior, 1) := by decide +kernel
theorem dX9_bound_37 : decode cX9_bound 37 = .ok (.istore_n 3, 1) := by decide +kernel
theorem dX9_bound_38 : decode cX9_bound 38 = .ok (.iinc 4 1, 3) := by decide +kernel
theorem dX9_bound_41 : decode cX9_bound 41 = .ok (.goto (-24), 3) := by decide +kernel
theorem dX9_bound_44 : decode cX9_bound 44 = .ok (.iconst 0, 1) := by decide +kernel
theorem dX9_bound_45 : decode cX9_bound 45 = .ok (.istore 4, 2) := by decide +kernel
theorem dX9_bound_47 : decode cX9_bound 47 = .ok (.iconst 0, 1) := by decide +kernel
theorem dX9_bound_48 : decode cX9_bound 48 = .ok (.istore 5, 2) := by decide +kernel
theorem dX9_bound_50 : decode cX9_bound 50 = .ok (.iload 5, 2) := by decide +kernel
theorem dX9_bound_52 : decode cX9_bound 52 = .ok (.iconst 4, 1) := by decide +kernel
theorem dX9_bound_53 : decode cX9_bound 53 = .ok (.if_icmp .ge 28, 3) := by decide +kernel
theorem dX9_bound_56 : decode cX9_bound 56 = .ok (.iload 4, 2) := by decide +kernel
theorem dX9_bound_58 : decode cX9_bound 58 = .ok (.iload_n 3, 1) := by decide +kernel
theorem dX9_bound_59 : decode cX9_bound 59 = .ok (.iload 5, 2) := by decide +kernel
theorem dX9_bound_61 : decode cX9_bound 61 = .ok (.invokestatic 169, 3) := by decide +kernel
theorem dX9_bound_64 : decode cX9_bound 64 = .ok (.ifCond .eq 7, 3) := by decide +kernel
theorem dX9_bound_67 : decode cX9_bound 67 = .ok (.iconst 1, 1) := by decide +kernel
theorem dX9_bound_68 : decode cX9_bound 68 = .ok (.goto 4, 3) := by decide +kernel
theorem dX9_bound_71 : decode cX9_bound 71 = .ok (.iconst 0, 1) := by decide +kernel
theorem dX9_bound_72 : decode cX9_bound 72 = .ok (.iadd, 1) := by decide +kernel
theorem dX9_bound_73 : decode cX9_bound 73 = .ok (.istore 4, 2) := by decide +kernel
theorem dX9_bound_75 : decode cX9_bound 75 = .ok (.iinc 5 1, 3) := by decide +kernel
theorem dX9_bound_78 : decode cX9_bound 78 = .ok (.goto (-28), 3) := by decide +kernel
theorem dX9_bound_81 : decode cX9_bound 81 = .ok (.iload_n 1, 1) := by decide +kernel
theorem dX9_bound_82 : decode cX9_bound 82 = .ok (.iload 4, 2) := by decide +kernel
theorem dX9_bound_84 : decode cX9_bound 84 = .ok (.iconst 1, 1) := by decide +kernel
theorem dX9_bound_85 : decode cX9_bound 85 = .ok (.if_icmp .le 10, 3) := by decide +kernel
theorem dX9_bound_88 : decode cX9_bound 88 = .ok (.iload 4, 2) := by decide +kernel
theorem dX9_bound_90 : decode cX9_bound 90 = .ok (.iconst 1, 1) := by decide +kernel
theorem dX9_bound_91 : decode cX9_bound 91 = .ok (.isub, 1) := by decide +kernel
theorem dX9_bound_92 : decode cX9_bound 92 = .ok (.goto 4, 3) := by decide +kernel
theorem dX9_bound_95 : decode cX9_bound 95 = .ok (.iconst 0, 1) := by decide +kernel
theorem dX9_bound_96 : decode cX9_bound 96 = .ok (.iadd, 1) := by decide +kernel
theorem dX9_bound_97 : decode cX9_bound 97 = .ok (.istore_n 1, 1) := by decide +kernel
theorem dX9_bound_98 : decode cX9_bound 98 = .ok (.iinc 2 1, 3) := by decide +kernel
theorem dX9_bound_101 : decode cX9_bound 101 = .ok (.goto (-97), 3) := by decide +kernel
theorem dX9_bound_104 : decode cX9_bound 104 = .ok (.iload_n 1, 1) := by decide +kernel
theorem dX9_bound_105 : decode cX9_bound 105 = .ok (.ireturn, 1) := by decide +kernel
theorem dX9_best_0 : decode cX9_best 0 = .ok (.iload_n 1, 1) := by decide +kernel
theorem dX9_best_1 : decode cX9_best 1 = .ok (.iconst 0, 1) := by decide +kernel
theorem dX9_best_2 : decode cX9_best 2 = .ok (.iconst 3, 1) := by decide +kernel
theorem dX9_best_3 : decode cX9_best 3 = .ok (.invokestatic 50, 3) := by decide +kernel
theorem dX9_best_6 : decode cX9_best 6 = .ok (.ifCond .ne 5, 3) := by decide +kernel
theorem dX9_best_9 : decode cX9_best 9 = .ok (.iconst (-1), 1) := by decide +kernel
theorem dX9_best_10 : decode cX9_best 10 = .ok (.ireturn, 1) := by decide +kernel
theorem dX9_best_11 : decode cX9_best 11 = .ok (.aload_n 0, 1) := by decide +kernel
theorem dX9_best_12 : decode cX9_best 12 = .ok (.invokevirtual 166, 3) := by decide +kernel
theorem dX9_best_15 : decode cX9_best 15 = .ok (.istore_n 2, 1) := by decide +kernel
theorem dX9_best_16 : decode cX9_best 16 = .ok (.iconst 0, 1) := by decide +kernel
theorem dX9_best_17 : decode cX9_best 17 = .ok (.istore_n 3, 1) := by decide +kernel
theorem dX9_best_18 : decode cX9_best 18 = .ok (.iconst 0, 1) := by decide +kernel
theorem dX9_best_19 : decode cX9_best 19 = .ok (.istore 4, 2) := by decide +kernel
theorem dX9_best_21 : decode cX9_best 21 = .ok (.iload 4, 2) := by decide +kernel
theorem dX9_best_23 : decode cX9_best 23 = .ok (.aload_n 0, 1) := by decide +kernel
theorem dX9_best_24 : decode cX9_best 24 = .ok (.invokevirtual 150, 3) := by decide +kernel
theorem dX9_best_27 : decode cX9_best 27 = .ok (.if_icmp .ge 28, 3) := by decide +kernel
theorem dX9_best_30 : decode cX9_best 30 = .ok (.iload_n 3, 1) := by decide +kernel
theorem dX9_best_31 : decode cX9_best 31 = .ok (.aload_n 0, 1) := by decide +kernel
theorem dX9_best_32 : decode cX9_best 32 = .ok (.getfield 44, 3) := by decide +kernel
theorem dX9_best_35 : decode cX9_best 35 = .ok (.iload 4, 2) := by decide +kernel
theorem dX9_best_37 : decode cX9_best 37 = .ok (.iaload, 1) := by decide +kernel
theorem dX9_best_38 : decode cX9_best 38 = .ok (.iload_n 2, 1) := by decide +kernel
theorem dX9_best_39 : decode cX9_best 39 = .ok (.if_icmp .ne 7, 3) := by decide +kernel
theorem dX9_best_42 : decode cX9_best 42 = .ok (.iconst 1, 1) := by decide +kernel
