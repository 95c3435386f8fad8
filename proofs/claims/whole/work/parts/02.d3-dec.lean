theorem dX10_isBoxed_19 : decode cX10_isBoxed 19 = .ok (.iconst 0, 1) := by decide +kernel
theorem dX10_isBoxed_20 : decode cX10_isBoxed 20 = .ok (.istore 5, 2) := by decide +kernel
theorem dX10_isBoxed_22 : decode cX10_isBoxed 22 = .ok (.iload 5, 2) := by decide +kernel
theorem dX10_isBoxed_24 : decode cX10_isBoxed 24 = .ok (.sipush 192, 3) := by decide +kernel
theorem dX10_isBoxed_27 : decode cX10_isBoxed 27 = .ok (.if_icmp .ge 65, 3) := by decide +kernel
theorem dX10_isBoxed_30 : decode cX10_isBoxed 30 = .ok (.aload_n 0, 1) := by decide +kernel
theorem dX10_isBoxed_31 : decode cX10_isBoxed 31 = .ok (.getfield 22, 3) := by decide +kernel
theorem dX10_isBoxed_34 : decode cX10_isBoxed 34 = .ok (.iload 5, 2) := by decide +kernel
theorem dX10_isBoxed_36 : decode cX10_isBoxed 36 = .ok (.iload 5, 2) := by decide +kernel
theorem dX10_isBoxed_38 : decode cX10_isBoxed 38 = .ok (.bipush 16, 2) := by decide +kernel
theorem dX10_isBoxed_40 : decode cX10_isBoxed 40 = .ok (.irem, 1) := by decide +kernel
theorem dX10_isBoxed_41 : decode cX10_isBoxed 41 = .ok (.iload_n 1, 1) := by decide +kernel
theorem dX10_isBoxed_42 : decode cX10_isBoxed 42 = .ok (.iload_n 3, 1) := by decide +kernel
theorem dX10_isBoxed_43 : decode cX10_isBoxed 43 = .ok (.invokestatic 53, 3) := by decide +kernel
theorem dX10_isBoxed_46 : decode cX10_isBoxed 46 = .ok (.iload_n 1, 1) := by decide +kernel
theorem dX10_isBoxed_47 : decode cX10_isBoxed 47 = .ok (.iload_n 3, 1) := by decide +kernel
theorem dX10_isBoxed_48 : decode cX10_isBoxed 48 = .ok (.invokestatic 47, 3) := by decide +kernel
theorem dX10_isBoxed_51 : decode cX10_isBoxed 51 = .ok (.invokestatic 43, 3) := by decide +kernel
theorem dX10_isBoxed_54 : decode cX10_isBoxed 54 = .ok (.ifCond .eq 30, 3) := by decide +kernel
theorem dX10_isBoxed_57 : decode cX10_isBoxed 57 = .ok (.iload 5, 2) := by decide +kernel
theorem dX10_isBoxed_59 : decode cX10_isBoxed 59 = .ok (.bipush 16, 2) := by decide +kernel
theorem dX10_isBoxed_61 : decode cX10_isBoxed 61 = .ok (.idiv, 1) := by decide +kernel
theorem dX10_isBoxed_62 : decode cX10_isBoxed 62 = .ok (.iload_n 2, 1) := by decide +kernel
theorem dX10_isBoxed_63 : decode cX10_isBoxed 63 = .ok (.iload 4, 2) := by decide +kernel
theorem dX10_isBoxed_65 : decode cX10_isBoxed 65 = .ok (.invokestatic 53, 3) := by decide +kernel
theorem dX10_isBoxed_68 : decode cX10_isBoxed 68 = .ok (.iload_n 2, 1) := by decide +kernel
theorem dX10_isBoxed_69 : decode cX10_isBoxed 69 = .ok (.iload 4, 2) := by decide +kernel
theorem dX10_isBoxed_71 : decode cX10_isBoxed 71 = .ok (.invokestatic 47, 3) := by decide +kernel
theorem dX10_isBoxed_74 : decode cX10_isBoxed 74 = .ok (.invokestatic 43, 3) := by decide +kernel
theorem dX10_isBoxed_77 : decode cX10_isBoxed 77 = .ok (.ifCond .eq 7, 3) := by decide +kernel
theorem dX10_isBoxed_80 : decode cX10_isBoxed 80 = .ok (.iconst 1, 1) := by decide +kernel
theorem dX10_isBoxed_81 : decode cX10_isBoxed 81 = .ok (.goto 4, 3) := by decide +kernel
theorem dX10_isBoxed_84 : decode cX10_isBoxed 84 = .ok (.iconst 0, 1) := by decide +kernel
theorem dX10_isBoxed_85 : decode cX10_isBoxed 85 = .ok (.iastore, 1) := by decide +kernel
theorem dX10_isBoxed_86 : decode cX10_isBoxed 86 = .ok (.iinc 5 1, 3) := by decide +kernel
theorem dX10_isBoxed_89 : decode cX10_isBoxed 89 = .ok (.goto (-67), 3) := by decide +kernel
theorem dX10_isBoxed_92 : decode cX10_isBoxed 92 = .ok (.iconst 1, 1) := by decide +kernel
theorem dX10_isBoxed_93 : decode cX10_isBoxed 93 = .ok (.ireturn, 1) := by decide +kernel
theorem dX10_isLike_0 : decode cX10_isLike 0 = .ok (.aload_n 0, 1) := by decide +kernel
theorem dX10_isLike_1 : decode cX10_isLike 1 = .ok (.getfield 9, 3) := by decide +kernel
theorem dX10_isLike_4 : decode cX10_isLike 4 = .ok (.bipush 20, 2) := by decide +kernel
theorem dX10_isLike_6 : decode cX10_isLike 6 = .ok (.sipush 192, 3) := by decide +kernel
theorem dX10_isLike_9 : decode cX10_isLike 9 = .ok (.iload_n 1, 1) := by decide +kernel
theorem dX10_isLike_10 : decode cX10_isLike 10 = .ok (.imul, 1) := by decide +kernel
theorem dX10_isLike_11 : decode cX10_isLike 11 = .ok (.iadd, 1) := by decide +kernel
theorem dX10_isLike_12 : decode cX10_isLike 12 = .ok (.iload_n 2, 1) := by decide +kernel
theorem dX10_isLike_13 : decode cX10_isLike 13 = .ok (.iadd, 1) := by decide +kernel
theorem dX10_isLike_14 : decode cX10_isLike 14 = .ok (.iaload, 1) := by decide +kernel
theorem dX10_isLike_15 : decode cX10_isLike 15 = .ok (.aload_n 0, 1) := by decide +kernel
theorem dX10_isLike_16 : decode cX10_isLike 16 = .ok (.getfield 9, 3) := by decide +kernel
theorem dX10_isLike_19 : decode cX10_isLike 19 = .ok (.bipush 20, 2) := by decide +kernel
theorem dX10_isLike_21 : decode cX10_isLike 21 = .ok (.sipush 192, 3) := by decide +kernel
theorem dX10_isLike_24 : decode cX10_isLike 24 = .ok (.iload_n 1, 1) := by decide +kernel
theorem dX10_isLike_25 : decode cX10_isLike 25 = .ok (.imul, 1) := by decide +kernel
theorem dX10_isLike_26 : decode cX10_isLike 26 = .ok (.iadd, 1) := by decide +kernel
theorem dX10_isLike_27 : decode cX10_isLike 27 = .ok (.iload_n 3, 1) := by decide +kernel
theorem dX10_isLike_28 : decode cX10_isLike 28 = .ok (.iadd, 1) := by decide +kernel
theorem dX10_isLike_29 : decode cX10_isLike 29 = .ok (.iaload, 1) := by decide +kernel
theorem dX10_isLike_30 : decode cX10_isLike 30 = .ok (.isub, 1) := by decide +kernel
theorem dX10_isLike_31 : decode cX10_isLike 31 = .ok (.invokestatic 102, 3) := by decide +kernel
theorem dX10_isLike_34 : decode cX10_isLike 34 = .ok (.iload 4, 2) := by decide +kernel
theorem dX10_isLike_36 : decode cX10_isLike 36 = .ok (.if_icmp .gt 48, 3) := by decide +kernel
theorem dX10_isLike_39 : decode cX10_isLike 39 = .ok (.aload_n 0, 1) := by decide +kernel
theorem dX10_isLike_40 : decode cX10_isLike 40 = .ok (.getfield 9, 3) := by decide +kernel
theorem dX10_isLike_43 : decode cX10_isLike 43 = .ok (.sipush 788, 3) := by decide +kernel
theorem dX10_isLike_46 : decode cX10_isLike 46 = .ok (.sipush 192, 3) := by decide +kernel
theorem dX10_isLike_49 : decode cX10_isLike 49 = .ok (.iload_n 1, 1) := by decide +kernel
theorem dX10_isLike_50 : decode cX10_isLike 50 = .ok (.imul, 1) := by decide +kernel
theorem dX10_isLike_51 : decode cX10_isLike 51 = .ok (.iadd, 1) := by decide +kernel
theorem dX10_isLike_52 : decode cX10_isLike 52 = .ok (.iload_n 2, 1) := by decide +kernel
theorem dX10_isLike_53 : decode cX10_isLike 53 = .ok (.iadd, 1) := by decide +kernel
theorem dX10_isLike_54 : decode cX10_isLike 54 = .ok (.iaload, 1) := by decide +kernel
theorem dX10_isLike_55 : decode cX10_isLike 55 = .ok (.aload_n 0, 1) := by decide +kernel
theorem dX10_isLike_56 : decode cX10_isLike 56 = .ok (.getfield 9, 3) := by decide +kernel
theorem dX10_isLike_59 : decode cX10_isLike 59 = .ok (.sipush 788, 3) := by decide +kernel
theorem dX10_isLike_62 : decode cX10_isLike 62 = .ok (.sipush 192, 3) := by decide +kernel
theorem dX10_isLike_65 : decode cX10_isLike 65 = .ok (.iload_n 1, 1) := by decide +kernel
theorem dX10_isLike_66 : decode cX10_isLike 66 = .ok (.imul, 1) := by decide +kernel
theorem dX10_isLike_67 : decode cX10_isLike 67 = .ok (.iadd, 1) := by decide +kernel
theorem dX10_isLike_68 : decode cX10_isLike 68 = .ok (.iload_n 3, 1) := by decide +kernel
theorem dX10_isLike_69 : decode cX10_isLike 69 = .ok (.iadd, 1) := by decide +kernel
theorem dX10_isLike_70 : decode cX10_isLike 70 = .ok (.iaload, 1) := by decide +kernel
theorem dX10_isLike_71 : decode cX10_isLike 71 = .ok (.isub, 1) := by decide +kernel
theorem dX10_isLike_72 : decode cX10_isLike 72 = .ok (.invokestatic 102, 3) := by decide +kernel
theorem dX10_isLike_75 : decode cX10_isLike 75 = .ok (.iload 4, 2) := by decide +kernel
theorem dX10_isLike_77 : decode cX10_isLike 77 = .ok (.if_icmp .gt 7, 3) := by decide +kernel
theorem dX10_isLike_80 : decode cX10_isLike 80 = .ok (.iconst 1, 1) := by decide +kernel
theorem dX10_isLike_81 : decode cX10_isLike 81 = .ok (.goto 4, 3) := by decide +kernel
theorem dX10_isLike_84 : decode cX10_isLike 84 = .ok (.iconst 0, 1) := by decide +kernel
theorem dX10_isLike_85 : decode cX10_isLike 85 = .ok (.ireturn, 1) := by decide +kernel
theorem dX10_beside_0 : decode cX10_beside 0 = .ok (.iload_n 0, 1) := by decide +kernel
theorem dX10_beside_1 : decode cX10_beside 1 = .ok (.bipush 16, 2) := by decide +kernel
theorem dX10_beside_3 : decode cX10_beside 3 = .ok (.irem, 1) := by decide +kernel
theorem dX10_beside_4 : decode cX10_beside 4 = .ok (.iload_n 1, 1) := by decide +kernel
theorem dX10_beside_5 : decode cX10_beside 5 = .ok (.ifCond .ne 7, 3) := by decide +kernel
theorem dX10_beside_8 : decode cX10_beside 8 = .ok (.iconst (-1), 1) := by decide +kernel
theorem dX10_beside_9 : decode cX10_beside 9 = .ok (.goto 13, 3) := by decide +kernel
theorem dX10_beside_12 : decode cX10_beside 12 = .ok (.iload_n 1, 1) := by decide +kernel
theorem dX10_beside_13 : decode cX10_beside 13 = .ok (.iconst 1, 1) := by decide +kernel
theorem dX10_beside_14 : decode cX10_beside 14 = .ok (.if_icmp .ne 7, 3) := by decide +kernel
theorem dX10_beside_17 : decode cX10_beside 17 = .ok (.iconst 1, 1) := by decide +kernel
theorem dX10_beside_18 : decode cX10_beside 18 = .ok (.goto 4, 3) := by decide +kernel
theorem dX10_beside_21 : decode cX10_beside 21 = .ok (.iconst 0, 1) := by decide +kernel
theorem dX10_beside_22 : decode cX10_beside 22 = .ok (.iadd, 1) := by decide +kernel
theorem dX10_beside_23 : decode cX10_beside 23 = .ok (.istore_n 2, 1) := by decide +kernel
theorem dX10_beside_24 : decode cX10_beside 24 = .ok (.iload_n 0, 1) := by decide +kernel
theorem dX10_beside_25 : decode cX10_beside 25 = .ok (.bipush 16, 2) := by decide +kernel
theorem dX10_beside_27 : decode cX10_beside 27 = .ok (.idiv, 1) := by decide +kernel
theorem dX10_beside_28 : decode cX10_beside 28 = .ok (.iload_n 1, 1) := by decide +kernel
theorem dX10_beside_29 : decode cX10_beside 29 = .ok (.iconst 2, 1) := by decide +kernel
theorem dX10_beside_30 : decode cX10_beside 30 = .ok (.if_icmp .ne 7, 3) := by decide +kernel
theorem dX10_beside_33 : decode cX10_beside 33 = .ok (.iconst (-1), 1) := by decide +kernel
theorem dX10_beside_34 : decode cX10_beside 34 = .ok (.goto 13, 3) := by decide +kernel
theorem dX10_beside_37 : decode cX10_beside 37 = .ok (.iload_n 1, 1) := by decide +kernel
theorem dX10_beside_38 : decode cX10_beside 38 = .ok (.iconst 3, 1) := by decide +kernel
theorem dX10_beside_39 : decode cX10_beside 39 = .ok (.if_icmp .ne 7, 3) := by decide +kernel
theorem dX10_beside_42 : decode cX10_beside 42 = .ok (.iconst 1, 1) := by decide +kernel
theorem dX10_beside_43 : decode cX10_beside 43 = .ok (.goto 4, 3) := by decide +kernel
theorem dX10_beside_46 : decode cX10_beside 46 = .ok (.iconst 0, 1) := by decide +kernel
theorem dX10_beside_47 : decode cX10_beside 47 = .ok (.iadd, 1) := by decide +kernel
theorem dX10_beside_48 : decode cX10_beside 48 = .ok (.istore_n 3, 1) := by decide +kernel
theorem dX10_beside_49 : decode cX10_beside 49 = .ok (.iload_n 2, 1) := by decide +kernel
theorem dX10_beside_50 : decode cX10_beside 50 = .ok (.iload_n 3, 1) := by decide +kernel
theorem dX10_beside_51 : decode cX10_beside 51 = .ok (.invokestatic 93, 3) := by decide +kernel
theorem dX10_beside_54 : decode cX10_beside 54 = .ok (.ifCond .eq 11, 3) := by decide +kernel
theorem dX10_beside_57 : decode cX10_beside 57 = .ok (.iload_n 2, 1) := by decide +kernel
theorem dX10_beside_58 : decode cX10_beside 58 = .ok (.iload_n 3, 1) := by decide +kernel
theorem dX10_beside_59 : decode cX10_beside 59 = .ok (.invokestatic 97, 3) := by decide +kernel
theorem dX10_beside_62 : decode cX10_beside 62 = .ok (.goto 4, 3) := by decide +kernel
theorem dX10_beside_65 : decode cX10_beside 65 = .ok (.iconst (-1), 1) := by decide +kernel
theorem dX10_beside_66 : decode cX10_beside 66 = .ok (.ireturn, 1) := by decide +kernel
theorem dX10_region_0 : decode cX10_region 0 = .ok (.iload_n 2, 1) := by decide +kernel
theorem dX10_region_1 : decode cX10_region 1 = .ok (.iload_n 3, 1) := by decide +kernel
theorem dX10_region_2 : decode cX10_region 2 = .ok (.invokestatic 97, 3) := by decide +kernel
theorem dX10_region_5 : decode cX10_region 5 = .ok (.istore 5, 2) := by decide +kernel
theorem dX10_region_7 : decode cX10_region 7 = .ok (.iconst 0, 1) := by decide +kernel
theorem dX10_region_8 : decode cX10_region 8 = .ok (.istore 6, 2) := by decide +kernel
theorem dX10_region_10 : decode cX10_region 10 = .ok (.iload 6, 2) := by decide +kernel
theorem dX10_region_12 : decode cX10_region 12 = .ok (.sipush 192, 3) := by decide +kernel
theorem dX10_region_15 : decode cX10_region 15 = .ok (.if_icmp .ge 17, 3) := by decide +kernel
theorem dX10_region_18 : decode cX10_region 18 = .ok (.aload_n 0, 1) := by decide +kernel
theorem dX10_region_19 : decode cX10_region 19 = .ok (.getfield 22, 3) := by decide +kernel
theorem dX10_region_22 : decode cX10_region 22 = .ok (.iload 6, 2) := by decide +kernel
theorem dX10_region_24 : decode cX10_region 24 = .ok (.iconst 0, 1) := by decide +kernel
theorem dX10_region_25 : decode cX10_region 25 = .ok (.iastore, 1) := by decide +kernel
theorem dX10_region_26 : decode cX10_region 26 = .ok (.iinc 6 1, 3) := by decide +kernel
theorem dX10_region_29 : decode cX10_region 29 = .ok (.goto (-19), 3) := by decide +kernel
theorem dX10_region_32 : decode cX10_region 32 = .ok (.aload_n 0, 1) := by decide +kernel
theorem dX10_region_33 : decode cX10_region 33 = .ok (.getfield 22, 3) := by decide +kernel
theorem dX10_region_36 : decode cX10_region 36 = .ok (.iload 5, 2) := by decide +kernel
theorem dX10_region_38 : decode cX10_region 38 = .ok (.iconst 1, 1) := by decide +kernel
theorem dX10_region_39 : decode cX10_region 39 = .ok (.iastore, 1) := by decide +kernel
theorem dX10_region_40 : decode cX10_region 40 = .ok (.aload_n 0, 1) := by decide +kernel
theorem dX10_region_41 : decode cX10_region 41 = .ok (.getfield 25, 3) := by decide +kernel
theorem dX10_region_44 : decode cX10_region 44 = .ok (.iconst 0, 1) := by decide +kernel
theorem dX10_region_45 : decode cX10_region 45 = .ok (.iload 5, 2) := by decide +kernel
theorem dX10_region_47 : decode cX10_region 47 = .ok (.iastore, 1) := by decide +kernel
theorem dX10_region_48 : decode cX10_region 48 = .ok (.iconst 1, 1) := by decide +kernel
theorem dX10_region_49 : decode cX10_region 49 = .ok (.istore 6, 2) := by decide +kernel
theorem dX10_region_51 : decode cX10_region 51 = .ok (.iconst 0, 1) := by decide +kernel
theorem dX10_region_52 : decode cX10_region 52 = .ok (.istore 7, 2) := by decide +kernel
theorem dX10_region_54 : decode cX10_region 54 = .ok (.iload 7, 2) := by decide +kernel
theorem dX10_region_56 : decode cX10_region 56 = .ok (.iload 6, 2) := by decide +kernel
theorem dX10_region_58 : decode cX10_region 58 = .ok (.if_icmp .ge 91, 3) := by decide +kernel
theorem dX10_region_61 : decode cX10_region 61 = .ok (.iconst 0, 1) := by decide +kernel
theorem dX10_region_62 : decode cX10_region 62 = .ok (.istore 8, 2) := by decide +kernel
theorem dX10_region_64 : decode cX10_region 64 = .ok (.iload 8, 2) := by decide +kernel
theorem dX10_region_66 : decode cX10_region 66 = .ok (.iconst 4, 1) := by decide +kernel
theorem dX10_region_67 : decode cX10_region 67 = .ok (.if_icmp .ge 76, 3) := by decide +kernel
theorem dX10_region_70 : decode cX10_region 70 = .ok (.aload_n 0, 1) := by decide +kernel
theorem dX10_region_71 : decode cX10_region 71 = .ok (.getfield 25, 3) := by decide +kernel
theorem dX10_region_74 : decode cX10_region 74 = .ok (.iload 7, 2) := by decide +kernel
theorem dX10_region_76 : decode cX10_region 76 = .ok (.iaload, 1) := by decide +kernel
theorem dX10_region_77 : decode cX10_region 77 = .ok (.iload 8, 2) := by decide +kernel
theorem dX10_region_79 : decode cX10_region 79 = .ok (.invokestatic 221, 3) := by decide +kernel
theorem dX10_region_82 : decode cX10_region 82 = .ok (.istore 9, 2) := by decide +kernel
theorem dX10_region_84 : decode cX10_region 84 = .ok (.iload 9, 2) := by decide +kernel
theorem dX10_region_86 : decode cX10_region 86 = .ok (.ifCond .lt 51, 3) := by decide +kernel
theorem dX10_region_89 : decode cX10_region 89 = .ok (.aload_n 0, 1) := by decide +kernel
theorem dX10_region_90 : decode cX10_region 90 = .ok (.getfield 22, 3) := by decide +kernel
theorem dX10_region_93 : decode cX10_region 93 = .ok (.iload 9, 2) := by decide +kernel
theorem dX10_region_95 : decode cX10_region 95 = .ok (.iaload, 1) := by decide +kernel
theorem dX10_region_96 : decode cX10_region 96 = .ok (.iconst 1, 1) := by decide +kernel
theorem dX10_region_97 : decode cX10_region 97 = .ok (.if_icmp .eq 40, 3) := by decide +kernel
theorem dX10_region_100 : decode cX10_region 100 = .ok (.aload_n 0, 1) := by decide +kernel
theorem dX10_region_101 : decode cX10_region 101 = .ok (.iload_n 1, 1) := by decide +kernel
theorem dX10_region_102 : decode cX10_region 102 = .ok (.iload 9, 2) := by decide +kernel
theorem dX10_region_104 : decode cX10_region 104 = .ok (.iload 5, 2) := by decide +kernel
theorem dX10_region_106 : decode cX10_region 106 = .ok (.iload 4, 2) := by decide +kernel
theorem dX10_region_108 : decode cX10_region 108 = .ok (.invokevirtual 224, 3) := by decide +kernel
theorem dX10_region_111 : decode cX10_region 111 = .ok (.ifCond .ne 6, 3) := by decide +kernel
theorem dX10_region_114 : decode cX10_region 114 = .ok (.goto 23, 3) := by decide +kernel
theorem dX10_region_117 : decode cX10_region 117 = .ok (.aload_n 0, 1) := by decide +kernel
theorem dX10_region_118 : decode cX10_region 118 = .ok (.getfield 22, 3) := by decide +kernel
theorem dX10_region_121 : decode cX10_region 121 = .ok (.iload 9, 2) := by decide +kernel
theorem dX10_region_123 : decode cX10_region 123 = .ok (.iconst 1, 1) := by decide +kernel
theorem dX10_region_124 : decode cX10_region 124 = .ok (.iastore, 1) := by decide +kernel
theorem dX10_region_125 : decode cX10_region 125 = .ok (.aload_n 0, 1) := by decide +kernel
theorem dX10_region_126 : decode cX10_region 126 = .ok (.getfield 25, 3) := by decide +kernel
theorem dX10_region_129 : decode cX10_region 129 = .ok (.iload 6, 2) := by decide +kernel
theorem dX10_region_131 : decode cX10_region 131 = .ok (.iload 9, 2) := by decide +kernel
theorem dX10_region_133 : decode cX10_region 133 = .ok (.iastore, 1) := by decide +kernel
theorem dX10_region_134 : decode cX10_region 134 = .ok (.iinc 6 1, 3) := by decide +kernel
theorem dX10_region_137 : decode cX10_region 137 = .ok (.iinc 8 1, 3) := by decide +kernel
theorem dX10_region_140 : decode cX10_region 140 = .ok (.goto (-76), 3) := by decide +kernel
theorem dX10_region_143 : decode cX10_region 143 = .ok (.iinc 7 1, 3) := by decide +kernel
theorem dX10_region_146 : decode cX10_region 146 = .ok (.goto (-92), 3) := by decide +kernel
theorem dX10_region_149 : decode cX10_region 149 = .ok (.return_, 1) := by decide +kernel
theorem dX10_fills_0 : decode cX10_fills 0 = .ok (.aload_n 0, 1) := by decide +kernel
theorem dX10_fills_1 : decode cX10_fills 1 = .ok (.iload_n 1, 1) := by decide +kernel
theorem dX10_fills_2 : decode cX10_fills 2 = .ok (.invokevirtual 205, 3) := by decide +kernel
theorem dX10_fills_5 : decode cX10_fills 5 = .ok (.iconst 0, 1) := by decide +kernel
theorem dX10_fills_6 : decode cX10_fills 6 = .ok (.istore_n 2, 1) := by decide +kernel
theorem dX10_fills_7 : decode cX10_fills 7 = .ok (.iconst 0, 1) := by decide +kernel
theorem dX10_fills_8 : decode cX10_fills 8 = .ok (.istore_n 3, 1) := by decide +kernel
theorem dX10_fills_9 : decode cX10_fills 9 = .ok (.iload_n 3, 1) := by decide +kernel
theorem dX10_fills_10 : decode cX10_fills 10 = .ok (.sipush 192, 3) := by decide +kernel
theorem dX10_fills_13 : decode cX10_fills 13 = .ok (.if_icmp .ge 41, 3) := by decide +kernel
theorem dX10_fills_16 : decode cX10_fills 16 = .ok (.aload_n 0, 1) := by decide +kernel
theorem dX10_fills_17 : decode cX10_fills 17 = .ok (.getfield 22, 3) := by decide +kernel
theorem dX10_fills_20 : decode cX10_fills 20 = .ok (.iload_n 3, 1) := by decide +kernel
theorem dX10_fills_21 : decode cX10_fills 21 = .ok (.iaload, 1) := by decide +kernel
theorem dX10_fills_22 : decode cX10_fills 22 = .ok (.ifCond .eq 26, 3) := by decide +kernel
theorem dX10_fills_25 : decode cX10_fills 25 = .ok (.aload_n 0, 1) := by decide +kernel
theorem dX10_fills_26 : decode cX10_fills 26 = .ok (.iload_n 3, 1) := by decide +kernel
theorem dX10_fills_27 : decode cX10_fills 27 = .ok (.invokevirtual 117, 3) := by decide +kernel
theorem dX10_fills_30 : decode cX10_fills 30 = .ok (.ifCond .ne 6, 3) := by decide +kernel
theorem dX10_fills_33 : decode cX10_fills 33 = .ok (.goto 15, 3) := by decide +kernel
theorem dX10_fills_36 : decode cX10_fills 36 = .ok (.aload_n 0, 1) := by decide +kernel
theorem dX10_fills_37 : decode cX10_fills 37 = .ok (.iload_n 1, 1) := by decide +kernel
theorem dX10_fills_38 : decode cX10_fills 38 = .ok (.iload_n 3, 1) := by decide +kernel
theorem dX10_fills_39 : decode cX10_fills 39 = .ok (.sipush 255, 3) := by decide +kernel
theorem dX10_fills_42 : decode cX10_fills 42 = .ok (.invokevirtual 120, 3) := by decide +kernel
theorem dX10_fills_45 : decode cX10_fills 45 = .ok (.iinc 2 1, 3) := by decide +kernel
theorem dX10_fills_48 : decode cX10_fills 48 = .ok (.iinc 3 1, 3) := by decide +kernel
theorem dX10_fills_51 : decode cX10_fills 51 = .ok (.goto (-42), 3) := by decide +kernel
theorem dX10_fills_54 : decode cX10_fills 54 = .ok (.aload_n 0, 1) := by decide +kernel
theorem dX10_fills_55 : decode cX10_fills 55 = .ok (.iload_n 1, 1) := by decide +kernel
theorem dX10_fills_56 : decode cX10_fills 56 = .ok (.invokevirtual 209, 3) := by decide +kernel
theorem dX10_fills_59 : decode cX10_fills 59 = .ok (.iload_n 2, 1) := by decide +kernel
theorem dX10_fills_60 : decode cX10_fills 60 = .ok (.ireturn, 1) := by decide +kernel
theorem dX10_box_0 : decode cX10_box 0 = .ok (.aload_n 0, 1) := by decide +kernel
theorem dX10_box_1 : decode cX10_box 1 = .ok (.iload_n 1, 1) := by decide +kernel
theorem dX10_box_2 : decode cX10_box 2 = .ok (.invokevirtual 80, 3) := by decide +kernel
theorem dX10_box_5 : decode cX10_box 5 = .ok (.ifCond .eq 24, 3) := by decide +kernel
theorem dX10_box_8 : decode cX10_box 8 = .ok (.aload_n 0, 1) := by decide +kernel
theorem dX10_box_9 : decode cX10_box 9 = .ok (.iload_n 2, 1) := by decide +kernel
theorem dX10_box_10 : decode cX10_box 10 = .ok (.iload_n 3, 1) := by decide +kernel
theorem dX10_box_11 : decode cX10_box 11 = .ok (.iload 4, 2) := by decide +kernel
theorem dX10_box_13 : decode cX10_box 13 = .ok (.iload 5, 2) := by decide +kernel
theorem dX10_box_15 : decode cX10_box 15 = .ok (.invokevirtual 228, 3) := by decide +kernel
theorem dX10_box_18 : decode cX10_box 18 = .ok (.ifCond .eq 11, 3) := by decide +kernel
theorem dX10_box_21 : decode cX10_box 21 = .ok (.aload_n 0, 1) := by decide +kernel
theorem dX10_box_22 : decode cX10_box 22 = .ok (.iload_n 1, 1) := by decide +kernel
theorem dX10_box_23 : decode cX10_box 23 = .ok (.invokevirtual 231, 3) := by decide +kernel
theorem dX10_box_26 : decode cX10_box 26 = .ok (.goto 5, 3) := by decide +kernel
theorem dX10_box_29 : decode cX10_box 29 = .ok (.bipush (-2), 2) := by decide +kernel
theorem dX10_box_31 : decode cX10_box 31 = .ok (.ireturn, 1) := by decide +kernel
theorem dX10_isRegion_0 : decode cX10_isRegion 0 = .ok (.aload_n 0, 1) := by decide +kernel
theorem dX10_isRegion_1 : decode cX10_isRegion 1 = .ok (.iload_n 1, 1) := by decide +kernel
theorem dX10_isRegion_2 : decode cX10_isRegion 2 = .ok (.invokevirtual 80, 3) := by decide +kernel
theorem dX10_isRegion_5 : decode cX10_isRegion 5 = .ok (.ifCond .eq 19, 3) := by decide +kernel
theorem dX10_isRegion_8 : decode cX10_isRegion 8 = .ok (.iload_n 2, 1) := by decide +kernel
theorem dX10_isRegion_9 : decode cX10_isRegion 9 = .ok (.iload_n 3, 1) := by decide +kernel
theorem dX10_isRegion_10 : decode cX10_isRegion 10 = .ok (.invokestatic 93, 3) := by decide +kernel
theorem dX10_isRegion_13 : decode cX10_isRegion 13 = .ok (.ifCond .eq 11, 3) := by decide +kernel
theorem dX10_isRegion_16 : decode cX10_isRegion 16 = .ok (.iload 4, 2) := by decide +kernel
theorem dX10_isRegion_18 : decode cX10_isRegion 18 = .ok (.invokestatic 63, 3) := by decide +kernel
theorem dX10_isRegion_21 : decode cX10_isRegion 21 = .ok (.ifCond .ne 5, 3) := by decide +kernel
theorem dX10_isRegion_24 : decode cX10_isRegion 24 = .ok (.iconst 0, 1) := by decide +kernel
theorem dX10_isRegion_25 : decode cX10_isRegion 25 = .ok (.ireturn, 1) := by decide +kernel
theorem dX10_isRegion_26 : decode cX10_isRegion 26 = .ok (.aload_n 0, 1) := by decide +kernel
theorem dX10_isRegion_27 : decode cX10_isRegion 27 = .ok (.iload_n 1, 1) := by decide +kernel
theorem dX10_isRegion_28 : decode cX10_isRegion 28 = .ok (.iload_n 2, 1) := by decide +kernel
theorem dX10_isRegion_29 : decode cX10_isRegion 29 = .ok (.iload_n 3, 1) := by decide +kernel
theorem dX10_isRegion_30 : decode cX10_isRegion 30 = .ok (.iload 4, 2) := by decide +kernel
theorem dX10_isRegion_32 : decode cX10_isRegion 32 = .ok (.invokevirtual 234, 3) := by decide +kernel
theorem dX10_isRegion_35 : decode cX10_isRegion 35 = .ok (.iconst 1, 1) := by decide +kernel
theorem dX10_isRegion_36 : decode cX10_isRegion 36 = .ok (.ireturn, 1) := by decide +kernel
theorem dX10_flood_0 : decode cX10_flood 0 = .ok (.aload_n 0, 1) := by decide +kernel
theorem dX10_flood_1 : decode cX10_flood 1 = .ok (.iload_n 1, 1) := by decide +kernel
theorem dX10_flood_2 : decode cX10_flood 2 = .ok (.iload_n 2, 1) := by decide +kernel
theorem dX10_flood_3 : decode cX10_flood 3 = .ok (.iload_n 3, 1) := by decide +kernel
theorem dX10_flood_4 : decode cX10_flood 4 = .ok (.iload 4, 2) := by decide +kernel
theorem dX10_flood_6 : decode cX10_flood 6 = .ok (.invokevirtual 238, 3) := by decide +kernel
theorem dX10_flood_9 : decode cX10_flood 9 = .ok (.ifCond .eq 11, 3) := by decide +kernel
theorem dX10_flood_12 : decode cX10_flood 12 = .ok (.aload_n 0, 1) := by decide +kernel
theorem dX10_flood_13 : decode cX10_flood 13 = .ok (.iload_n 1, 1) := by decide +kernel
theorem dX10_flood_14 : decode cX10_flood 14 = .ok (.invokevirtual 231, 3) := by decide +kernel
theorem dX10_flood_17 : decode cX10_flood 17 = .ok (.goto 5, 3) := by decide +kernel
theorem dX10_flood_20 : decode cX10_flood 20 = .ok (.bipush (-2), 2) := by decide +kernel
theorem dX10_flood_22 : decode cX10_flood 22 = .ok (.ireturn, 1) := by decide +kernel
theorem dX10_masks_0 : decode cX10_masks 0 = .ok (.iconst 0, 1) := by decide +kernel
theorem dX10_masks_1 : decode cX10_masks 1 = .ok (.istore_n 2, 1) := by decide +kernel
theorem dX10_masks_2 : decode cX10_masks 2 = .ok (.iload_n 2, 1) := by decide +kernel
theorem dX10_masks_3 : decode cX10_masks 3 = .ok (.sipush 192, 3) := by decide +kernel
theorem dX10_masks_6 : decode cX10_masks 6 = .ok (.if_icmp .ge 85, 3) := by decide +kernel
theorem dX10_masks_9 : decode cX10_masks 9 = .ok (.aload_n 0, 1) := by decide +kernel
theorem dX10_masks_10 : decode cX10_masks 10 = .ok (.getfield 9, 3) := by decide +kernel
theorem dX10_masks_13 : decode cX10_masks 13 = .ok (.sipush 1556, 3) := by decide +kernel
theorem dX10_masks_16 : decode cX10_masks 16 = .ok (.iload_n 2, 1) := by decide +kernel
theorem dX10_masks_17 : decode cX10_masks 17 = .ok (.iadd, 1) := by decide +kernel
theorem dX10_masks_18 : decode cX10_masks 18 = .ok (.iaload, 1) := by decide +kernel
theorem dX10_masks_19 : decode cX10_masks 19 = .ok (.istore_n 3, 1) := by decide +kernel
theorem dX10_masks_20 : decode cX10_masks 20 = .ok (.aload_n 0, 1) := by decide +kernel
theorem dX10_masks_21 : decode cX10_masks 21 = .ok (.getfield 9, 3) := by decide +kernel
theorem dX10_masks_24 : decode cX10_masks 24 = .ok (.sipush 1556, 3) := by decide +kernel
theorem dX10_masks_27 : decode cX10_masks 27 = .ok (.iload_n 2, 1) := by decide +kernel
theorem dX10_masks_28 : decode cX10_masks 28 = .ok (.iadd, 1) := by decide +kernel
theorem dX10_masks_29 : decode cX10_masks 29 = .ok (.iload_n 1, 1) := by decide +kernel
theorem dX10_masks_30 : decode cX10_masks 30 = .ok (.ifCond .ne 12, 3) := by decide +kernel
theorem dX10_masks_33 : decode cX10_masks 33 = .ok (.aload_n 0, 1) := by decide +kernel
theorem dX10_masks_34 : decode cX10_masks 34 = .ok (.getfield 22, 3) := by decide +kernel
theorem dX10_masks_37 : decode cX10_masks 37 = .ok (.iload_n 2, 1) := by decide +kernel
theorem dX10_masks_38 : decode cX10_masks 38 = .ok (.iaload, 1) := by decide +kernel
theorem dX10_masks_39 : decode cX10_masks 39 = .ok (.goto 45, 3) := by decide +kernel
theorem dX10_masks_42 : decode cX10_masks 42 = .ok (.iload_n 1, 1) := by decide +kernel
theorem dX10_masks_43 : decode cX10_masks 43 = .ok (.iconst 1, 1) := by decide +kernel
theorem dX10_masks_44 : decode cX10_masks 44 = .ok (.if_icmp .ne 14, 3) := by decide +kernel
theorem dX10_masks_47 : decode cX10_masks 47 = .ok (.iload_n 3, 1) := by decide +kernel
theorem dX10_masks_48 : decode cX10_masks 48 = .ok (.aload_n 0, 1) := by decide +kernel
theorem dX10_masks_49 : decode cX10_masks 49 = .ok (.getfield 22, 3) := by decide +kernel
theorem dX10_masks_52 : decode cX10_masks 52 = .ok (.iload_n 2, 1) := by decide +kernel
theorem dX10_masks_53 : decode cX10_masks 53 = .ok (.iaload, 1) := by decide +kernel
theorem dX10_masks_54 : decode cX10_masks 54 = .ok (.ior, 1) := by decide +kernel
theorem dX10_masks_55 : decode cX10_masks 55 = .ok (.goto 29, 3) := by decide +kernel
theorem dX10_masks_58 : decode cX10_masks 58 = .ok (.iload_n 1, 1) := by decide +kernel
theorem dX10_masks_59 : decode cX10_masks 59 = .ok (.iconst 2, 1) := by decide +kernel
theorem dX10_masks_60 : decode cX10_masks 60 = .ok (.if_icmp .ne 16, 3) := by decide +kernel
theorem dX10_masks_63 : decode cX10_masks 63 = .ok (.iload_n 3, 1) := by decide +kernel
theorem dX10_masks_64 : decode cX10_masks 64 = .ok (.aload_n 0, 1) := by decide +kernel
theorem dX10_masks_65 : decode cX10_masks 65 = .ok (.getfield 22, 3) := by decide +kernel
theorem dX10_masks_68 : decode cX10_masks 68 = .ok (.iload_n 2, 1) := by decide +kernel
theorem dX10_masks_69 : decode cX10_masks 69 = .ok (.iaload, 1) := by decide +kernel
theorem dX10_masks_70 : decode cX10_masks 70 = .ok (.iconst (-1), 1) := by decide +kernel
theorem dX10_masks_71 : decode cX10_masks 71 = .ok (.ixor, 1) := by decide +kernel
theorem dX10_masks_72 : decode cX10_masks 72 = .ok (.iand, 1) := by decide +kernel
theorem dX10_masks_73 : decode cX10_masks 73 = .ok (.goto 11, 3) := by decide +kernel
theorem dX10_masks_76 : decode cX10_masks 76 = .ok (.iload_n 3, 1) := by decide +kernel
theorem dX10_masks_77 : decode cX10_masks 77 = .ok (.aload_n 0, 1) := by decide +kernel
theorem dX10_masks_78 : decode cX10_masks 78 = .ok (.getfield 22, 3) := by decide +kernel
theorem dX10_masks_81 : decode cX10_masks 81 = .ok (.iload_n 2, 1) := by decide +kernel
theorem dX10_masks_82 : decode cX10_masks 82 = .ok (.iaload, 1) := by decide +kernel
theorem dX10_masks_83 : decode cX10_masks 83 = .ok (.iand, 1) := by decide +kernel
theorem dX10_masks_84 : decode cX10_masks 84 = .ok (.iastore, 1) := by decide +kernel
theorem dX10_masks_85 : decode cX10_masks 85 = .ok (.iinc 2 1, 3) := by decide +kernel
theorem dX10_masks_88 : decode cX10_masks 88 = .ok (.goto (-86), 3) := by decide +kernel
theorem dX10_masks_91 : decode cX10_masks 91 = .ok (.aload_n 0, 1) := by decide +kernel
theorem dX10_masks_92 : decode cX10_masks 92 = .ok (.invokevirtual 109, 3) := by decide +kernel
theorem dX10_masks_95 : decode cX10_masks 95 = .ok (.ireturn, 1) := by decide +kernel
theorem dX10_mask_0 : decode cX10_mask 0 = .ok (.iload 5, 2) := by decide +kernel
theorem dX10_mask_2 : decode cX10_mask 2 = .ok (.iconst 0, 1) := by decide +kernel
theorem dX10_mask_3 : decode cX10_mask 3 = .ok (.iconst 3, 1) := by decide +kernel
theorem dX10_mask_4 : decode cX10_mask 4 = .ok (.invokestatic 43, 3) := by decide +kernel
theorem dX10_mask_7 : decode cX10_mask 7 = .ok (.ifCond .eq 24, 3) := by decide +kernel
theorem dX10_mask_10 : decode cX10_mask 10 = .ok (.aload_n 0, 1) := by decide +kernel
theorem dX10_mask_11 : decode cX10_mask 11 = .ok (.iload_n 1, 1) := by decide +kernel
theorem dX10_mask_12 : decode cX10_mask 12 = .ok (.iload_n 2, 1) := by decide +kernel
theorem dX10_mask_13 : decode cX10_mask 13 = .ok (.iload_n 3, 1) := by decide +kernel
theorem dX10_mask_14 : decode cX10_mask 14 = .ok (.iload 4, 2) := by decide +kernel
theorem dX10_mask_16 : decode cX10_mask 16 = .ok (.invokevirtual 228, 3) := by decide +kernel
theorem dX10_mask_19 : decode cX10_mask 19 = .ok (.ifCond .eq 12, 3) := by decide +kernel
theorem dX10_mask_22 : decode cX10_mask 22 = .ok (.aload_n 0, 1) := by decide +kernel
theorem dX10_mask_23 : decode cX10_mask 23 = .ok (.iload 5, 2) := by decide +kernel
theorem dX10_mask_25 : decode cX10_mask 25 = .ok (.invokevirtual 241, 3) := by decide +kernel
theorem dX10_mask_28 : decode cX10_mask 28 = .ok (.goto 5, 3) := by decide +kernel
theorem dX10_mask_31 : decode cX10_mask 31 = .ok (.bipush (-2), 2) := by decide +kernel
theorem dX10_mask_33 : decode cX10_mask 33 = .ok (.ireturn, 1) := by decide +kernel
theorem dX10_wand_0 : decode cX10_wand 0 = .ok (.iload 5, 2) := by decide +kernel
theorem dX10_wand_2 : decode cX10_wand 2 = .ok (.iconst 0, 1) := by decide +kernel
theorem dX10_wand_3 : decode cX10_wand 3 = .ok (.iconst 3, 1) := by decide +kernel
theorem dX10_wand_4 : decode cX10_wand 4 = .ok (.invokestatic 43, 3) := by decide +kernel
theorem dX10_wand_7 : decode cX10_wand 7 = .ok (.ifCond .eq 24, 3) := by decide +kernel
theorem dX10_wand_10 : decode cX10_wand 10 = .ok (.aload_n 0, 1) := by decide +kernel
theorem dX10_wand_11 : decode cX10_wand 11 = .ok (.iload_n 1, 1) := by decide +kernel
theorem dX10_wand_12 : decode cX10_wand 12 = .ok (.iload_n 2, 1) := by decide +kernel
theorem dX10_wand_13 : decode cX10_wand 13 = .ok (.iload_n 3, 1) := by decide +kernel
theorem dX10_wand_14 : decode cX10_wand 14 = .ok (.iload 4, 2) := by decide +kernel
theorem dX10_wand_16 : decode cX10_wand 16 = .ok (.invokevirtual 238, 3) := by decide +kernel
theorem dX10_wand_19 : decode cX10_wand 19 = .ok (.ifCond .eq 12, 3) := by decide +kernel
theorem dX10_wand_22 : decode cX10_wand 22 = .ok (.aload_n 0, 1) := by decide +kernel
theorem dX10_wand_23 : decode cX10_wand 23 = .ok (.iload 5, 2) := by decide +kernel
theorem dX10_wand_25 : decode cX10_wand 25 = .ok (.invokevirtual 241, 3) := by decide +kernel
theorem dX10_wand_28 : decode cX10_wand 28 = .ok (.goto 5, 3) := by decide +kernel
theorem dX10_wand_31 : decode cX10_wand 31 = .ok (.bipush (-2), 2) := by decide +kernel
theorem dX10_wand_33 : decode cX10_wand 33 = .ok (.ireturn, 1) := by decide +kernel
theorem dX10_hasBeside_0 : decode cX10_hasBeside 0 = .ok (.iconst 0, 1) := by decide +kernel
theorem dX10_hasBeside_1 : decode cX10_hasBeside 1 = .ok (.istore_n 3, 1) := by decide +kernel
theorem dX10_hasBeside_2 : decode cX10_hasBeside 2 = .ok (.iconst 0, 1) := by decide +kernel
theorem dX10_hasBeside_3 : decode cX10_hasBeside 3 = .ok (.istore 4, 2) := by decide +kernel
theorem dX10_hasBeside_5 : decode cX10_hasBeside 5 = .ok (.iload 4, 2) := by decide +kernel
theorem dX10_hasBeside_7 : decode cX10_hasBeside 7 = .ok (.iconst 4, 1) := by decide +kernel
theorem dX10_hasBeside_8 : decode cX10_hasBeside 8 = .ok (.if_icmp .ge 45, 3) := by decide +kernel
theorem dX10_hasBeside_11 : decode cX10_hasBeside 11 = .ok (.iload_n 3, 1) := by decide +kernel
theorem dX10_hasBeside_12 : decode cX10_hasBeside 12 = .ok (.iload_n 1, 1) := by decide +kernel
theorem dX10_hasBeside_13 : decode cX10_hasBeside 13 = .ok (.iload 4, 2) := by decide +kernel
theorem dX10_hasBeside_15 : decode cX10_hasBeside 15 = .ok (.invokestatic 221, 3) := by decide +kernel
theorem dX10_hasBeside_18 : decode cX10_hasBeside 18 = .ok (.ifCond .lt 26, 3) := by decide +kernel
theorem dX10_hasBeside_21 : decode cX10_hasBeside 21 = .ok (.aload_n 0, 1) := by decide +kernel
theorem dX10_hasBeside_22 : decode cX10_hasBeside 22 = .ok (.getfield 9, 3) := by decide +kernel
theorem dX10_hasBeside_25 : decode cX10_hasBeside 25 = .ok (.sipush 1556, 3) := by decide +kernel
theorem dX10_hasBeside_28 : decode cX10_hasBeside 28 = .ok (.iload_n 1, 1) := by decide +kernel
theorem dX10_hasBeside_29 : decode cX10_hasBeside 29 = .ok (.iload 4, 2) := by decide +kernel
theorem dX10_hasBeside_31 : decode cX10_hasBeside 31 = .ok (.invokestatic 221, 3) := by decide +kernel
theorem dX10_hasBeside_34 : decode cX10_hasBeside 34 = .ok (.iadd, 1) := by decide +kernel
theorem dX10_hasBeside_35 : decode cX10_hasBeside 35 = .ok (.iaload, 1) := by decide +kernel
theorem dX10_hasBeside_36 : decode cX10_hasBeside 36 = .ok (.iload_n 2, 1) := by decide +kernel
theorem dX10_hasBeside_37 : decode cX10_hasBeside 37 = .ok (.if_icmp .ne 7, 3) := by decide +kernel
theorem dX10_hasBeside_40 : decode cX10_hasBeside 40 = .ok (.iconst 1, 1) := by decide +kernel
theorem dX10_hasBeside_41 : decode cX10_hasBeside 41 = .ok (.goto 4, 3) := by decide +kernel
theorem dX10_hasBeside_44 : decode cX10_hasBeside 44 = .ok (.iconst 0, 1) := by decide +kernel
theorem dX10_hasBeside_45 : decode cX10_hasBeside 45 = .ok (.ior, 1) := by decide +kernel
theorem dX10_hasBeside_46 : decode cX10_hasBeside 46 = .ok (.istore_n 3, 1) := by decide +kernel
theorem dX10_hasBeside_47 : decode cX10_hasBeside 47 = .ok (.iinc 4 1, 3) := by decide +kernel
theorem dX10_hasBeside_50 : decode cX10_hasBeside 50 = .ok (.goto (-45), 3) := by decide +kernel
theorem dX10_hasBeside_53 : decode cX10_hasBeside 53 = .ok (.iload_n 3, 1) := by decide +kernel
theorem dX10_hasBeside_54 : decode cX10_hasBeside 54 = .ok (.ireturn, 1) := by decide +kernel
theorem dX10_grow_0 : decode cX10_grow 0 = .ok (.iload_n 1, 1) := by decide +kernel
theorem dX10_grow_1 : decode cX10_grow 1 = .ok (.iconst 0, 1) := by decide +kernel
theorem dX10_grow_2 : decode cX10_grow 2 = .ok (.iconst 2, 1) := by decide +kernel
theorem dX10_grow_3 : decode cX10_grow 3 = .ok (.invokestatic 43, 3) := by decide +kernel
theorem dX10_grow_6 : decode cX10_grow 6 = .ok (.ifCond .ne 6, 3) := by decide +kernel
theorem dX10_grow_9 : decode cX10_grow 9 = .ok (.bipush (-2), 2) := by decide +kernel
theorem dX10_grow_11 : decode cX10_grow 11 = .ok (.ireturn, 1) := by decide +kernel
theorem dX10_grow_12 : decode cX10_grow 12 = .ok (.iconst 0, 1) := by decide +kernel
theorem dX10_grow_13 : decode cX10_grow 13 = .ok (.istore_n 2, 1) := by decide +kernel
theorem dX10_grow_14 : decode cX10_grow 14 = .ok (.iload_n 2, 1) := by decide +kernel
theorem dX10_grow_15 : decode cX10_grow 15 = .ok (.sipush 192, 3) := by decide +kernel
theorem dX10_grow_18 : decode cX10_grow 18 = .ok (.if_icmp .ge 82, 3) := by decide +kernel
theorem dX10_grow_21 : decode cX10_grow 21 = .ok (.aload_n 0, 1) := by decide +kernel
theorem dX10_grow_22 : decode cX10_grow 22 = .ok (.getfield 9, 3) := by decide +kernel
theorem dX10_grow_25 : decode cX10_grow 25 = .ok (.sipush 1556, 3) := by decide +kernel
theorem dX10_grow_28 : decode cX10_grow 28 = .ok (.iload_n 2, 1) := by decide +kernel
theorem dX10_grow_29 : decode cX10_grow 29 = .ok (.iadd, 1) := by decide +kernel
theorem dX10_grow_30 : decode cX10_grow 30 = .ok (.iaload, 1) := by decide +kernel
theorem dX10_grow_31 : decode cX10_grow 31 = .ok (.istore_n 3, 1) := by decide +kernel
theorem dX10_grow_32 : decode cX10_grow 32 = .ok (.aload_n 0, 1) := by decide +kernel
theorem dX10_grow_33 : decode cX10_grow 33 = .ok (.getfield 22, 3) := by decide +kernel
theorem dX10_grow_36 : decode cX10_grow 36 = .ok (.iload_n 2, 1) := by decide +kernel
theorem dX10_grow_37 : decode cX10_grow 37 = .ok (.iload_n 1, 1) := by decide +kernel
theorem dX10_grow_38 : decode cX10_grow 38 = .ok (.iconst 2, 1) := by decide +kernel
theorem dX10_grow_39 : decode cX10_grow 39 = .ok (.if_icmp .ne 9, 3) := by decide +kernel
theorem dX10_grow_42 : decode cX10_grow 42 = .ok (.iconst 1, 1) := by decide +kernel
theorem dX10_grow_43 : decode cX10_grow 43 = .ok (.iload_n 3, 1) := by decide +kernel
theorem dX10_grow_44 : decode cX10_grow 44 = .ok (.isub, 1) := by decide +kernel
theorem dX10_grow_45 : decode cX10_grow 45 = .ok (.goto 48, 3) := by decide +kernel
theorem dX10_grow_48 : decode cX10_grow 48 = .ok (.iload_n 1, 1) := by decide +kernel
theorem dX10_grow_49 : decode cX10_grow 49 = .ok (.ifCond .ne 25, 3) := by decide +kernel
theorem dX10_grow_52 : decode cX10_grow 52 = .ok (.iload_n 3, 1) := by decide +kernel
theorem dX10_grow_53 : decode cX10_grow 53 = .ok (.iconst 1, 1) := by decide +kernel
theorem dX10_grow_54 : decode cX10_grow 54 = .ok (.if_icmp .eq 12, 3) := by decide +kernel
theorem dX10_grow_57 : decode cX10_grow 57 = .ok (.aload_n 0, 1) := by decide +kernel
theorem dX10_grow_58 : decode cX10_grow 58 = .ok (.iload_n 2, 1) := by decide +kernel
theorem dX10_grow_59 : decode cX10_grow 59 = .ok (.iconst 1, 1) := by decide +kernel
theorem dX10_grow_60 : decode cX10_grow 60 = .ok (.invokevirtual 244, 3) := by decide +kernel
theorem dX10_grow_63 : decode cX10_grow 63 = .ok (.ifCond .eq 7, 3) := by decide +kernel
theorem dX10_grow_66 : decode cX10_grow 66 = .ok (.iconst 1, 1) := by decide +kernel
theorem dX10_grow_67 : decode cX10_grow 67 = .ok (.goto 26, 3) := by decide +kernel
theorem dX10_grow_70 : decode cX10_grow 70 = .ok (.iconst 0, 1) := by decide +kernel
theorem dX10_grow_71 : decode cX10_grow 71 = .ok (.goto 22, 3) := by decide +kernel
theorem dX10_grow_74 : decode cX10_grow 74 = .ok (.iload_n 3, 1) := by decide +kernel
theorem dX10_grow_75 : decode cX10_grow 75 = .ok (.iconst 1, 1) := by decide +kernel
theorem dX10_grow_76 : decode cX10_grow 76 = .ok (.if_icmp .ne 16, 3) := by decide +kernel
theorem dX10_grow_79 : decode cX10_grow 79 = .ok (.aload_n 0, 1) := by decide +kernel
theorem dX10_grow_80 : decode cX10_grow 80 = .ok (.iload_n 2, 1) := by decide +kernel
theorem dX10_grow_81 : decode cX10_grow 81 = .ok (.iconst 0, 1) := by decide +kernel
theorem dX10_grow_82 : decode cX10_grow 82 = .ok (.invokevirtual 244, 3) := by decide +kernel
theorem dX10_grow_85 : decode cX10_grow 85 = .ok (.ifCond .ne 7, 3) := by decide +kernel
theorem dX10_grow_88 : decode cX10_grow 88 = .ok (.iconst 1, 1) := by decide +kernel
theorem dX10_grow_89 : decode cX10_grow 89 = .ok (.goto 4, 3) := by decide +kernel
theorem dX10_grow_92 : decode cX10_grow 92 = .ok (.iconst 0, 1) := by decide +kernel
theorem dX10_grow_93 : decode cX10_grow 93 = .ok (.iastore, 1) := by decide +kernel
theorem dX10_grow_94 : decode cX10_grow 94 = .ok (.iinc 2 1, 3) := by decide +kernel
theorem dX10_grow_97 : decode cX10_grow 97 = .ok (.goto (-83), 3) := by decide +kernel
theorem dX10_grow_100 : decode cX10_grow 100 = .ok (.aload_n 0, 1) := by decide +kernel
theorem dX10_grow_101 : decode cX10_grow 101 = .ok (.iconst 0, 1) := by decide +kernel
theorem dX10_grow_102 : decode cX10_grow 102 = .ok (.invokevirtual 241, 3) := by decide +kernel
theorem dX10_grow_105 : decode cX10_grow 105 = .ok (.ireturn, 1) := by decide +kernel
theorem dX10_masked__0 : decode cX10_masked_ 0 = .ok (.iload_n 1, 1) := by decide +kernel
theorem dX10_masked__1 : decode cX10_masked_ 1 = .ok (.iconst 0, 1) := by decide +kernel
theorem dX10_masked__2 : decode cX10_masked_ 2 = .ok (.bipush 11, 2) := by decide +kernel
theorem dX10_masked__4 : decode cX10_masked_ 4 = .ok (.invokestatic 43, 3) := by decide +kernel
theorem dX10_masked__7 : decode cX10_masked_ 7 = .ok (.ifCond .ne 6, 3) := by decide +kernel
theorem dX10_masked__10 : decode cX10_masked_ 10 = .ok (.bipush (-2), 2) := by decide +kernel
theorem dX10_masked__12 : decode cX10_masked_ 12 = .ok (.ireturn, 1) := by decide +kernel
theorem dX10_masked__13 : decode cX10_masked_ 13 = .ok (.iconst 0, 1) := by decide +kernel
theorem dX10_masked__14 : decode cX10_masked_ 14 = .ok (.istore_n 2, 1) := by decide +kernel
theorem dX10_masked__15 : decode cX10_masked_ 15 = .ok (.iconst 0, 1) := by decide +kernel
theorem dX10_masked__16 : decode cX10_masked_ 16 = .ok (.istore_n 3, 1) := by decide +kernel
theorem dX10_masked__17 : decode cX10_masked_ 17 = .ok (.iload_n 3, 1) := by decide +kernel
theorem dX10_masked__18 : decode cX10_masked_ 18 = .ok (.bipush 16, 2) := by decide +kernel
theorem dX10_masked__20 : decode cX10_masked_ 20 = .ok (.if_icmp .ge 28, 3) := by decide +kernel
theorem dX10_masked__23 : decode cX10_masked_ 23 = .ok (.iload_n 2, 1) := by decide +kernel
theorem dX10_masked__24 : decode cX10_masked_ 24 = .ok (.aload_n 0, 1) := by decide +kernel
theorem dX10_masked__25 : decode cX10_masked_ 25 = .ok (.getfield 9, 3) := by decide +kernel
theorem dX10_masked__28 : decode cX10_masked_ 28 = .ok (.sipush 1556, 3) := by decide +kernel
theorem dX10_masked__31 : decode cX10_masked_ 31 = .ok (.iload_n 3, 1) := by decide +kernel
theorem dX10_masked__32 : decode cX10_masked_ 32 = .ok (.iload_n 1, 1) := by decide +kernel
theorem dX10_masked__33 : decode cX10_masked_ 33 = .ok (.invokestatic 97, 3) := by decide +kernel
theorem dX10_masked__36 : decode cX10_masked_ 36 = .ok (.iadd, 1) := by decide +kernel
theorem dX10_masked__37 : decode cX10_masked_ 37 = .ok (.iaload, 1) := by decide +kernel
theorem dX10_masked__38 : decode cX10_masked_ 38 = .ok (.iload_n 3, 1) := by decide +kernel
theorem dX10_masked__39 : decode cX10_masked_ 39 = .ok (.ishl, 1) := by decide +kernel
theorem dX10_masked__40 : decode cX10_masked_ 40 = .ok (.ior, 1) := by decide +kernel
theorem dX10_masked__41 : decode cX10_masked_ 41 = .ok (.istore_n 2, 1) := by decide +kernel
theorem dX10_masked__42 : decode cX10_masked_ 42 = .ok (.iinc 3 1, 3) := by decide +kernel
theorem dX10_masked__45 : decode cX10_masked_ 45 = .ok (.goto (-28), 3) := by decide +kernel
theorem dX10_masked__48 : decode cX10_masked_ 48 = .ok (.iload_n 2, 1) := by decide +kernel
theorem dX10_masked__49 : decode cX10_masked_ 49 = .ok (.ireturn, 1) := by decide +kernel
theorem dX10_leaves_0 : decode cX10_leaves 0 = .ok (.iload_n 1, 1) := by decide +kernel
theorem dX10_leaves_1 : decode cX10_leaves 1 = .ok (.iload_n 2, 1) := by decide +kernel
theorem dX10_leaves_2 : decode cX10_leaves 2 = .ok (.invokestatic 93, 3) := by decide +kernel
theorem dX10_leaves_5 : decode cX10_leaves 5 = .ok (.ifCond .eq 17, 3) := by decide +kernel
theorem dX10_leaves_8 : decode cX10_leaves 8 = .ok (.aload_n 0, 1) := by decide +kernel
theorem dX10_leaves_9 : decode cX10_leaves 9 = .ok (.getfield 28, 3) := by decide +kernel
theorem dX10_leaves_12 : decode cX10_leaves 12 = .ok (.iload_n 1, 1) := by decide +kernel
theorem dX10_leaves_13 : decode cX10_leaves 13 = .ok (.iload_n 2, 1) := by decide +kernel
theorem dX10_leaves_14 : decode cX10_leaves 14 = .ok (.invokestatic 97, 3) := by decide +kernel
theorem dX10_leaves_17 : decode cX10_leaves 17 = .ok (.dup2, 1) := by decide +kernel
theorem dX10_leaves_18 : decode cX10_leaves 18 = .ok (.iaload, 1) := by decide +kernel
theorem dX10_leaves_19 : decode cX10_leaves 19 = .ok (.iload_n 3, 1) := by decide +kernel
theorem dX10_leaves_20 : decode cX10_leaves 20 = .ok (.iadd, 1) := by decide +kernel
theorem dX10_leaves_21 : decode cX10_leaves 21 = .ok (.iastore, 1) := by decide +kernel
theorem dX10_leaves_22 : decode cX10_leaves 22 = .ok (.return_, 1) := by decide +kernel
theorem dX10_diffused_0 : decode cX10_diffused 0 = .ok (.iconst 0, 1) := by decide +kernel
theorem dX10_diffused_1 : decode cX10_diffused 1 = .ok (.istore_n 2, 1) := by decide +kernel
theorem dX10_diffused_2 : decode cX10_diffused 2 = .ok (.iload_n 2, 1) := by decide +kernel
theorem dX10_diffused_3 : decode cX10_diffused 3 = .ok (.sipush 192, 3) := by decide +kernel
theorem dX10_diffused_6 : decode cX10_diffused 6 = .ok (.if_icmp .ge 16, 3) := by decide +kernel
theorem dX10_diffused_9 : decode cX10_diffused 9 = .ok (.aload_n 0, 1) := by decide +kernel
theorem dX10_diffused_10 : decode cX10_diffused 10 = .ok (.getfield 28, 3) := by decide +kernel
theorem dX10_diffused_13 : decode cX10_diffused 13 = .ok (.iload_n 2, 1) := by decide +kernel
theorem dX10_diffused_14 : decode cX10_diffused 14 = .ok (.iconst 0, 1) := by decide +kernel
theorem dX10_diffused_15 : decode cX10_diffused 15 = .ok (.iastore, 1) := by decide +kernel
theorem dX10_diffused_16 : decode cX10_diffused 16 = .ok (.iinc 2 1, 3) := by decide +kernel
theorem dX10_diffused_19 : decode cX10_diffused 19 = .ok (.goto (-17), 3) := by decide +kernel
theorem dX10_diffused_22 : decode cX10_diffused 22 = .ok (.iconst 0, 1) := by decide +kernel
theorem dX10_diffused_23 : decode cX10_diffused 23 = .ok (.istore_n 2, 1) := by decide +kernel
theorem dX10_diffused_24 : decode cX10_diffused 24 = .ok (.iconst 0, 1) := by decide +kernel
theorem dX10_diffused_25 : decode cX10_diffused 25 = .ok (.istore_n 3, 1) := by decide +kernel
theorem dX10_diffused_26 : decode cX10_diffused 26 = .ok (.iload_n 3, 1) := by decide +kernel
theorem dX10_diffused_27 : decode cX10_diffused 27 = .ok (.iload_n 1, 1) := by decide +kernel
theorem dX10_diffused_28 : decode cX10_diffused 28 = .ok (.if_icmp .gt 161, 3) := by decide +kernel
theorem dX10_diffused_31 : decode cX10_diffused 31 = .ok (.iconst 0, 1) := by decide +kernel
theorem dX10_diffused_32 : decode cX10_diffused 32 = .ok (.istore 4, 2) := by decide +kernel
theorem dX10_diffused_34 : decode cX10_diffused 34 = .ok (.iload 4, 2) := by decide +kernel
theorem dX10_diffused_36 : decode cX10_diffused 36 = .ok (.bipush 16, 2) := by decide +kernel
theorem dX10_diffused_38 : decode cX10_diffused 38 = .ok (.if_icmp .ge 145, 3) := by decide +kernel
theorem dX10_diffused_41 : decode cX10_diffused 41 = .ok (.aload_n 0, 1) := by decide +kernel
theorem dX10_diffused_42 : decode cX10_diffused 42 = .ok (.iload 4, 2) := by decide +kernel
theorem dX10_diffused_44 : decode cX10_diffused 44 = .ok (.iload_n 3, 1) := by decide +kernel
theorem dX10_diffused_45 : decode cX10_diffused 45 = .ok (.invokestatic 97, 3) := by decide +kernel
theorem dX10_diffused_48 : decode cX10_diffused 48 = .ok (.invokevirtual 100, 3) := by decide +kernel
theorem dX10_diffused_51 : decode cX10_diffused 51 = .ok (.aload_n 0, 1) := by decide +kernel
theorem dX10_diffused_52 : decode cX10_diffused 52 = .ok (.getfield 28, 3) := by decide +kernel
theorem dX10_diffused_55 : decode cX10_diffused 55 = .ok (.iload 4, 2) := by decide +kernel
theorem dX10_diffused_57 : decode cX10_diffused 57 = .ok (.iload_n 3, 1) := by decide +kernel
theorem dX10_diffused_58 : decode cX10_diffused 58 = .ok (.invokestatic 97, 3) := by decide +kernel
theorem dX10_diffused_61 : decode cX10_diffused 61 = .ok (.iaload, 1) := by decide +kernel
theorem dX10_diffused_62 : decode cX10_diffused 62 = .ok (.iadd, 1) := by decide +kernel
theorem dX10_diffused_63 : decode cX10_diffused 63 = .ok (.istore 5, 2) := by decide +kernel
theorem dX10_diffused_65 : decode cX10_diffused 65 = .ok (.iload_n 2, 1) := by decide +kernel
theorem dX10_diffused_66 : decode cX10_diffused 66 = .ok (.iload 5, 2) := by decide +kernel
theorem dX10_diffused_68 : decode cX10_diffused 68 = .ok (.sipush 128, 3) := by decide +kernel
theorem dX10_diffused_71 : decode cX10_diffused 71 = .ok (.if_icmp .lt 15, 3) := by decide +kernel
theorem dX10_diffused_74 : decode cX10_diffused 74 = .ok (.iload_n 3, 1) := by decide +kernel
theorem dX10_diffused_75 : decode cX10_diffused 75 = .ok (.iload_n 1, 1) := by decide +kernel
theorem dX10_diffused_76 : decode cX10_diffused 76 = .ok (.if_icmp .ne 10, 3) := by decide +kernel
theorem dX10_diffused_79 : decode cX10_diffused 79 = .ok (.iconst 1, 1) := by decide +kernel
theorem dX10_diffused_80 : decode cX10_diffused 80 = .ok (.iload 4, 2) := by decide +kernel
theorem dX10_diffused_82 : decode cX10_diffused 82 = .ok (.ishl, 1) := by decide +kernel
theorem dX10_diffused_83 : decode cX10_diffused 83 = .ok (.goto 4, 3) := by decide +kernel
theorem dX10_diffused_86 : decode cX10_diffused 86 = .ok (.iconst 0, 1) := by decide +kernel
theorem dX10_diffused_87 : decode cX10_diffused 87 = .ok (.ior, 1) := by decide +kernel
theorem dX10_diffused_88 : decode cX10_diffused 88 = .ok (.istore_n 2, 1) := by decide +kernel
theorem dX10_diffused_89 : decode cX10_diffused 89 = .ok (.iload 5, 2) := by decide +kernel
theorem dX10_diffused_91 : decode cX10_diffused 91 = .ok (.sipush 128, 3) := by decide +kernel
theorem dX10_diffused_94 : decode cX10_diffused 94 = .ok (.if_icmp .lt 12, 3) := by decide +kernel
theorem dX10_diffused_97 : decode cX10_diffused 97 = .ok (.iload 5, 2) := by decide +kernel
theorem dX10_diffused_99 : decode cX10_diffused 99 = .ok (.sipush 255, 3) := by decide +kernel
theorem dX10_diffused_102 : decode cX10_diffused 102 = .ok (.isub, 1) := by decide +kernel
theorem dX10_diffused_103 : decode cX10_diffused 103 = .ok (.goto 5, 3) := by decide +kernel
theorem dX10_diffused_106 : decode cX10_diffused 106 = .ok (.iload 5, 2) := by decide +kernel
theorem dX10_diffused_108 : decode cX10_diffused 108 = .ok (.istore 6, 2) := by decide +kernel
theorem dX10_diffused_110 : decode cX10_diffused 110 = .ok (.aload_n 0, 1) := by decide +kernel
theorem dX10_diffused_111 : decode cX10_diffused 111 = .ok (.iload 4, 2) := by decide +kernel
theorem dX10_diffused_113 : decode cX10_diffused 113 = .ok (.iconst 1, 1) := by decide +kernel
theorem dX10_diffused_114 : decode cX10_diffused 114 = .ok (.iadd, 1) := by decide +kernel
theorem dX10_diffused_115 : decode cX10_diffused 115 = .ok (.iload_n 3, 1) := by decide +kernel
theorem dX10_diffused_116 : decode cX10_diffused 116 = .ok (.bipush 7, 2) := by decide +kernel
theorem dX10_diffused_118 : decode cX10_diffused 118 = .ok (.iload 6, 2) := by decide +kernel
theorem dX10_diffused_120 : decode cX10_diffused 120 = .ok (.imul, 1) := by decide +kernel
theorem dX10_diffused_121 : decode cX10_diffused 121 = .ok (.bipush 16, 2) := by decide +kernel
theorem dX10_diffused_123 : decode cX10_diffused 123 = .ok (.idiv, 1) := by decide +kernel
theorem dX10_diffused_124 : decode cX10_diffused 124 = .ok (.invokevirtual 247, 3) := by decide +kernel
theorem dX10_diffused_127 : decode cX10_diffused 127 = .ok (.aload_n 0, 1) := by decide +kernel
theorem dX10_diffused_128 : decode cX10_diffused 128 = .ok (.iload 4, 2) := by decide +kernel
theorem dX10_diffused_130 : decode cX10_diffused 130 = .ok (.iconst 1, 1) := by decide +kernel
theorem dX10_diffused_131 : decode cX10_diffused 131 = .ok (.isub, 1) := by decide +kernel
theorem dX10_diffused_132 : decode cX10_diffused 132 = .ok (.iload_n 3, 1) := by decide +kernel
theorem dX10_diffused_133 : decode cX10_diffused 133 = .ok (.iconst 1, 1) := by decide +kernel
theorem dX10_diffused_134 : decode cX10_diffused 134 = .ok (.iadd, 1) := by decide +kernel
theorem dX10_diffused_135 : decode cX10_diffused 135 = .ok (.iconst 3, 1) := by decide +kernel
theorem dX10_diffused_136 : decode cX10_diffused 136 = .ok (.iload 6, 2) := by decide +kernel
theorem dX10_diffused_138 : decode cX10_diffused 138 = .ok (.imul, 1) := by decide +kernel
theorem dX10_diffused_139 : decode cX10_diffused 139 = .ok (.bipush 16, 2) := by decide +kernel
theorem dX10_diffused_141 : decode cX10_diffused 141 = .ok (.idiv, 1) := by decide +kernel
theorem dX10_diffused_142 : decode cX10_diffused 142 = .ok (.invokevirtual 247, 3) := by decide +kernel
theorem dX10_diffused_145 : decode cX10_diffused 145 = .ok (.aload_n 0, 1) := by decide +kernel
theorem dX10_diffused_146 : decode cX10_diffused 146 = .ok (.iload 4, 2) := by decide +kernel
theorem dX10_diffused_148 : decode cX10_diffused 148 = .ok (.iload_n 3, 1) := by decide +kernel
theorem dX10_diffused_149 : decode cX10_diffused 149 = .ok (.iconst 1, 1) := by decide +kernel
theorem dX10_diffused_150 : decode cX10_diffused 150 = .ok (.iadd, 1) := by decide +kernel
theorem dX10_diffused_151 : decode cX10_diffused 151 = .ok (.iconst 5, 1) := by decide +kernel
theorem dX10_diffused_152 : decode cX10_diffused 152 = .ok (.iload 6, 2) := by decide +kernel
theorem dX10_diffused_154 : decode cX10_diffused 154 = .ok (.imul, 1) := by decide +kernel
theorem dX10_diffused_155 : decode cX10_diffused 155 = .ok (.bipush 16, 2) := by decide +kernel
theorem dX10_diffused_157 : decode cX10_diffused 157 = .ok (.idiv, 1) := by decide +kernel
theorem dX10_diffused_158 : decode cX10_diffused 158 = .ok (.invokevirtual 247, 3) := by decide +kernel
theorem dX10_diffused_161 : decode cX10_diffused 161 = .ok (.aload_n 0, 1) := by decide +kernel
theorem dX10_diffused_162 : decode cX10_diffused 162 = .ok (.iload 4, 2) := by decide +kernel
theorem dX10_diffused_164 : decode cX10_diffused 164 = .ok (.iconst 1, 1) := by decide +kernel
theorem dX10_diffused_165 : decode cX10_diffused 165 = .ok (.iadd, 1) := by decide +kernel
theorem dX10_diffused_166 : decode cX10_diffused 166 = .ok (.iload_n 3, 1) := by decide +kernel
theorem dX10_diffused_167 : decode cX10_diffused 167 = .ok (.iconst 1, 1) := by decide +kernel
theorem dX10_diffused_168 : decode cX10_diffused 168 = .ok (.iadd, 1) := by decide +kernel
theorem dX10_diffused_169 : decode cX10_diffused 169 = .ok (.iload 6, 2) := by decide +kernel
theorem dX10_diffused_171 : decode cX10_diffused 171 = .ok (.bipush 16, 2) := by decide +kernel
theorem dX10_diffused_173 : decode cX10_diffused 173 = .ok (.idiv, 1) := by decide +kernel
theorem dX10_diffused_174 : decode cX10_diffused 174 = .ok (.invokevirtual 247, 3) := by decide +kernel
theorem dX10_diffused_177 : decode cX10_diffused 177 = .ok (.iinc 4 1, 3) := by decide +kernel
theorem dX10_diffused_180 : decode cX10_diffused 180 = .ok (.goto (-146), 3) := by decide +kernel
theorem dX10_diffused_183 : decode cX10_diffused 183 = .ok (.iinc 3 1, 3) := by decide +kernel
theorem dX10_diffused_186 : decode cX10_diffused 186 = .ok (.goto (-160), 3) := by decide +kernel
theorem dX10_diffused_189 : decode cX10_diffused 189 = .ok (.iload_n 2, 1) := by decide +kernel
theorem dX10_diffused_190 : decode cX10_diffused 190 = .ok (.ireturn, 1) := by decide +kernel
theorem dX10_dither_0 : decode cX10_dither 0 = .ok (.iload_n 1, 1) := by decide +kernel
theorem dX10_dither_1 : decode cX10_dither 1 = .ok (.iconst 0, 1) := by decide +kernel
theorem dX10_dither_2 : decode cX10_dither 2 = .ok (.iconst 1, 1) := by decide +kernel
theorem dX10_dither_3 : decode cX10_dither 3 = .ok (.invokestatic 43, 3) := by decide +kernel
theorem dX10_dither_6 : decode cX10_dither 6 = .ok (.ifCond .eq 13, 3) := by decide +kernel
theorem dX10_dither_9 : decode cX10_dither 9 = .ok (.iload_n 2, 1) := by decide +kernel
theorem dX10_dither_10 : decode cX10_dither 10 = .ok (.iconst 0, 1) := by decide +kernel
theorem dX10_dither_11 : decode cX10_dither 11 = .ok (.bipush 11, 2) := by decide +kernel
theorem dX10_dither_13 : decode cX10_dither 13 = .ok (.invokestatic 43, 3) := by decide +kernel
theorem dX10_dither_16 : decode cX10_dither 16 = .ok (.ifCond .ne 6, 3) := by decide +kernel
theorem dX10_dither_19 : decode cX10_dither 19 = .ok (.bipush (-2), 2) := by decide +kernel
theorem dX10_dither_21 : decode cX10_dither 21 = .ok (.ireturn, 1) := by decide +kernel
theorem dX10_dither_22 : decode cX10_dither 22 = .ok (.iload_n 1, 1) := by decide +kernel
theorem dX10_dither_23 : decode cX10_dither 23 = .ok (.ifCond .ne 9, 3) := by decide +kernel
theorem dX10_dither_26 : decode cX10_dither 26 = .ok (.aload_n 0, 1) := by decide +kernel
theorem dX10_dither_27 : decode cX10_dither 27 = .ok (.iload_n 2, 1) := by decide +kernel
theorem dX10_dither_28 : decode cX10_dither 28 = .ok (.invokevirtual 250, 3) := by decide +kernel
theorem dX10_dither_31 : decode cX10_dither 31 = .ok (.ireturn, 1) := by decide +kernel
theorem dX10_dither_32 : decode cX10_dither 32 = .ok (.iconst 0, 1) := by decide +kernel
theorem dX10_dither_33 : decode cX10_dither 33 = .ok (.istore_n 3, 1) := by decide +kernel
theorem dX10_dither_34 : decode cX10_dither 34 = .ok (.iconst 0, 1) := by decide +kernel
theorem dX10_dither_35 : decode cX10_dither 35 = .ok (.istore 4, 2) := by decide +kernel
theorem dX10_dither_37 : decode cX10_dither 37 = .ok (.iload 4, 2) := by decide +kernel
theorem dX10_dither_39 : decode cX10_dither 39 = .ok (.bipush 16, 2) := by decide +kernel
theorem dX10_dither_41 : decode cX10_dither 41 = .ok (.if_icmp .ge 53, 3) := by decide +kernel
theorem dX10_dither_44 : decode cX10_dither 44 = .ok (.iload_n 3, 1) := by decide +kernel
theorem dX10_dither_45 : decode cX10_dither 45 = .ok (.aload_n 0, 1) := by decide +kernel
theorem dX10_dither_46 : decode cX10_dither 46 = .ok (.iload 4, 2) := by decide +kernel
theorem dX10_dither_48 : decode cX10_dither 48 = .ok (.iload_n 2, 1) := by decide +kernel
theorem dX10_dither_49 : decode cX10_dither 49 = .ok (.invokestatic 97, 3) := by decide +kernel
theorem dX10_dither_52 : decode cX10_dither 52 = .ok (.invokevirtual 100, 3) := by decide +kernel
theorem dX10_dither_55 : decode cX10_dither 55 = .ok (.bipush 16, 2) := by decide +kernel
theorem dX10_dither_57 : decode cX10_dither 57 = .ok (.getstatic 253, 3) := by decide +kernel
theorem dX10_dither_60 : decode cX10_dither 60 = .ok (.iconst 4, 1) := by decide +kernel
theorem dX10_dither_61 : decode cX10_dither 61 = .ok (.iload_n 2, 1) := by decide +kernel
theorem dX10_dither_62 : decode cX10_dither 62 = .ok (.iconst 4, 1) := by decide +kernel
theorem dX10_dither_63 : decode cX10_dither 63 = .ok (.irem, 1) := by decide +kernel
theorem dX10_dither_64 : decode cX10_dither 64 = .ok (.imul, 1) := by decide +kernel
theorem dX10_dither_65 : decode cX10_dither 65 = .ok (.iload 4, 2) := by decide +kernel
theorem dX10_dither_67 : decode cX10_dither 67 = .ok (.iconst 4, 1) := by decide +kernel
theorem dX10_dither_68 : decode cX10_dither 68 = .ok (.irem, 1) := by decide +kernel
theorem dX10_dither_69 : decode cX10_dither 69 = .ok (.iadd, 1) := by decide +kernel
theorem dX10_dither_70 : decode cX10_dither 70 = .ok (.iaload, 1) := by decide +kernel
theorem dX10_dither_71 : decode cX10_dither 71 = .ok (.imul, 1) := by decide +kernel
theorem dX10_dither_72 : decode cX10_dither 72 = .ok (.bipush 7, 2) := by decide +kernel
theorem dX10_dither_74 : decode cX10_dither 74 = .ok (.iadd, 1) := by decide +kernel
theorem dX10_dither_75 : decode cX10_dither 75 = .ok (.if_icmp .le 10, 3) := by decide +kernel
theorem dX10_dither_78 : decode cX10_dither 78 = .ok (.iconst 1, 1) := by decide +kernel
theorem dX10_dither_79 : decode cX10_dither 79 = .ok (.iload 4, 2) := by decide +kernel
theorem dX10_dither_81 : decode cX10_dither 81 = .ok (.ishl, 1) := by decide +kernel
theorem dX10_dither_82 : decode cX10_dither 82 = .ok (.goto 4, 3) := by decide +kernel
theorem dX10_dither_85 : decode cX10_dither 85 = .ok (.iconst 0, 1) := by decide +kernel
theorem dX10_dither_86 : decode cX10_dither 86 = .ok (.ior, 1) := by decide +kernel
theorem dX10_dither_87 : decode cX10_dither 87 = .ok (.istore_n 3, 1) := by decide +kernel
theorem dX10_dither_88 : decode cX10_dither 88 = .ok (.iinc 4 1, 3) := by decide +kernel
theorem dX10_dither_91 : decode cX10_dither 91 = .ok (.goto (-54), 3) := by decide +kernel
theorem dX10_dither_94 : decode cX10_dither 94 = .ok (.iload_n 3, 1) := by decide +kernel
theorem dX10_dither_95 : decode cX10_dither 95 = .ok (.ireturn, 1) := by decide +kernel
theorem dX10_area_0 : decode cX10_area 0 = .ok (.aload_n 0, 1) := by decide +kernel
theorem dX10_area_1 : decode cX10_area 1 = .ok (.getfield 31, 3) := by decide +kernel
theorem dX10_area_4 : decode cX10_area 4 = .ok (.iload_n 1, 1) := by decide +kernel
theorem dX10_area_5 : decode cX10_area 5 = .ok (.iaload, 1) := by decide +kernel
theorem dX10_area_6 : decode cX10_area 6 = .ok (.istore_n 2, 1) := by decide +kernel
theorem dX10_area_7 : decode cX10_area 7 = .ok (.aload_n 0, 1) := by decide +kernel
theorem dX10_area_8 : decode cX10_area 8 = .ok (.getfield 25, 3) := by decide +kernel
theorem dX10_area_11 : decode cX10_area 11 = .ok (.iconst 0, 1) := by decide +kernel
theorem dX10_area_12 : decode cX10_area 12 = .ok (.iload_n 1, 1) := by decide +kernel
theorem dX10_area_13 : decode cX10_area 13 = .ok (.iastore, 1) := by decide +kernel
theorem dX10_area_14 : decode cX10_area 14 = .ok (.aload_n 0, 1) := by decide +kernel
theorem dX10_area_15 : decode cX10_area 15 = .ok (.getfield 31, 3) := by decide +kernel
theorem dX10_area_18 : decode cX10_area 18 = .ok (.iload_n 1, 1) := by decide +kernel
theorem dX10_area_19 : decode cX10_area 19 = .ok (.iconst (-1), 1) := by decide +kernel
theorem dX10_area_20 : decode cX10_area 20 = .ok (.iastore, 1) := by decide +kernel
theorem dX10_area_21 : decode cX10_area 21 = .ok (.iconst 1, 1) := by decide +kernel
theorem dX10_area_22 : decode cX10_area 22 = .ok (.istore_n 3, 1) := by decide +kernel
theorem dX10_area_23 : decode cX10_area 23 = .ok (.iconst 0, 1) := by decide +kernel
theorem dX10_area_24 : decode cX10_area 24 = .ok (.istore 4, 2) := by decide +kernel
theorem dX10_area_26 : decode cX10_area 26 = .ok (.iload 4, 2) := by decide +kernel
theorem dX10_area_28 : decode cX10_area 28 = .ok (.iload_n 3, 1) := by decide +kernel
theorem dX10_area_29 : decode cX10_area 29 = .ok (.if_icmp .ge 76, 3) := by decide +kernel
theorem dX10_area_32 : decode cX10_area 32 = .ok (.iconst 0, 1) := by decide +kernel
theorem dX10_area_33 : decode cX10_area 33 = .ok (.istore 5, 2) := by decide +kernel
theorem dX10_area_35 : decode cX10_area 35 = .ok (.iload 5, 2) := by decide +kernel
theorem dX10_area_37 : decode cX10_area 37 = .ok (.iconst 4, 1) := by decide +kernel
theorem dX10_area_38 : decode cX10_area 38 = .ok (.if_icmp .ge 61, 3) := by decide +kernel
theorem dX10_area_41 : decode cX10_area 41 = .ok (.aload_n 0, 1) := by decide +kernel
theorem dX10_area_42 : decode cX10_area 42 = .ok (.getfield 25, 3) := by decide +kernel
theorem dX10_area_45 : decode cX10_area 45 = .ok (.iload 4, 2) := by decide +kernel
theorem dX10_area_47 : decode cX10_area 47 = .ok (.iaload, 1) := by decide +kernel
theorem dX10_area_48 : decode cX10_area 48 = .ok (.iload 5, 2) := by decide +kernel
theorem dX10_area_50 : decode cX10_area 50 = .ok (.invokestatic 221, 3) := by decide +kernel
theorem dX10_area_53 : decode cX10_area 53 = .ok (.istore 6, 2) := by decide +kernel
theorem dX10_area_55 : decode cX10_area 55 = .ok (.iload 6, 2) := by decide +kernel
theorem dX10_area_57 : decode cX10_area 57 = .ok (.ifCond .lt 36, 3) := by decide +kernel
theorem dX10_area_60 : decode cX10_area 60 = .ok (.aload_n 0, 1) := by decide +kernel
theorem dX10_area_61 : decode cX10_area 61 = .ok (.getfield 31, 3) := by decide +kernel
theorem dX10_area_64 : decode cX10_area 64 = .ok (.iload 6, 2) := by decide +kernel
theorem dX10_area_66 : decode cX10_area 66 = .ok (.iaload, 1) := by decide +kernel
theorem dX10_area_67 : decode cX10_area 67 = .ok (.iload_n 2, 1) := by decide +kernel
theorem dX10_area_68 : decode cX10_area 68 = .ok (.if_icmp .eq 6, 3) := by decide +kernel
theorem dX10_area_71 : decode cX10_area 71 = .ok (.goto 22, 3) := by decide +kernel
theorem dX10_area_74 : decode cX10_area 74 = .ok (.aload_n 0, 1) := by decide +kernel
theorem dX10_area_75 : decode cX10_area 75 = .ok (.getfield 31, 3) := by decide +kernel
theorem dX10_area_78 : decode cX10_area 78 = .ok (.iload 6, 2) := by decide +kernel
theorem dX10_area_80 : decode cX10_area 80 = .ok (.iconst (-1), 1) := by decide +kernel
theorem dX10_area_81 : decode cX10_area 81 = .ok (.iastore, 1) := by decide +kernel
theorem dX10_area_82 : decode cX10_area 82 = .ok (.aload_n 0, 1) := by decide +kernel
theorem dX10_area_83 : decode cX10_area 83 = .ok (.getfield 25, 3) := by decide +kernel
theorem dX10_area_86 : decode cX10_area 86 = .ok (.iload_n 3, 1) := by decide +kernel
theorem dX10_area_87 : decode cX10_area 87 = .ok (.iload 6, 2) := by decide +kernel
theorem dX10_area_89 : decode cX10_area 89 = .ok (.iastore, 1) := by decide +kernel
theorem dX10_area_90 : decode cX10_area 90 = .ok (.iinc 3 1, 3) := by decide +kernel
theorem dX10_area_93 : decode cX10_area 93 = .ok (.iinc 5 1, 3) := by decide +kernel
theorem dX10_area_96 : decode cX10_area 96 = .ok (.goto (-61), 3) := by decide +kernel
theorem dX10_area_99 : decode cX10_area 99 = .ok (.iinc 4 1, 3) := by decide +kernel
theorem dX10_area_102 : decode cX10_area 102 = .ok (.goto (-76), 3) := by decide +kernel
theorem dX10_area_105 : decode cX10_area 105 = .ok (.iload_n 3, 1) := by decide +kernel
theorem dX10_area_106 : decode cX10_area 106 = .ok (.ireturn, 1) := by decide +kernel
theorem dX10_areas_0 : decode cX10_areas 0 = .ok (.iload_n 1, 1) := by decide +kernel
theorem dX10_areas_1 : decode cX10_areas 1 = .ok (.iconst 0, 1) := by decide +kernel
theorem dX10_areas_2 : decode cX10_areas 2 = .ok (.iconst 2, 1) := by decide +kernel
theorem dX10_areas_3 : decode cX10_areas 3 = .ok (.invokestatic 43, 3) := by decide +kernel
theorem dX10_areas_6 : decode cX10_areas 6 = .ok (.ifCond .ne 6, 3) := by decide +kernel
theorem dX10_areas_9 : decode cX10_areas 9 = .ok (.bipush (-2), 2) := by decide +kernel
theorem dX10_areas_11 : decode cX10_areas 11 = .ok (.ireturn, 1) := by decide +kernel
theorem dX10_areas_12 : decode cX10_areas 12 = .ok (.iconst 0, 1) := by decide +kernel
theorem dX10_areas_13 : decode cX10_areas 13 = .ok (.istore_n 2, 1) := by decide +kernel
theorem dX10_areas_14 : decode cX10_areas 14 = .ok (.iload_n 2, 1) := by decide +kernel
theorem dX10_areas_15 : decode cX10_areas 15 = .ok (.sipush 192, 3) := by decide +kernel
theorem dX10_areas_18 : decode cX10_areas 18 = .ok (.if_icmp .ge 20, 3) := by decide +kernel
theorem dX10_areas_21 : decode cX10_areas 21 = .ok (.aload_n 0, 1) := by decide +kernel
theorem dX10_areas_22 : decode cX10_areas 22 = .ok (.getfield 31, 3) := by decide +kernel
theorem dX10_areas_25 : decode cX10_areas 25 = .ok (.iload_n 2, 1) := by decide +kernel
theorem dX10_areas_26 : decode cX10_areas 26 = .ok (.aload_n 0, 1) := by decide +kernel
theorem dX10_areas_27 : decode cX10_areas 27 = .ok (.iload_n 2, 1) := by decide +kernel
theorem dX10_areas_28 : decode cX10_areas 28 = .ok (.invokevirtual 100, 3) := by decide +kernel
theorem dX10_areas_31 : decode cX10_areas 31 = .ok (.iastore, 1) := by decide +kernel
theorem dX10_areas_32 : decode cX10_areas 32 = .ok (.iinc 2 1, 3) := by decide +kernel
theorem dX10_areas_35 : decode cX10_areas 35 = .ok (.goto (-21), 3) := by decide +kernel
theorem dX10_areas_38 : decode cX10_areas 38 = .ok (.iconst 0, 1) := by decide +kernel
theorem dX10_areas_39 : decode cX10_areas 39 = .ok (.istore_n 2, 1) := by decide +kernel
theorem dX10_areas_40 : decode cX10_areas 40 = .ok (.iconst 0, 1) := by decide +kernel
theorem dX10_areas_41 : decode cX10_areas 41 = .ok (.istore_n 3, 1) := by decide +kernel
theorem dX10_areas_42 : decode cX10_areas 42 = .ok (.iconst 0, 1) := by decide +kernel
theorem dX10_areas_43 : decode cX10_areas 43 = .ok (.istore 4, 2) := by decide +kernel
theorem dX10_areas_45 : decode cX10_areas 45 = .ok (.iconst 0, 1) := by decide +kernel
theorem dX10_areas_46 : decode cX10_areas 46 = .ok (.istore 5, 2) := by decide +kernel
theorem dX10_areas_48 : decode cX10_areas 48 = .ok (.iload 5, 2) := by decide +kernel
theorem dX10_areas_50 : decode cX10_areas 50 = .ok (.sipush 192, 3) := by decide +kernel
theorem dX10_areas_53 : decode cX10_areas 53 = .ok (.if_icmp .ge 65, 3) := by decide +kernel
theorem dX10_areas_56 : decode cX10_areas 56 = .ok (.aload_n 0, 1) := by decide +kernel
theorem dX10_areas_57 : decode cX10_areas 57 = .ok (.getfield 31, 3) := by decide +kernel
theorem dX10_areas_60 : decode cX10_areas 60 = .ok (.iload 5, 2) := by decide +kernel
theorem dX10_areas_62 : decode cX10_areas 62 = .ok (.iaload, 1) := by decide +kernel
theorem dX10_areas_63 : decode cX10_areas 63 = .ok (.iconst (-1), 1) := by decide +kernel
theorem dX10_areas_64 : decode cX10_areas 64 = .ok (.if_icmp .ne 6, 3) := by decide +kernel
theorem dX10_areas_67 : decode cX10_areas 67 = .ok (.goto 45, 3) := by decide +kernel
theorem dX10_areas_70 : decode cX10_areas 70 = .ok (.aload_n 0, 1) := by decide +kernel
theorem dX10_areas_71 : decode cX10_areas 71 = .ok (.getfield 31, 3) := by decide +kernel
theorem dX10_areas_74 : decode cX10_areas 74 = .ok (.iload 5, 2) := by decide +kernel
theorem dX10_areas_76 : decode cX10_areas 76 = .ok (.iaload, 1) := by decide +kernel
theorem dX10_areas_77 : decode cX10_areas 77 = .ok (.istore 6, 2) := by decide +kernel
theorem dX10_areas_79 : decode cX10_areas 79 = .ok (.aload_n 0, 1) := by decide +kernel
theorem dX10_areas_80 : decode cX10_areas 80 = .ok (.iload 5, 2) := by decide +kernel
theorem dX10_areas_82 : decode cX10_areas 82 = .ok (.invokevirtual 256, 3) := by decide +kernel
theorem dX10_areas_85 : decode cX10_areas 85 = .ok (.istore 7, 2) := by decide +kernel
theorem dX10_areas_87 : decode cX10_areas 87 = .ok (.iload 7, 2) := by decide +kernel
theorem dX10_areas_89 : decode cX10_areas 89 = .ok (.iload_n 3, 1) := by decide +kernel
theorem dX10_areas_90 : decode cX10_areas 90 = .ok (.if_icmp .le 8, 3) := by decide +kernel
theorem dX10_areas_93 : decode cX10_areas 93 = .ok (.iload 6, 2) := by decide +kernel
theorem dX10_areas_95 : decode cX10_areas 95 = .ok (.goto 5, 3) := by decide +kernel
theorem dX10_areas_98 : decode cX10_areas 98 = .ok (.iload 4, 2) := by decide +kernel
theorem dX10_areas_100 : decode cX10_areas 100 = .ok (.istore 4, 2) := by decide +kernel
theorem dX10_areas_102 : decode cX10_areas 102 = .ok (.iload_n 3, 1) := by decide +kernel
theorem dX10_areas_103 : decode cX10_areas 103 = .ok (.iload 7, 2) := by decide +kernel
theorem dX10_areas_105 : decode cX10_areas 105 = .ok (.invokestatic 47, 3) := by decide +kernel
theorem dX10_areas_108 : decode cX10_areas 108 = .ok (.istore_n 3, 1) := by decide +kernel
theorem dX10_areas_109 : decode cX10_areas 109 = .ok (.iinc 2 1, 3) := by decide +kernel
theorem dX10_areas_112 : decode cX10_areas 112 = .ok (.iinc 5 1, 3) := by decide +kernel
theorem dX10_areas_115 : decode cX10_areas 115 = .ok (.goto (-67), 3) := by decide +kernel
theorem dX10_areas_118 : decode cX10_areas 118 = .ok (.iload_n 1, 1) := by decide +kernel
theorem dX10_areas_119 : decode cX10_areas 119 = .ok (.ifCond .ne 7, 3) := by decide +kernel
theorem dX10_areas_122 : decode cX10_areas 122 = .ok (.iload_n 2, 1) := by decide +kernel
theorem dX10_areas_123 : decode cX10_areas 123 = .ok (.goto 14, 3) := by decide +kernel
theorem dX10_areas_126 : decode cX10_areas 126 = .ok (.iload_n 1, 1) := by decide +kernel
theorem dX10_areas_127 : decode cX10_areas 127 = .ok (.iconst 1, 1) := by decide +kernel
theorem dX10_areas_128 : decode cX10_areas 128 = .ok (.if_icmp .ne 7, 3) := by decide +kernel
theorem dX10_areas_131 : decode cX10_areas 131 = .ok (.iload_n 3, 1) := by decide +kernel
theorem dX10_areas_132 : decode cX10_areas 132 = .ok (.goto 5, 3) := by decide +kernel
theorem dX10_areas_135 : decode cX10_areas 135 = .ok (.iload 4, 2) := by decide +kernel
theorem dX10_areas_137 : decode cX10_areas 137 = .ok (.ireturn, 1) := by decide +kernel
theorem dX10_comesBack_0 : decode cX10_comesBack 0 = .ok (.iconst 0, 1) := by decide +kernel
theorem dX10_comesBack_1 : decode cX10_comesBack 1 = .ok (.istore_n 2, 1) := by decide +kernel
theorem dX10_comesBack_2 : decode cX10_comesBack 2 = .ok (.iload_n 2, 1) := by decide +kernel
theorem dX10_comesBack_3 : decode cX10_comesBack 3 = .ok (.sipush 192, 3) := by decide +kernel
theorem dX10_comesBack_6 : decode cX10_comesBack 6 = .ok (.if_icmp .ge 56, 3) := by decide +kernel
theorem dX10_comesBack_9 : decode cX10_comesBack 9 = .ok (.aload_n 0, 1) := by decide +kernel
theorem dX10_comesBack_10 : decode cX10_comesBack 10 = .ok (.getfield 9, 3) := by decide +kernel
theorem dX10_comesBack_13 : decode cX10_comesBack 13 = .ok (.bipush 20, 2) := by decide +kernel
theorem dX10_comesBack_15 : decode cX10_comesBack 15 = .ok (.sipush 192, 3) := by decide +kernel
theorem dX10_comesBack_18 : decode cX10_comesBack 18 = .ok (.iload_n 1, 1) := by decide +kernel
theorem dX10_comesBack_19 : decode cX10_comesBack 19 = .ok (.imul, 1) := by decide +kernel
theorem dX10_comesBack_20 : decode cX10_comesBack 20 = .ok (.iadd, 1) := by decide +kernel
theorem dX10_comesBack_21 : decode cX10_comesBack 21 = .ok (.iload_n 2, 1) := by decide +kernel
theorem dX10_comesBack_22 : decode cX10_comesBack 22 = .ok (.iadd, 1) := by decide +kernel
theorem dX10_comesBack_23 : decode cX10_comesBack 23 = .ok (.aload_n 0, 1) := by decide +kernel
theorem dX10_comesBack_24 : decode cX10_comesBack 24 = .ok (.getfield 19, 3) := by decide +kernel
theorem dX10_comesBack_27 : decode cX10_comesBack 27 = .ok (.iload_n 2, 1) := by decide +kernel
theorem dX10_comesBack_28 : decode cX10_comesBack 28 = .ok (.iaload, 1) := by decide +kernel
theorem dX10_comesBack_29 : decode cX10_comesBack 29 = .ok (.iastore, 1) := by decide +kernel
theorem dX10_comesBack_30 : decode cX10_comesBack 30 = .ok (.aload_n 0, 1) := by decide +kernel
theorem dX10_comesBack_31 : decode cX10_comesBack 31 = .ok (.getfield 9, 3) := by decide +kernel
theorem dX10_comesBack_34 : decode cX10_comesBack 34 = .ok (.sipush 788, 3) := by decide +kernel
theorem dX10_comesBack_37 : decode cX10_comesBack 37 = .ok (.sipush 192, 3) := by decide +kernel
theorem dX10_comesBack_40 : decode cX10_comesBack 40 = .ok (.iload_n 1, 1) := by decide +kernel
theorem dX10_comesBack_41 : decode cX10_comesBack 41 = .ok (.imul, 1) := by decide +kernel
theorem dX10_comesBack_42 : decode cX10_comesBack 42 = .ok (.iadd, 1) := by decide +kernel
theorem dX10_comesBack_43 : decode cX10_comesBack 43 = .ok (.iload_n 2, 1) := by decide +kernel
theorem dX10_comesBack_44 : decode cX10_comesBack 44 = .ok (.iadd, 1) := by decide +kernel
theorem dX10_comesBack_45 : decode cX10_comesBack 45 = .ok (.aload_n 0, 1) := by decide +kernel
theorem dX10_comesBack_46 : decode cX10_comesBack 46 = .ok (.getfield 19, 3) := by decide +kernel
theorem dX10_comesBack_49 : decode cX10_comesBack 49 = .ok (.sipush 192, 3) := by decide +kernel
theorem dX10_comesBack_52 : decode cX10_comesBack 52 = .ok (.iload_n 2, 1) := by decide +kernel
theorem dX10_comesBack_53 : decode cX10_comesBack 53 = .ok (.iadd, 1) := by decide +kernel
theorem dX10_comesBack_54 : decode cX10_comesBack 54 = .ok (.iaload, 1) := by decide +kernel
theorem dX10_comesBack_55 : decode cX10_comesBack 55 = .ok (.iastore, 1) := by decide +kernel
theorem dX10_comesBack_56 : decode cX10_comesBack 56 = .ok (.iinc 2 1, 3) := by decide +kernel
theorem dX10_comesBack_59 : decode cX10_comesBack 59 = .ok (.goto (-57), 3) := by decide +kernel
theorem dX10_comesBack_62 : decode cX10_comesBack 62 = .ok (.return_, 1) := by decide +kernel
theorem dX10_sprays_0 : decode cX10_sprays 0 = .ok (.aload_n 0, 1) := by decide +kernel
theorem dX10_sprays_1 : decode cX10_sprays 1 = .ok (.iload_n 1, 1) := by decide +kernel
theorem dX10_sprays_2 : decode cX10_sprays 2 = .ok (.invokevirtual 205, 3) := by decide +kernel
theorem dX10_sprays_5 : decode cX10_sprays 5 = .ok (.iload_n 2, 1) := by decide +kernel
theorem dX10_sprays_6 : decode cX10_sprays 6 = .ok (.istore 4, 2) := by decide +kernel
theorem dX10_sprays_8 : decode cX10_sprays 8 = .ok (.iconst 0, 1) := by decide +kernel
theorem dX10_sprays_9 : decode cX10_sprays 9 = .ok (.istore 5, 2) := by decide +kernel
theorem dX10_sprays_11 : decode cX10_sprays 11 = .ok (.iload 5, 2) := by decide +kernel
theorem dX10_sprays_13 : decode cX10_sprays 13 = .ok (.iload_n 3, 1) := by decide +kernel
theorem dX10_sprays_14 : decode cX10_sprays 14 = .ok (.if_icmp .ge 58, 3) := by decide +kernel
theorem dX10_sprays_17 : decode cX10_sprays 17 = .ok (.iload 4, 2) := by decide +kernel
theorem dX10_sprays_19 : decode cX10_sprays 19 = .ok (.ldc_w 259, 3) := by decide +kernel
theorem dX10_sprays_22 : decode cX10_sprays 22 = .ok (.imul, 1) := by decide +kernel
theorem dX10_sprays_23 : decode cX10_sprays 23 = .ok (.sipush 12345, 3) := by decide +kernel
theorem dX10_sprays_26 : decode cX10_sprays 26 = .ok (.iadd, 1) := by decide +kernel
theorem dX10_sprays_27 : decode cX10_sprays 27 = .ok (.istore 4, 2) := by decide +kernel
theorem dX10_sprays_29 : decode cX10_sprays 29 = .ok (.iload 4, 2) := by decide +kernel
theorem dX10_sprays_31 : decode cX10_sprays 31 = .ok (.bipush 9, 2) := by decide +kernel
theorem dX10_sprays_33 : decode cX10_sprays 33 = .ok (.iushr, 1) := by decide +kernel
theorem dX10_sprays_34 : decode cX10_sprays 34 = .ok (.bipush 16, 2) := by decide +kernel
theorem dX10_sprays_36 : decode cX10_sprays 36 = .ok (.irem, 1) := by decide +kernel
theorem dX10_sprays_37 : decode cX10_sprays 37 = .ok (.istore 6, 2) := by decide +kernel
theorem dX10_sprays_39 : decode cX10_sprays 39 = .ok (.iload 4, 2) := by decide +kernel
theorem dX10_sprays_41 : decode cX10_sprays 41 = .ok (.ldc_w 259, 3) := by decide +kernel
theorem dX10_sprays_44 : decode cX10_sprays 44 = .ok (.imul, 1) := by decide +kernel
theorem dX10_sprays_45 : decode cX10_sprays 45 = .ok (.sipush 12345, 3) := by decide +kernel
theorem dX10_sprays_48 : decode cX10_sprays 48 = .ok (.iadd, 1) := by decide +kernel
theorem dX10_sprays_49 : decode cX10_sprays 49 = .ok (.istore 4, 2) := by decide +kernel
theorem dX10_sprays_51 : decode cX10_sprays 51 = .ok (.aload_n 0, 1) := by decide +kernel
theorem dX10_sprays_52 : decode cX10_sprays 52 = .ok (.iload_n 1, 1) := by decide +kernel
theorem dX10_sprays_53 : decode cX10_sprays 53 = .ok (.iload 6, 2) := by decide +kernel
theorem dX10_sprays_55 : decode cX10_sprays 55 = .ok (.iload 4, 2) := by decide +kernel
theorem dX10_sprays_57 : decode cX10_sprays 57 = .ok (.bipush 9, 2) := by decide +kernel
theorem dX10_sprays_59 : decode cX10_sprays 59 = .ok (.iushr, 1) := by decide +kernel
theorem dX10_sprays_60 : decode cX10_sprays 60 = .ok (.bipush 12, 2) := by decide +kernel
theorem dX10_sprays_62 : decode cX10_sprays 62 = .ok (.irem, 1) := by decide +kernel
theorem dX10_sprays_63 : decode cX10_sprays 63 = .ok (.invokevirtual 178, 3) := by decide +kernel
theorem dX10_sprays_66 : decode cX10_sprays 66 = .ok (.iinc 5 1, 3) := by decide +kernel
theorem dX10_sprays_69 : decode cX10_sprays 69 = .ok (.goto (-58), 3) := by decide +kernel
theorem dX10_sprays_72 : decode cX10_sprays 72 = .ok (.return_, 1) := by decide +kernel
theorem dX10_sprayed_0 : decode cX10_sprayed 0 = .ok (.aload_n 0, 1) := by decide +kernel
theorem dX10_sprayed_1 : decode cX10_sprayed 1 = .ok (.iload_n 1, 1) := by decide +kernel
theorem dX10_sprayed_2 : decode cX10_sprayed 2 = .ok (.invokevirtual 80, 3) := by decide +kernel
theorem dX10_sprayed_5 : decode cX10_sprayed 5 = .ok (.ifCond .eq 13, 3) := by decide +kernel
theorem dX10_sprayed_8 : decode cX10_sprayed 8 = .ok (.iload_n 3, 1) := by decide +kernel
theorem dX10_sprayed_9 : decode cX10_sprayed 9 = .ok (.iconst 0, 1) := by decide +kernel
theorem dX10_sprayed_10 : decode cX10_sprayed 10 = .ok (.bipush 30, 2) := by decide +kernel
theorem dX10_sprayed_12 : decode cX10_sprayed 12 = .ok (.invokestatic 43, 3) := by decide +kernel
theorem dX10_sprayed_15 : decode cX10_sprayed 15 = .ok (.ifCond .ne 6, 3) := by decide +kernel
theorem dX10_sprayed_18 : decode cX10_sprayed 18 = .ok (.bipush (-2), 2) := by decide +kernel
theorem dX10_sprayed_20 : decode cX10_sprayed 20 = .ok (.ireturn, 1) := by decide +kernel
theorem dX10_sprayed_21 : decode cX10_sprayed 21 = .ok (.iconst 0, 1) := by decide +kernel
theorem dX10_sprayed_22 : decode cX10_sprayed 22 = .ok (.istore 4, 2) := by decide +kernel
theorem dX10_sprayed_24 : decode cX10_sprayed 24 = .ok (.iload 4, 2) := by decide +kernel
theorem dX10_sprayed_26 : decode cX10_sprayed 26 = .ok (.sipush 192, 3) := by decide +kernel
theorem dX10_sprayed_29 : decode cX10_sprayed 29 = .ok (.if_icmp .ge 22, 3) := by decide +kernel
theorem dX10_sprayed_32 : decode cX10_sprayed 32 = .ok (.aload_n 0, 1) := by decide +kernel
theorem dX10_sprayed_33 : decode cX10_sprayed 33 = .ok (.getfield 31, 3) := by decide +kernel
theorem dX10_sprayed_36 : decode cX10_sprayed 36 = .ok (.iload 4, 2) := by decide +kernel
theorem dX10_sprayed_38 : decode cX10_sprayed 38 = .ok (.aload_n 0, 1) := by decide +kernel
theorem dX10_sprayed_39 : decode cX10_sprayed 39 = .ok (.iload 4, 2) := by decide +kernel
theorem dX10_sprayed_41 : decode cX10_sprayed 41 = .ok (.invokevirtual 100, 3) := by decide +kernel
theorem dX10_sprayed_44 : decode cX10_sprayed 44 = .ok (.iastore, 1) := by decide +kernel
theorem dX10_sprayed_45 : decode cX10_sprayed 45 = .ok (.iinc 4 1, 3) := by decide +kernel
theorem dX10_sprayed_48 : decode cX10_sprayed 48 = .ok (.goto (-24), 3) := by decide +kernel
theorem dX10_sprayed_51 : decode cX10_sprayed 51 = .ok (.aload_n 0, 1) := by decide +kernel
theorem dX10_sprayed_52 : decode cX10_sprayed 52 = .ok (.iload_n 1, 1) := by decide +kernel
theorem dX10_sprayed_53 : decode cX10_sprayed 53 = .ok (.iload_n 2, 1) := by decide +kernel
theorem dX10_sprayed_54 : decode cX10_sprayed 54 = .ok (.iload_n 3, 1) := by decide +kernel
theorem dX10_sprayed_55 : decode cX10_sprayed 55 = .ok (.invokevirtual 260, 3) := by decide +kernel
theorem dX10_sprayed_58 : decode cX10_sprayed 58 = .ok (.iconst 0, 1) := by decide +kernel
theorem dX10_sprayed_59 : decode cX10_sprayed 59 = .ok (.istore 4, 2) := by decide +kernel
theorem dX10_sprayed_61 : decode cX10_sprayed 61 = .ok (.iconst 0, 1) := by decide +kernel
theorem dX10_sprayed_62 : decode cX10_sprayed 62 = .ok (.istore 5, 2) := by decide +kernel
theorem dX10_sprayed_64 : decode cX10_sprayed 64 = .ok (.iload 5, 2) := by decide +kernel
theorem dX10_sprayed_66 : decode cX10_sprayed 66 = .ok (.sipush 192, 3) := by decide +kernel
theorem dX10_sprayed_69 : decode cX10_sprayed 69 = .ok (.if_icmp .ge 35, 3) := by decide +kernel
theorem dX10_sprayed_72 : decode cX10_sprayed 72 = .ok (.iload 4, 2) := by decide +kernel
theorem dX10_sprayed_74 : decode cX10_sprayed 74 = .ok (.aload_n 0, 1) := by decide +kernel
theorem dX10_sprayed_75 : decode cX10_sprayed 75 = .ok (.iload 5, 2) := by decide +kernel
theorem dX10_sprayed_77 : decode cX10_sprayed 77 = .ok (.invokevirtual 100, 3) := by decide +kernel
theorem dX10_sprayed_80 : decode cX10_sprayed 80 = .ok (.aload_n 0, 1) := by decide +kernel
theorem dX10_sprayed_81 : decode cX10_sprayed 81 = .ok (.getfield 31, 3) := by decide +kernel
theorem dX10_sprayed_84 : decode cX10_sprayed 84 = .ok (.iload 5, 2) := by decide +kernel
theorem dX10_sprayed_86 : decode cX10_sprayed 86 = .ok (.iaload, 1) := by decide +kernel
theorem dX10_sprayed_87 : decode cX10_sprayed 87 = .ok (.if_icmp .eq 7, 3) := by decide +kernel
theorem dX10_sprayed_90 : decode cX10_sprayed 90 = .ok (.iconst 1, 1) := by decide +kernel
theorem dX10_sprayed_91 : decode cX10_sprayed 91 = .ok (.goto 4, 3) := by decide +kernel
theorem dX10_sprayed_94 : decode cX10_sprayed 94 = .ok (.iconst 0, 1) := by decide +kernel
theorem dX10_sprayed_95 : decode cX10_sprayed 95 = .ok (.iadd, 1) := by decide +kernel
theorem dX10_sprayed_96 : decode cX10_sprayed 96 = .ok (.istore 4, 2) := by decide +kernel
theorem dX10_sprayed_98 : decode cX10_sprayed 98 = .ok (.iinc 5 1, 3) := by decide +kernel
theorem dX10_sprayed_101 : decode cX10_sprayed 101 = .ok (.goto (-37), 3) := by decide +kernel
theorem dX10_sprayed_104 : decode cX10_sprayed 104 = .ok (.aload_n 0, 1) := by decide +kernel
theorem dX10_sprayed_105 : decode cX10_sprayed 105 = .ok (.iload_n 1, 1) := by decide +kernel
theorem dX10_sprayed_106 : decode cX10_sprayed 106 = .ok (.invokevirtual 263, 3) := by decide +kernel
theorem dX10_sprayed_109 : decode cX10_sprayed 109 = .ok (.iload 4, 2) := by decide +kernel
theorem dX10_sprayed_111 : decode cX10_sprayed 111 = .ok (.ireturn, 1) := by decide +kernel
theorem dX10_common_0 : decode cX10_common 0 = .ok (.iload_n 1, 1) := by decide +kernel
theorem dX10_common_1 : decode cX10_common 1 = .ok (.ifCond .ne 7, 3) := by decide +kernel
theorem dX10_common_4 : decode cX10_common 4 = .ok (.iload_n 0, 1) := by decide +kernel
theorem dX10_common_5 : decode cX10_common 5 = .ok (.goto 10, 3) := by decide +kernel
theorem dX10_common_8 : decode cX10_common 8 = .ok (.iload_n 1, 1) := by decide +kernel
theorem dX10_common_9 : decode cX10_common 9 = .ok (.iload_n 0, 1) := by decide +kernel
theorem dX10_common_10 : decode cX10_common 10 = .ok (.iload_n 1, 1) := by decide +kernel
theorem dX10_common_11 : decode cX10_common 11 = .ok (.irem, 1) := by decide +kernel
theorem dX10_common_12 : decode cX10_common 12 = .ok (.invokestatic 266, 3) := by decide +kernel
theorem dX10_common_15 : decode cX10_common 15 = .ok (.ireturn, 1) := by decide +kernel
theorem dX10_chance_0 : decode cX10_chance 0 = .ok (.aload_n 0, 1) := by decide +kernel
theorem dX10_chance_1 : decode cX10_chance 1 = .ok (.iload_n 1, 1) := by decide +kernel
theorem dX10_chance_2 : decode cX10_chance 2 = .ok (.invokevirtual 80, 3) := by decide +kernel
theorem dX10_chance_5 : decode cX10_chance 5 = .ok (.ifCond .eq 33, 3) := by decide +kernel
theorem dX10_chance_8 : decode cX10_chance 8 = .ok (.iload_n 3, 1) := by decide +kernel
theorem dX10_chance_9 : decode cX10_chance 9 = .ok (.iconst 1, 1) := by decide +kernel
theorem dX10_chance_10 : decode cX10_chance 10 = .ok (.bipush 10, 2) := by decide +kernel
theorem dX10_chance_12 : decode cX10_chance 12 = .ok (.invokestatic 43, 3) := by decide +kernel
theorem dX10_chance_15 : decode cX10_chance 15 = .ok (.ifCond .eq 23, 3) := by decide +kernel
theorem dX10_chance_18 : decode cX10_chance 18 = .ok (.iload 4, 2) := by decide +kernel
theorem dX10_chance_20 : decode cX10_chance 20 = .ok (.iload 5, 2) := by decide +kernel
theorem dX10_chance_22 : decode cX10_chance 22 = .ok (.invokestatic 93, 3) := by decide +kernel
theorem dX10_chance_25 : decode cX10_chance 25 = .ok (.ifCond .eq 13, 3) := by decide +kernel
theorem dX10_chance_28 : decode cX10_chance 28 = .ok (.iload 6, 2) := by decide +kernel
theorem dX10_chance_30 : decode cX10_chance 30 = .ok (.iconst 0, 1) := by decide +kernel
theorem dX10_chance_31 : decode cX10_chance 31 = .ok (.iconst 1, 1) := by decide +kernel
theorem dX10_chance_32 : decode cX10_chance 32 = .ok (.invokestatic 43, 3) := by decide +kernel
theorem dX10_chance_35 : decode cX10_chance 35 = .ok (.ifCond .ne 6, 3) := by decide +kernel
theorem dX10_chance_38 : decode cX10_chance 38 = .ok (.bipush (-2), 2) := by decide +kernel
theorem dX10_chance_40 : decode cX10_chance 40 = .ok (.ireturn, 1) := by decide +kernel
theorem dX10_chance_41 : decode cX10_chance 41 = .ok (.aload_n 0, 1) := by decide +kernel
theorem dX10_chance_42 : decode cX10_chance 42 = .ok (.iload 4, 2) := by decide +kernel
theorem dX10_chance_44 : decode cX10_chance 44 = .ok (.iload 5, 2) := by decide +kernel
theorem dX10_chance_46 : decode cX10_chance 46 = .ok (.invokestatic 97, 3) := by decide +kernel
theorem dX10_chance_49 : decode cX10_chance 49 = .ok (.invokevirtual 100, 3) := by decide +kernel
theorem dX10_chance_52 : decode cX10_chance 52 = .ok (.istore 7, 2) := by decide +kernel
theorem dX10_chance_54 : decode cX10_chance 54 = .ok (.iconst 0, 1) := by decide +kernel
theorem dX10_chance_55 : decode cX10_chance 55 = .ok (.istore 8, 2) := by decide +kernel
theorem dX10_chance_57 : decode cX10_chance 57 = .ok (.iconst 0, 1) := by decide +kernel
theorem dX10_chance_58 : decode cX10_chance 58 = .ok (.istore 9, 2) := by decide +kernel
theorem dX10_chance_60 : decode cX10_chance 60 = .ok (.iload 9, 2) := by decide +kernel
theorem dX10_chance_62 : decode cX10_chance 62 = .ok (.iload_n 3, 1) := by decide +kernel
theorem dX10_chance_63 : decode cX10_chance 63 = .ok (.if_icmp .ge 50, 3) := by decide +kernel
theorem dX10_chance_66 : decode cX10_chance 66 = .ok (.aload_n 0, 1) := by decide +kernel
theorem dX10_chance_67 : decode cX10_chance 67 = .ok (.iload_n 1, 1) := by decide +kernel
theorem dX10_chance_68 : decode cX10_chance 68 = .ok (.iload_n 2, 1) := by decide +kernel
theorem dX10_chance_69 : decode cX10_chance 69 = .ok (.iload 9, 2) := by decide +kernel
theorem dX10_chance_71 : decode cX10_chance 71 = .ok (.iadd, 1) := by decide +kernel
theorem dX10_chance_72 : decode cX10_chance 72 = .ok (.iconst 4, 1) := by decide +kernel
theorem dX10_chance_73 : decode cX10_chance 73 = .ok (.invokevirtual 260, 3) := by decide +kernel
theorem dX10_chance_76 : decode cX10_chance 76 = .ok (.iload 8, 2) := by decide +kernel
theorem dX10_chance_78 : decode cX10_chance 78 = .ok (.aload_n 0, 1) := by decide +kernel
theorem dX10_chance_79 : decode cX10_chance 79 = .ok (.iload 4, 2) := by decide +kernel
theorem dX10_chance_81 : decode cX10_chance 81 = .ok (.iload 5, 2) := by decide +kernel
theorem dX10_chance_83 : decode cX10_chance 83 = .ok (.invokestatic 97, 3) := by decide +kernel
theorem dX10_chance_86 : decode cX10_chance 86 = .ok (.invokevirtual 100, 3) := by decide +kernel
theorem dX10_chance_89 : decode cX10_chance 89 = .ok (.iload 7, 2) := by decide +kernel
theorem dX10_chance_91 : decode cX10_chance 91 = .ok (.if_icmp .eq 7, 3) := by decide +kernel
theorem dX10_chance_94 : decode cX10_chance 94 = .ok (.iconst 1, 1) := by decide +kernel
theorem dX10_chance_95 : decode cX10_chance 95 = .ok (.goto 4, 3) := by decide +kernel
theorem dX10_chance_98 : decode cX10_chance 98 = .ok (.iconst 0, 1) := by decide +kernel
theorem dX10_chance_99 : decode cX10_chance 99 = .ok (.iadd, 1) := by decide +kernel
theorem dX10_chance_100 : decode cX10_chance 100 = .ok (.istore 8, 2) := by decide +kernel
theorem dX10_chance_102 : decode cX10_chance 102 = .ok (.aload_n 0, 1) := by decide +kernel
theorem dX10_chance_103 : decode cX10_chance 103 = .ok (.iload_n 1, 1) := by decide +kernel
theorem dX10_chance_104 : decode cX10_chance 104 = .ok (.invokevirtual 263, 3) := by decide +kernel
theorem dX10_chance_107 : decode cX10_chance 107 = .ok (.iinc 9 1, 3) := by decide +kernel
theorem dX10_chance_110 : decode cX10_chance 110 = .ok (.goto (-50), 3) := by decide +kernel
theorem dX10_chance_113 : decode cX10_chance 113 = .ok (.iload 6, 2) := by decide +kernel
theorem dX10_chance_115 : decode cX10_chance 115 = .ok (.ifCond .ne 8, 3) := by decide +kernel
theorem dX10_chance_118 : decode cX10_chance 118 = .ok (.iload 8, 2) := by decide +kernel
theorem dX10_chance_120 : decode cX10_chance 120 = .ok (.goto 4, 3) := by decide +kernel
theorem dX10_chance_123 : decode cX10_chance 123 = .ok (.iload_n 3, 1) := by decide +kernel
theorem dX10_chance_124 : decode cX10_chance 124 = .ok (.iload 8, 2) := by decide +kernel
theorem dX10_chance_126 : decode cX10_chance 126 = .ok (.iload_n 3, 1) := by decide +kernel
theorem dX10_chance_127 : decode cX10_chance 127 = .ok (.invokestatic 266, 3) := by decide +kernel
theorem dX10_chance_130 : decode cX10_chance 130 = .ok (.idiv, 1) := by decide +kernel
theorem dX10_chance_131 : decode cX10_chance 131 = .ok (.ireturn, 1) := by decide +kernel
theorem dX10_isSheet_0 : decode cX10_isSheet 0 = .ok (.iload_n 0, 1) := by decide +kernel
theorem dX10_isSheet_1 : decode cX10_isSheet 1 = .ok (.iconst 0, 1) := by decide +kernel
theorem dX10_isSheet_2 : decode cX10_isSheet 2 = .ok (.iconst 3, 1) := by decide +kernel
theorem dX10_isSheet_3 : decode cX10_isSheet 3 = .ok (.invokestatic 43, 3) := by decide +kernel
theorem dX10_isSheet_6 : decode cX10_isSheet 6 = .ok (.ireturn, 1) := by decide +kernel
theorem dX10_wrong_0 : decode cX10_wrong 0 = .ok (.iload_n 1, 1) := by decide +kernel
theorem dX10_wrong_1 : decode cX10_wrong 1 = .ok (.invokestatic 269, 3) := by decide +kernel
theorem dX10_wrong_4 : decode cX10_wrong 4 = .ok (.ifCond .ne 8, 3) := by decide +kernel
theorem dX10_wrong_7 : decode cX10_wrong 7 = .ok (.bipush (-2), 2) := by decide +kernel
theorem dX10_wrong_9 : decode cX10_wrong 9 = .ok (.goto 19, 3) := by decide +kernel
theorem dX10_wrong_12 : decode cX10_wrong 12 = .ok (.aload_n 0, 1) := by decide +kernel
theorem dX10_wrong_13 : decode cX10_wrong 13 = .ok (.getfield 34, 3) := by decide +kernel
theorem dX10_wrong_16 : decode cX10_wrong 16 = .ok (.iload_n 1, 1) := by decide +kernel
theorem dX10_wrong_17 : decode cX10_wrong 17 = .ok (.iaload, 1) := by decide +kernel
theorem dX10_wrong_18 : decode cX10_wrong 18 = .ok (.iconst (-1), 1) := by decide +kernel
theorem dX10_wrong_19 : decode cX10_wrong 19 = .ok (.if_icmp .ne 8, 3) := by decide +kernel
theorem dX10_wrong_22 : decode cX10_wrong 22 = .ok (.bipush (-11), 2) := by decide +kernel
theorem dX10_wrong_24 : decode cX10_wrong 24 = .ok (.goto 4, 3) := by decide +kernel
theorem dX10_wrong_27 : decode cX10_wrong 27 = .ok (.iconst 0, 1) := by decide +kernel
theorem dX10_wrong_28 : decode cX10_wrong 28 = .ok (.ireturn, 1) := by decide +kernel
theorem dX10_otherwise_0 : decode cX10_otherwise 0 = .ok (.iconst 0, 1) := by decide +kernel
theorem dX10_otherwise_1 : decode cX10_otherwise 1 = .ok (.istore 6, 2) := by decide +kernel
theorem dX10_otherwise_3 : decode cX10_otherwise 3 = .ok (.iload 6, 2) := by decide +kernel
theorem dX10_otherwise_5 : decode cX10_otherwise 5 = .ok (.aload_n 0, 1) := by decide +kernel
theorem dX10_otherwise_6 : decode cX10_otherwise 6 = .ok (.getfield 37, 3) := by decide +kernel
theorem dX10_otherwise_9 : decode cX10_otherwise 9 = .ok (.iload_n 1, 1) := by decide +kernel
theorem dX10_otherwise_10 : decode cX10_otherwise 10 = .ok (.iaload, 1) := by decide +kernel
theorem dX10_otherwise_11 : decode cX10_otherwise 11 = .ok (.if_icmp .ge 42, 3) := by decide +kernel
theorem dX10_otherwise_14 : decode cX10_otherwise 14 = .ok (.aload_n 0, 1) := by decide +kernel
theorem dX10_otherwise_15 : decode cX10_otherwise 15 = .ok (.getfield 40, 3) := by decide +kernel
theorem dX10_otherwise_18 : decode cX10_otherwise 18 = .ok (.bipush 40, 2) := by decide +kernel
theorem dX10_otherwise_20 : decode cX10_otherwise 20 = .ok (.iload_n 1, 1) := by decide +kernel
theorem dX10_otherwise_21 : decode cX10_otherwise 21 = .ok (.imul, 1) := by decide +kernel
theorem dX10_otherwise_22 : decode cX10_otherwise 22 = .ok (.iload 6, 2) := by decide +kernel
theorem dX10_otherwise_24 : decode cX10_otherwise 24 = .ok (.iadd, 1) := by decide +kernel
theorem dX10_otherwise_25 : decode cX10_otherwise 25 = .ok (.iaload, 1) := by decide +kernel
theorem dX10_otherwise_26 : decode cX10_otherwise 26 = .ok (.aload_n 0, 1) := by decide +kernel
theorem dX10_otherwise_27 : decode cX10_otherwise 27 = .ok (.iload 6, 2) := by decide +kernel
theorem dX10_otherwise_29 : decode cX10_otherwise 29 = .ok (.iload_n 2, 1) := by decide +kernel
theorem dX10_otherwise_30 : decode cX10_otherwise 30 = .ok (.invokestatic 97, 3) := by decide +kernel
theorem dX10_otherwise_33 : decode cX10_otherwise 33 = .ok (.iload_n 3, 1) := by decide +kernel
theorem dX10_otherwise_34 : decode cX10_otherwise 34 = .ok (.iload 4, 2) := by decide +kernel
theorem dX10_otherwise_36 : decode cX10_otherwise 36 = .ok (.iload 5, 2) := by decide +kernel
theorem dX10_otherwise_38 : decode cX10_otherwise 38 = .ok (.invokevirtual 60, 3) := by decide +kernel
theorem dX10_otherwise_41 : decode cX10_otherwise 41 = .ok (.if_icmp .eq 6, 3) := by decide +kernel
theorem dX10_otherwise_44 : decode cX10_otherwise 44 = .ok (.iload 6, 2) := by decide +kernel
theorem dX10_otherwise_46 : decode cX10_otherwise 46 = .ok (.ireturn, 1) := by decide +kernel
theorem dX10_otherwise_47 : decode cX10_otherwise 47 = .ok (.iinc 6 1, 3) := by decide +kernel
theorem dX10_otherwise_50 : decode cX10_otherwise 50 = .ok (.goto (-47), 3) := by decide +kernel
theorem dX10_otherwise_53 : decode cX10_otherwise 53 = .ok (.iconst (-1), 1) := by decide +kernel
theorem dX10_otherwise_54 : decode cX10_otherwise 54 = .ok (.ireturn, 1) := by decide +kernel
theorem dX10_tells_0 : decode cX10_tells 0 = .ok (.iload_n 1, 1) := by decide +kernel
theorem dX10_tells_1 : decode cX10_tells 1 = .ok (.invokestatic 269, 3) := by decide +kernel
theorem dX10_tells_4 : decode cX10_tells 4 = .ok (.ifCond .eq 29, 3) := by decide +kernel
theorem dX10_tells_7 : decode cX10_tells 7 = .ok (.iload_n 2, 1) := by decide +kernel
theorem dX10_tells_8 : decode cX10_tells 8 = .ok (.iconst 0, 1) := by decide +kernel
theorem dX10_tells_9 : decode cX10_tells 9 = .ok (.bipush 11, 2) := by decide +kernel
theorem dX10_tells_11 : decode cX10_tells 11 = .ok (.invokestatic 43, 3) := by decide +kernel
theorem dX10_tells_14 : decode cX10_tells 14 = .ok (.ifCond .eq 19, 3) := by decide +kernel
theorem dX10_tells_17 : decode cX10_tells 17 = .ok (.iload_n 3, 1) := by decide +kernel
theorem dX10_tells_18 : decode cX10_tells 18 = .ok (.iconst 0, 1) := by decide +kernel
theorem dX10_tells_19 : decode cX10_tells 19 = .ok (.iconst 1, 1) := by decide +kernel
theorem dX10_tells_20 : decode cX10_tells 20 = .ok (.aload_n 0, 1) := by decide +kernel
theorem dX10_tells_21 : decode cX10_tells 21 = .ok (.getfield 9, 3) := by decide +kernel
theorem dX10_tells_24 : decode cX10_tells 24 = .ok (.iconst 0, 1) := by decide +kernel
theorem dX10_tells_25 : decode cX10_tells 25 = .ok (.iaload, 1) := by decide +kernel
theorem dX10_tells_26 : decode cX10_tells 26 = .ok (.iadd, 1) := by decide +kernel
theorem dX10_tells_27 : decode cX10_tells 27 = .ok (.invokestatic 43, 3) := by decide +kernel
theorem dX10_tells_30 : decode cX10_tells 30 = .ok (.ifCond .ne 6, 3) := by decide +kernel
theorem dX10_tells_33 : decode cX10_tells 33 = .ok (.bipush (-2), 2) := by decide +kernel
theorem dX10_tells_35 : decode cX10_tells 35 = .ok (.ireturn, 1) := by decide +kernel
theorem dX10_tells_36 : decode cX10_tells 36 = .ok (.aload_n 0, 1) := by decide +kernel
theorem dX10_tells_37 : decode cX10_tells 37 = .ok (.getfield 34, 3) := by decide +kernel
theorem dX10_tells_40 : decode cX10_tells 40 = .ok (.iload_n 1, 1) := by decide +kernel
theorem dX10_tells_41 : decode cX10_tells 41 = .ok (.iaload, 1) := by decide +kernel
theorem dX10_tells_42 : decode cX10_tells 42 = .ok (.iconst (-1), 1) := by decide +kernel
theorem dX10_tells_43 : decode cX10_tells 43 = .ok (.if_icmp .ne 6, 3) := by decide +kernel
theorem dX10_tells_46 : decode cX10_tells 46 = .ok (.bipush (-11), 2) := by decide +kernel
theorem dX10_tells_48 : decode cX10_tells 48 = .ok (.ireturn, 1) := by decide +kernel
theorem dX10_tells_49 : decode cX10_tells 49 = .ok (.aload_n 0, 1) := by decide +kernel
theorem dX10_tells_50 : decode cX10_tells 50 = .ok (.getfield 37, 3) := by decide +kernel
theorem dX10_tells_53 : decode cX10_tells 53 = .ok (.iload_n 1, 1) := by decide +kernel
theorem dX10_tells_54 : decode cX10_tells 54 = .ok (.iaload, 1) := by decide +kernel
theorem dX10_tells_55 : decode cX10_tells 55 = .ok (.bipush 16, 2) := by decide +kernel
theorem dX10_tells_57 : decode cX10_tells 57 = .ok (.if_icmp .le 6, 3) := by decide +kernel
theorem dX10_tells_60 : decode cX10_tells 60 = .ok (.bipush (-2), 2) := by decide +kernel
theorem dX10_tells_62 : decode cX10_tells 62 = .ok (.ireturn, 1) := by decide +kernel
theorem dX10_tells_63 : decode cX10_tells 63 = .ok (.iload_n 3, 1) := by decide +kernel
theorem dX10_tells_64 : decode cX10_tells 64 = .ok (.ifCond .ne 18, 3) := by decide +kernel
theorem dX10_tells_67 : decode cX10_tells 67 = .ok (.aload_n 0, 1) := by decide +kernel
theorem dX10_tells_68 : decode cX10_tells 68 = .ok (.iload_n 1, 1) := by decide +kernel
theorem dX10_tells_69 : decode cX10_tells 69 = .ok (.iload_n 2, 1) := by decide +kernel
theorem dX10_tells_70 : decode cX10_tells 70 = .ok (.aload_n 0, 1) := by decide +kernel
theorem dX10_tells_71 : decode cX10_tells 71 = .ok (.getfield 9, 3) := by decide +kernel
theorem dX10_tells_74 : decode cX10_tells 74 = .ok (.iconst 1, 1) := by decide +kernel
theorem dX10_tells_75 : decode cX10_tells 75 = .ok (.iaload, 1) := by decide +kernel
theorem dX10_tells_76 : decode cX10_tells 76 = .ok (.iconst (-1), 1) := by decide +kernel
theorem dX10_tells_77 : decode cX10_tells 77 = .ok (.iconst 0, 1) := by decide +kernel
theorem dX10_tells_78 : decode cX10_tells 78 = .ok (.invokevirtual 272, 3) := by decide +kernel
theorem dX10_tells_81 : decode cX10_tells 81 = .ok (.ireturn, 1) := by decide +kernel
theorem dX10_tells_82 : decode cX10_tells 82 = .ok (.iconst 0, 1) := by decide +kernel
theorem dX10_tells_83 : decode cX10_tells 83 = .ok (.istore 4, 2) := by decide +kernel
theorem dX10_tells_85 : decode cX10_tells 85 = .ok (.iconst 0, 1) := by decide +kernel
theorem dX10_tells_86 : decode cX10_tells 86 = .ok (.istore 5, 2) := by decide +kernel
theorem dX10_tells_88 : decode cX10_tells 88 = .ok (.iload_n 3, 1) := by decide +kernel
theorem dX10_tells_89 : decode cX10_tells 89 = .ok (.iconst 1, 1) := by decide +kernel
theorem dX10_tells_90 : decode cX10_tells 90 = .ok (.if_icmp .ne 41, 3) := by decide +kernel
theorem dX10_tells_93 : decode cX10_tells 93 = .ok (.iload 5, 2) := by decide +kernel
theorem dX10_tells_95 : decode cX10_tells 95 = .ok (.sipush 256, 3) := by decide +kernel
theorem dX10_tells_98 : decode cX10_tells 98 = .ok (.if_icmp .ge 33, 3) := by decide +kernel
theorem dX10_tells_101 : decode cX10_tells 101 = .ok (.iload 4, 2) := by decide +kernel
theorem dX10_tells_103 : decode cX10_tells 103 = .ok (.aload_n 0, 1) := by decide +kernel
theorem dX10_tells_104 : decode cX10_tells 104 = .ok (.iload_n 1, 1) := by decide +kernel
theorem dX10_tells_105 : decode cX10_tells 105 = .ok (.iload_n 2, 1) := by decide +kernel
theorem dX10_tells_106 : decode cX10_tells 106 = .ok (.iload 5, 2) := by decide +kernel
theorem dX10_tells_108 : decode cX10_tells 108 = .ok (.iconst (-1), 1) := by decide +kernel
theorem dX10_tells_109 : decode cX10_tells 109 = .ok (.iconst 0, 1) := by decide +kernel
theorem dX10_tells_110 : decode cX10_tells 110 = .ok (.invokevirtual 272, 3) := by decide +kernel
theorem dX10_tells_113 : decode cX10_tells 113 = .ok (.iconst (-1), 1) := by decide +kernel
theorem dX10_tells_114 : decode cX10_tells 114 = .ok (.if_icmp .ne 7, 3) := by decide +kernel
theorem dX10_tells_117 : decode cX10_tells 117 = .ok (.iconst 1, 1) := by decide +kernel
theorem dX10_tells_118 : decode cX10_tells 118 = .ok (.goto 4, 3) := by decide +kernel
theorem dX10_tells_121 : decode cX10_tells 121 = .ok (.iconst 0, 1) := by decide +kernel
theorem dX10_tells_122 : decode cX10_tells 122 = .ok (.iadd, 1) := by decide +kernel
theorem dX10_tells_123 : decode cX10_tells 123 = .ok (.istore 4, 2) := by decide +kernel
theorem dX10_tells_125 : decode cX10_tells 125 = .ok (.iinc 5 1, 3) := by decide +kernel
theorem dX10_tells_128 : decode cX10_tells 128 = .ok (.goto (-40), 3) := by decide +kernel
theorem dX10_tells_131 : decode cX10_tells 131 = .ok (.iconst 0, 1) := by decide +kernel
theorem dX10_tells_132 : decode cX10_tells 132 = .ok (.istore 5, 2) := by decide +kernel
theorem dX10_tells_134 : decode cX10_tells 134 = .ok (.iload_n 3, 1) := by decide +kernel
theorem dX10_tells_135 : decode cX10_tells 135 = .ok (.iconst 1, 1) := by decide +kernel
theorem dX10_tells_136 : decode cX10_tells 136 = .ok (.if_icmp .le 50, 3) := by decide +kernel
theorem dX10_tells_139 : decode cX10_tells 139 = .ok (.iload 5, 2) := by decide +kernel
theorem dX10_tells_141 : decode cX10_tells 141 = .ok (.bipush 6, 2) := by decide +kernel
theorem dX10_tells_143 : decode cX10_tells 143 = .ok (.if_icmp .ge 43, 3) := by decide +kernel
theorem dX10_tells_146 : decode cX10_tells 146 = .ok (.iload 4, 2) := by decide +kernel
theorem dX10_tells_148 : decode cX10_tells 148 = .ok (.aload_n 0, 1) := by decide +kernel
theorem dX10_tells_149 : decode cX10_tells 149 = .ok (.iload_n 1, 1) := by decide +kernel
theorem dX10_tells_150 : decode cX10_tells 150 = .ok (.iload_n 2, 1) := by decide +kernel
theorem dX10_tells_151 : decode cX10_tells 151 = .ok (.aload_n 0, 1) := by decide +kernel
theorem dX10_tells_152 : decode cX10_tells 152 = .ok (.getfield 9, 3) := by decide +kernel
theorem dX10_tells_155 : decode cX10_tells 155 = .ok (.iconst 1, 1) := by decide +kernel
theorem dX10_tells_156 : decode cX10_tells 156 = .ok (.iaload, 1) := by decide +kernel
theorem dX10_tells_157 : decode cX10_tells 157 = .ok (.iload_n 3, 1) := by decide +kernel
theorem dX10_tells_158 : decode cX10_tells 158 = .ok (.iconst 2, 1) := by decide +kernel
theorem dX10_tells_159 : decode cX10_tells 159 = .ok (.isub, 1) := by decide +kernel
theorem dX10_tells_160 : decode cX10_tells 160 = .ok (.iload 5, 2) := by decide +kernel
theorem dX10_tells_162 : decode cX10_tells 162 = .ok (.invokevirtual 272, 3) := by decide +kernel
theorem dX10_tells_165 : decode cX10_tells 165 = .ok (.iconst (-1), 1) := by decide +kernel
theorem dX10_tells_166 : decode cX10_tells 166 = .ok (.if_icmp .ne 10, 3) := by decide +kernel
theorem dX10_tells_169 : decode cX10_tells 169 = .ok (.iconst 1, 1) := by decide +kernel
theorem dX10_tells_170 : decode cX10_tells 170 = .ok (.iload 5, 2) := by decide +kernel
theorem dX10_tells_172 : decode cX10_tells 172 = .ok (.ishl, 1) := by decide +kernel
theorem dX10_tells_173 : decode cX10_tells 173 = .ok (.goto 4, 3) := by decide +kernel
theorem dX10_tells_176 : decode cX10_tells 176 = .ok (.iconst 0, 1) := by decide +kernel
theorem dX10_tells_177 : decode cX10_tells 177 = .ok (.ior, 1) := by decide +kernel
theorem dX10_tells_178 : decode cX10_tells 178 = .ok (.istore 4, 2) := by decide +kernel
theorem dX10_tells_180 : decode cX10_tells 180 = .ok (.iinc 5 1, 3) := by decide +kernel
theorem dX10_tells_183 : decode cX10_tells 183 = .ok (.goto (-49), 3) := by decide +kernel
theorem dX10_tells_186 : decode cX10_tells 186 = .ok (.iload 4, 2) := by decide +kernel
theorem dX10_tells_188 : decode cX10_tells 188 = .ok (.ireturn, 1) := by decide +kernel
theorem dX10_film_0 : decode cX10_film 0 = .ok (.iload_n 1, 1) := by decide +kernel
theorem dX10_film_1 : decode cX10_film 1 = .ok (.invokestatic 269, 3) := by decide +kernel
theorem dX10_film_4 : decode cX10_film 4 = .ok (.ifCond .eq 13, 3) := by decide +kernel
theorem dX10_film_7 : decode cX10_film 7 = .ok (.iload_n 2, 1) := by decide +kernel
theorem dX10_film_8 : decode cX10_film 8 = .ok (.iconst 0, 1) := by decide +kernel
theorem dX10_film_9 : decode cX10_film 9 = .ok (.bipush 11, 2) := by decide +kernel
theorem dX10_film_11 : decode cX10_film 11 = .ok (.invokestatic 43, 3) := by decide +kernel
theorem dX10_film_14 : decode cX10_film 14 = .ok (.ifCond .ne 6, 3) := by decide +kernel
theorem dX10_film_17 : decode cX10_film 17 = .ok (.bipush (-2), 2) := by decide +kernel
theorem dX10_film_19 : decode cX10_film 19 = .ok (.ireturn, 1) := by decide +kernel
theorem dX10_film_20 : decode cX10_film 20 = .ok (.aload_n 0, 1) := by decide +kernel
theorem dX10_film_21 : decode cX10_film 21 = .ok (.getfield 34, 3) := by decide +kernel
theorem dX10_film_24 : decode cX10_film 24 = .ok (.iload_n 1, 1) := by decide +kernel
theorem dX10_film_25 : decode cX10_film 25 = .ok (.iconst 0, 1) := by decide +kernel
theorem dX10_film_26 : decode cX10_film 26 = .ok (.iastore, 1) := by decide +kernel
theorem dX10_film_27 : decode cX10_film 27 = .ok (.aload_n 0, 1) := by decide +kernel
theorem dX10_film_28 : decode cX10_film 28 = .ok (.getfield 37, 3) := by decide +kernel
theorem dX10_film_31 : decode cX10_film 31 = .ok (.iload_n 1, 1) := by decide +kernel
theorem dX10_film_32 : decode cX10_film 32 = .ok (.bipush 16, 2) := by decide +kernel
theorem dX10_film_34 : decode cX10_film 34 = .ok (.iastore, 1) := by decide +kernel
theorem dX10_film_35 : decode cX10_film 35 = .ok (.iconst 0, 1) := by decide +kernel
theorem dX10_film_36 : decode cX10_film 36 = .ok (.istore_n 3, 1) := by decide +kernel
theorem dX10_film_37 : decode cX10_film 37 = .ok (.iload_n 3, 1) := by decide +kernel
theorem dX10_film_38 : decode cX10_film 38 = .ok (.bipush 16, 2) := by decide +kernel
theorem dX10_film_40 : decode cX10_film 40 = .ok (.if_icmp .ge 29, 3) := by decide +kernel
theorem dX10_film_43 : decode cX10_film 43 = .ok (.aload_n 0, 1) := by decide +kernel
theorem dX10_film_44 : decode cX10_film 44 = .ok (.getfield 40, 3) := by decide +kernel
theorem dX10_film_47 : decode cX10_film 47 = .ok (.bipush 40, 2) := by decide +kernel
theorem dX10_film_49 : decode cX10_film 49 = .ok (.iload_n 1, 1) := by decide +kernel
theorem dX10_film_50 : decode cX10_film 50 = .ok (.imul, 1) := by decide +kernel
theorem dX10_film_51 : decode cX10_film 51 = .ok (.iload_n 3, 1) := by decide +kernel
theorem dX10_film_52 : decode cX10_film 52 = .ok (.iadd, 1) := by decide +kernel
theorem dX10_film_53 : decode cX10_film 53 = .ok (.aload_n 0, 1) := by decide +kernel
theorem dX10_film_54 : decode cX10_film 54 = .ok (.iload_n 3, 1) := by decide +kernel
theorem dX10_film_55 : decode cX10_film 55 = .ok (.iload_n 2, 1) := by decide +kernel
theorem dX10_film_56 : decode cX10_film 56 = .ok (.invokestatic 97, 3) := by decide +kernel
theorem dX10_film_59 : decode cX10_film 59 = .ok (.invokevirtual 100, 3) := by decide +kernel
theorem dX10_film_62 : decode cX10_film 62 = .ok (.iastore, 1) := by decide +kernel
theorem dX10_film_63 : decode cX10_film 63 = .ok (.iinc 3 1, 3) := by decide +kernel
theorem dX10_film_66 : decode cX10_film 66 = .ok (.goto (-29), 3) := by decide +kernel
theorem dX10_film_69 : decode cX10_film 69 = .ok (.bipush 16, 2) := by decide +kernel
theorem dX10_film_71 : decode cX10_film 71 = .ok (.ireturn, 1) := by decide +kernel
theorem dX10_sheet_0 : decode cX10_sheet 0 = .ok (.iload_n 1, 1) := by decide +kernel
theorem dX10_sheet_1 : decode cX10_sheet 1 = .ok (.invokestatic 269, 3) := by decide +kernel
theorem dX10_sheet_4 : decode cX10_sheet 4 = .ok (.ifCond .eq 23, 3) := by decide +kernel
theorem dX10_sheet_7 : decode cX10_sheet 7 = .ok (.iload_n 2, 1) := by decide +kernel
theorem dX10_sheet_8 : decode cX10_sheet 8 = .ok (.iconst (-1), 1) := by decide +kernel
theorem dX10_sheet_9 : decode cX10_sheet 9 = .ok (.iconst 1, 1) := by decide +kernel
theorem dX10_sheet_10 : decode cX10_sheet 10 = .ok (.invokestatic 43, 3) := by decide +kernel
theorem dX10_sheet_13 : decode cX10_sheet 13 = .ok (.ifCond .eq 14, 3) := by decide +kernel
theorem dX10_sheet_16 : decode cX10_sheet 16 = .ok (.iload_n 2, 1) := by decide +kernel
theorem dX10_sheet_17 : decode cX10_sheet 17 = .ok (.iconst (-1), 1) := by decide +kernel
theorem dX10_sheet_18 : decode cX10_sheet 18 = .ok (.if_icmp .eq 12, 3) := by decide +kernel
theorem dX10_sheet_21 : decode cX10_sheet 21 = .ok (.iload_n 3, 1) := by decide +kernel
theorem dX10_sheet_22 : decode cX10_sheet 22 = .ok (.bipush 40, 2) := by decide +kernel
theorem dX10_sheet_24 : decode cX10_sheet 24 = .ok (.if_icmp .le 6, 3) := by decide +kernel
theorem dX10_sheet_27 : decode cX10_sheet 27 = .ok (.bipush (-2), 2) := by decide +kernel
theorem dX10_sheet_29 : decode cX10_sheet 29 = .ok (.ireturn, 1) := by decide +kernel
theorem dX10_sheet_30 : decode cX10_sheet 30 = .ok (.iload_n 2, 1) := by decide +kernel
theorem dX10_sheet_31 : decode cX10_sheet 31 = .ok (.iconst (-1), 1) := by decide +kernel
theorem dX10_sheet_32 : decode cX10_sheet 32 = .ok (.if_icmp .eq 10, 3) := by decide +kernel
theorem dX10_sheet_35 : decode cX10_sheet 35 = .ok (.iload_n 3, 1) := by decide +kernel
theorem dX10_sheet_36 : decode cX10_sheet 36 = .ok (.ifCond .ge 6, 3) := by decide +kernel
theorem dX10_sheet_39 : decode cX10_sheet 39 = .ok (.bipush (-14), 2) := by decide +kernel
theorem dX10_sheet_41 : decode cX10_sheet 41 = .ok (.ireturn, 1) := by decide +kernel
theorem dX10_sheet_42 : decode cX10_sheet 42 = .ok (.aload_n 0, 1) := by decide +kernel
theorem dX10_sheet_43 : decode cX10_sheet 43 = .ok (.getfield 34, 3) := by decide +kernel
theorem dX10_sheet_46 : decode cX10_sheet 46 = .ok (.iload_n 1, 1) := by decide +kernel
theorem dX10_sheet_47 : decode cX10_sheet 47 = .ok (.iload_n 2, 1) := by decide +kernel
theorem dX10_sheet_48 : decode cX10_sheet 48 = .ok (.iastore, 1) := by decide +kernel
theorem dX10_sheet_49 : decode cX10_sheet 49 = .ok (.aload_n 0, 1) := by decide +kernel
theorem dX10_sheet_50 : decode cX10_sheet 50 = .ok (.getfield 37, 3) := by decide +kernel
theorem dX10_sheet_53 : decode cX10_sheet 53 = .ok (.iload_n 1, 1) := by decide +kernel
theorem dX10_sheet_54 : decode cX10_sheet 54 = .ok (.iload_n 2, 1) := by decide +kernel
theorem dX10_sheet_55 : decode cX10_sheet 55 = .ok (.iconst (-1), 1) := by decide +kernel
theorem dX10_sheet_56 : decode cX10_sheet 56 = .ok (.if_icmp .ne 7, 3) := by decide +kernel
theorem dX10_sheet_59 : decode cX10_sheet 59 = .ok (.iconst 0, 1) := by decide +kernel
theorem dX10_sheet_60 : decode cX10_sheet 60 = .ok (.goto 4, 3) := by decide +kernel
theorem dX10_sheet_63 : decode cX10_sheet 63 = .ok (.iload_n 3, 1) := by decide +kernel
theorem dX10_sheet_64 : decode cX10_sheet 64 = .ok (.iastore, 1) := by decide +kernel
theorem dX10_sheet_65 : decode cX10_sheet 65 = .ok (.iconst 0, 1) := by decide +kernel
theorem dX10_sheet_66 : decode cX10_sheet 66 = .ok (.istore 4, 2) := by decide +kernel
theorem dX10_sheet_68 : decode cX10_sheet 68 = .ok (.iload 4, 2) := by decide +kernel
theorem dX10_sheet_70 : decode cX10_sheet 70 = .ok (.bipush 40, 2) := by decide +kernel
theorem dX10_sheet_72 : decode cX10_sheet 72 = .ok (.if_icmp .ge 22, 3) := by decide +kernel
theorem dX10_sheet_75 : decode cX10_sheet 75 = .ok (.aload_n 0, 1) := by decide +kernel
theorem dX10_sheet_76 : decode cX10_sheet 76 = .ok (.getfield 40, 3) := by decide +kernel
theorem dX10_sheet_79 : decode cX10_sheet 79 = .ok (.bipush 40, 2) := by decide +kernel
theorem dX10_sheet_81 : decode cX10_sheet 81 = .ok (.iload_n 1, 1) := by decide +kernel
theorem dX10_sheet_82 : decode cX10_sheet 82 = .ok (.imul, 1) := by decide +kernel
theorem dX10_sheet_83 : decode cX10_sheet 83 = .ok (.iload 4, 2) := by decide +kernel
theorem dX10_sheet_85 : decode cX10_sheet 85 = .ok (.iadd, 1) := by decide +kernel
theorem dX10_sheet_86 : decode cX10_sheet 86 = .ok (.iconst 0, 1) := by decide +kernel
theorem dX10_sheet_87 : decode cX10_sheet 87 = .ok (.iastore, 1) := by decide +kernel
theorem dX10_sheet_88 : decode cX10_sheet 88 = .ok (.iinc 4 1, 3) := by decide +kernel
theorem dX10_sheet_91 : decode cX10_sheet 91 = .ok (.goto (-23), 3) := by decide +kernel
theorem dX10_sheet_94 : decode cX10_sheet 94 = .ok (.iconst 1, 1) := by decide +kernel
theorem dX10_sheet_95 : decode cX10_sheet 95 = .ok (.ireturn, 1) := by decide +kernel
theorem dX10_put_0 : decode cX10_put 0 = .ok (.aload_n 0, 1) := by decide +kernel
theorem dX10_put_1 : decode cX10_put 1 = .ok (.iload_n 1, 1) := by decide +kernel
theorem dX10_put_2 : decode cX10_put 2 = .ok (.invokevirtual 276, 3) := by decide +kernel
theorem dX10_put_5 : decode cX10_put 5 = .ok (.istore 4, 2) := by decide +kernel
theorem dX10_put_7 : decode cX10_put 7 = .ok (.iload 4, 2) := by decide +kernel
theorem dX10_put_9 : decode cX10_put 9 = .ok (.ifCond .eq 6, 3) := by decide +kernel
theorem dX10_put_12 : decode cX10_put 12 = .ok (.iload 4, 2) := by decide +kernel
theorem dX10_put_14 : decode cX10_put 14 = .ok (.ireturn, 1) := by decide +kernel
theorem dX10_put_15 : decode cX10_put 15 = .ok (.iload_n 2, 1) := by decide +kernel
theorem dX10_put_16 : decode cX10_put 16 = .ok (.iconst 0, 1) := by decide +kernel
theorem dX10_put_17 : decode cX10_put 17 = .ok (.aload_n 0, 1) := by decide +kernel
theorem dX10_put_18 : decode cX10_put 18 = .ok (.getfield 37, 3) := by decide +kernel
theorem dX10_put_21 : decode cX10_put 21 = .ok (.iload_n 1, 1) := by decide +kernel
theorem dX10_put_22 : decode cX10_put 22 = .ok (.iaload, 1) := by decide +kernel
theorem dX10_put_23 : decode cX10_put 23 = .ok (.iconst 1, 1) := by decide +kernel
theorem dX10_put_24 : decode cX10_put 24 = .ok (.isub, 1) := by decide +kernel
theorem dX10_put_25 : decode cX10_put 25 = .ok (.invokestatic 43, 3) := by decide +kernel
theorem dX10_put_28 : decode cX10_put 28 = .ok (.ifCond .ne 6, 3) := by decide +kernel
theorem dX10_put_31 : decode cX10_put 31 = .ok (.bipush (-12), 2) := by decide +kernel
theorem dX10_put_33 : decode cX10_put 33 = .ok (.ireturn, 1) := by decide +kernel
theorem dX10_put_34 : decode cX10_put 34 = .ok (.aload_n 0, 1) := by decide +kernel
theorem dX10_put_35 : decode cX10_put 35 = .ok (.getfield 40, 3) := by decide +kernel
theorem dX10_put_38 : decode cX10_put 38 = .ok (.bipush 40, 2) := by decide +kernel
theorem dX10_put_40 : decode cX10_put 40 = .ok (.iload_n 1, 1) := by decide +kernel
theorem dX10_put_41 : decode cX10_put 41 = .ok (.imul, 1) := by decide +kernel
theorem dX10_put_42 : decode cX10_put 42 = .ok (.iload_n 2, 1) := by decide +kernel
theorem dX10_put_43 : decode cX10_put 43 = .ok (.iadd, 1) := by decide +kernel
theorem dX10_put_44 : decode cX10_put 44 = .ok (.aload_n 0, 1) := by decide +kernel
theorem dX10_put_45 : decode cX10_put 45 = .ok (.getfield 34, 3) := by decide +kernel
theorem dX10_put_48 : decode cX10_put 48 = .ok (.iload_n 1, 1) := by decide +kernel
theorem dX10_put_49 : decode cX10_put 49 = .ok (.iaload, 1) := by decide +kernel
theorem dX10_put_50 : decode cX10_put 50 = .ok (.ifCond .ne 8, 3) := by decide +kernel
theorem dX10_put_53 : decode cX10_put 53 = .ok (.iload_n 3, 1) := by decide +kernel
theorem dX10_put_54 : decode cX10_put 54 = .ok (.i2s, 1) := by decide +kernel
theorem dX10_put_55 : decode cX10_put 55 = .ok (.goto 4, 3) := by decide +kernel
theorem dX10_put_58 : decode cX10_put 58 = .ok (.iload_n 3, 1) := by decide +kernel
theorem dX10_put_59 : decode cX10_put 59 = .ok (.iastore, 1) := by decide +kernel
theorem dX10_put_60 : decode cX10_put 60 = .ok (.iconst 1, 1) := by decide +kernel
theorem dX10_put_61 : decode cX10_put 61 = .ok (.ireturn, 1) := by decide +kernel
theorem dX10_copy_0 : decode cX10_copy 0 = .ok (.iload_n 1, 1) := by decide +kernel
theorem dX10_copy_1 : decode cX10_copy 1 = .ok (.invokestatic 269, 3) := by decide +kernel
theorem dX10_copy_4 : decode cX10_copy 4 = .ok (.ifCond .eq 10, 3) := by decide +kernel
theorem dX10_copy_7 : decode cX10_copy 7 = .ok (.iload_n 3, 1) := by decide +kernel
theorem dX10_copy_8 : decode cX10_copy 8 = .ok (.invokestatic 269, 3) := by decide +kernel
theorem dX10_copy_11 : decode cX10_copy 11 = .ok (.ifCond .ne 6, 3) := by decide +kernel
theorem dX10_copy_14 : decode cX10_copy 14 = .ok (.bipush (-2), 2) := by decide +kernel
theorem dX10_copy_16 : decode cX10_copy 16 = .ok (.ireturn, 1) := by decide +kernel
theorem dX10_copy_17 : decode cX10_copy 17 = .ok (.aload_n 0, 1) := by decide +kernel
theorem dX10_copy_18 : decode cX10_copy 18 = .ok (.getfield 34, 3) := by decide +kernel
theorem dX10_copy_21 : decode cX10_copy 21 = .ok (.iload_n 1, 1) := by decide +kernel
theorem dX10_copy_22 : decode cX10_copy 22 = .ok (.iaload, 1) := by decide +kernel
theorem dX10_copy_23 : decode cX10_copy 23 = .ok (.iconst (-1), 1) := by decide +kernel
theorem dX10_copy_24 : decode cX10_copy 24 = .ok (.if_icmp .eq 13, 3) := by decide +kernel
theorem dX10_copy_27 : decode cX10_copy 27 = .ok (.aload_n 0, 1) := by decide +kernel
theorem dX10_copy_28 : decode cX10_copy 28 = .ok (.getfield 34, 3) := by decide +kernel
theorem dX10_copy_31 : decode cX10_copy 31 = .ok (.iload_n 3, 1) := by decide +kernel
theorem dX10_copy_32 : decode cX10_copy 32 = .ok (.iaload, 1) := by decide +kernel
theorem dX10_copy_33 : decode cX10_copy 33 = .ok (.iconst (-1), 1) := by decide +kernel
theorem dX10_copy_34 : decode cX10_copy 34 = .ok (.if_icmp .ne 6, 3) := by decide +kernel
theorem dX10_copy_37 : decode cX10_copy 37 = .ok (.bipush (-11), 2) := by decide +kernel
theorem dX10_copy_39 : decode cX10_copy 39 = .ok (.ireturn, 1) := by decide +kernel
theorem dX10_copy_40 : decode cX10_copy 40 = .ok (.aload_n 0, 1) := by decide +kernel
theorem dX10_copy_41 : decode cX10_copy 41 = .ok (.getfield 34, 3) := by decide +kernel
theorem dX10_copy_44 : decode cX10_copy 44 = .ok (.iload_n 1, 1) := by decide +kernel
theorem dX10_copy_45 : decode cX10_copy 45 = .ok (.iaload, 1) := by decide +kernel
theorem dX10_copy_46 : decode cX10_copy 46 = .ok (.aload_n 0, 1) := by decide +kernel
theorem dX10_copy_47 : decode cX10_copy 47 = .ok (.getfield 34, 3) := by decide +kernel
theorem dX10_copy_50 : decode cX10_copy 50 = .ok (.iload_n 3, 1) := by decide +kernel
theorem dX10_copy_51 : decode cX10_copy 51 = .ok (.iaload, 1) := by decide +kernel
theorem dX10_copy_52 : decode cX10_copy 52 = .ok (.if_icmp .eq 6, 3) := by decide +kernel
theorem dX10_copy_55 : decode cX10_copy 55 = .ok (.bipush (-13), 2) := by decide +kernel
theorem dX10_copy_57 : decode cX10_copy 57 = .ok (.ireturn, 1) := by decide +kernel
theorem dX10_copy_58 : decode cX10_copy 58 = .ok (.iload 5, 2) := by decide +kernel
theorem dX10_copy_60 : decode cX10_copy 60 = .ok (.ifCond .lt 60, 3) := by decide +kernel
theorem dX10_copy_63 : decode cX10_copy 63 = .ok (.iload_n 2, 1) := by decide +kernel
theorem dX10_copy_64 : decode cX10_copy 64 = .ok (.ifCond .lt 56, 3) := by decide +kernel
theorem dX10_copy_67 : decode cX10_copy 67 = .ok (.iload 4, 2) := by decide +kernel
theorem dX10_copy_69 : decode cX10_copy 69 = .ok (.ifCond .lt 51, 3) := by decide +kernel
theorem dX10_copy_72 : decode cX10_copy 72 = .ok (.iload_n 2, 1) := by decide +kernel
theorem dX10_copy_73 : decode cX10_copy 73 = .ok (.aload_n 0, 1) := by decide +kernel
theorem dX10_copy_74 : decode cX10_copy 74 = .ok (.getfield 37, 3) := by decide +kernel
theorem dX10_copy_77 : decode cX10_copy 77 = .ok (.iload_n 1, 1) := by decide +kernel
theorem dX10_copy_78 : decode cX10_copy 78 = .ok (.iaload, 1) := by decide +kernel
theorem dX10_copy_79 : decode cX10_copy 79 = .ok (.if_icmp .gt 41, 3) := by decide +kernel
theorem dX10_copy_82 : decode cX10_copy 82 = .ok (.iload 4, 2) := by decide +kernel
theorem dX10_copy_84 : decode cX10_copy 84 = .ok (.aload_n 0, 1) := by decide +kernel
theorem dX10_copy_85 : decode cX10_copy 85 = .ok (.getfield 37, 3) := by decide +kernel
theorem dX10_copy_88 : decode cX10_copy 88 = .ok (.iload_n 3, 1) := by decide +kernel
theorem dX10_copy_89 : decode cX10_copy 89 = .ok (.iaload, 1) := by decide +kernel
theorem dX10_copy_90 : decode cX10_copy 90 = .ok (.if_icmp .gt 30, 3) := by decide +kernel
theorem dX10_copy_93 : decode cX10_copy 93 = .ok (.iload 5, 2) := by decide +kernel
theorem dX10_copy_95 : decode cX10_copy 95 = .ok (.aload_n 0, 1) := by decide +kernel
theorem dX10_copy_96 : decode cX10_copy 96 = .ok (.getfield 37, 3) := by decide +kernel
theorem dX10_copy_99 : decode cX10_copy 99 = .ok (.iload_n 1, 1) := by decide +kernel
theorem dX10_copy_100 : decode cX10_copy 100 = .ok (.iaload, 1) := by decide +kernel
theorem dX10_copy_101 : decode cX10_copy 101 = .ok (.iload_n 2, 1) := by decide +kernel
theorem dX10_copy_102 : decode cX10_copy 102 = .ok (.isub, 1) := by decide +kernel
theorem dX10_copy_103 : decode cX10_copy 103 = .ok (.if_icmp .gt 17, 3) := by decide +kernel
theorem dX10_copy_106 : decode cX10_copy 106 = .ok (.iload 5, 2) := by decide +kernel
theorem dX10_copy_108 : decode cX10_copy 108 = .ok (.aload_n 0, 1) := by decide +kernel
theorem dX10_copy_109 : decode cX10_copy 109 = .ok (.getfield 37, 3) := by decide +kernel
theorem dX10_copy_112 : decode cX10_copy 112 = .ok (.iload_n 3, 1) := by decide +kernel
theorem dX10_copy_113 : decode cX10_copy 113 = .ok (.iaload, 1) := by decide +kernel
theorem dX10_copy_114 : decode cX10_copy 114 = .ok (.iload 4, 2) := by decide +kernel
theorem dX10_copy_116 : decode cX10_copy 116 = .ok (.isub, 1) := by decide +kernel
theorem dX10_copy_117 : decode cX10_copy 117 = .ok (.if_icmp .le 6, 3) := by decide +kernel
theorem dX10_copy_120 : decode cX10_copy 120 = .ok (.bipush (-12), 2) := by decide +kernel
theorem dX10_copy_122 : decode cX10_copy 122 = .ok (.ireturn, 1) := by decide +kernel
theorem dX10_copy_123 : decode cX10_copy 123 = .ok (.iconst 0, 1) := by decide +kernel
theorem dX10_copy_124 : decode cX10_copy 124 = .ok (.istore 6, 2) := by decide +kernel
theorem dX10_copy_126 : decode cX10_copy 126 = .ok (.iload 6, 2) := by decide +kernel
theorem dX10_copy_128 : decode cX10_copy 128 = .ok (.iload 5, 2) := by decide +kernel
theorem dX10_copy_130 : decode cX10_copy 130 = .ok (.if_icmp .ge 58, 3) := by decide +kernel
theorem dX10_copy_133 : decode cX10_copy 133 = .ok (.iload_n 2, 1) := by decide +kernel
theorem dX10_copy_134 : decode cX10_copy 134 = .ok (.iload 4, 2) := by decide +kernel
theorem dX10_copy_136 : decode cX10_copy 136 = .ok (.if_icmp .le 8, 3) := by decide +kernel
theorem dX10_copy_139 : decode cX10_copy 139 = .ok (.iload 6, 2) := by decide +kernel
theorem dX10_copy_141 : decode cX10_copy 141 = .ok (.goto 10, 3) := by decide +kernel
theorem dX10_copy_144 : decode cX10_copy 144 = .ok (.iload 5, 2) := by decide +kernel
theorem dX10_copy_146 : decode cX10_copy 146 = .ok (.iconst 1, 1) := by decide +kernel
theorem dX10_copy_147 : decode cX10_copy 147 = .ok (.isub, 1) := by decide +kernel
theorem dX10_copy_148 : decode cX10_copy 148 = .ok (.iload 6, 2) := by decide +kernel
theorem dX10_copy_150 : decode cX10_copy 150 = .ok (.isub, 1) := by decide +kernel
theorem dX10_copy_151 : decode cX10_copy 151 = .ok (.istore 7, 2) := by decide +kernel
theorem dX10_copy_153 : decode cX10_copy 153 = .ok (.aload_n 0, 1) := by decide +kernel
theorem dX10_copy_154 : decode cX10_copy 154 = .ok (.getfield 40, 3) := by decide +kernel
theorem dX10_copy_157 : decode cX10_copy 157 = .ok (.bipush 40, 2) := by decide +kernel
theorem dX10_copy_159 : decode cX10_copy 159 = .ok (.iload_n 3, 1) := by decide +kernel
theorem dX10_copy_160 : decode cX10_copy 160 = .ok (.imul, 1) := by decide +kernel
theorem dX10_copy_161 : decode cX10_copy 161 = .ok (.iload 4, 2) := by decide +kernel
theorem dX10_copy_163 : decode cX10_copy 163 = .ok (.iadd, 1) := by decide +kernel
theorem dX10_copy_164 : decode cX10_copy 164 = .ok (.iload 7, 2) := by decide +kernel
theorem dX10_copy_166 : decode cX10_copy 166 = .ok (.iadd, 1) := by decide +kernel
theorem dX10_copy_167 : decode cX10_copy 167 = .ok (.aload_n 0, 1) := by decide +kernel
theorem dX10_copy_168 : decode cX10_copy 168 = .ok (.getfield 40, 3) := by decide +kernel
theorem dX10_copy_171 : decode cX10_copy 171 = .ok (.bipush 40, 2) := by decide +kernel
theorem dX10_copy_173 : decode cX10_copy 173 = .ok (.iload_n 1, 1) := by decide +kernel
theorem dX10_copy_174 : decode cX10_copy 174 = .ok (.imul, 1) := by decide +kernel
theorem dX10_copy_175 : decode cX10_copy 175 = .ok (.iload_n 2, 1) := by decide +kernel
theorem dX10_copy_176 : decode cX10_copy 176 = .ok (.iadd, 1) := by decide +kernel
theorem dX10_copy_177 : decode cX10_copy 177 = .ok (.iload 7, 2) := by decide +kernel
theorem dX10_copy_179 : decode cX10_copy 179 = .ok (.iadd, 1) := by decide +kernel
theorem dX10_copy_180 : decode cX10_copy 180 = .ok (.iaload, 1) := by decide +kernel
theorem dX10_copy_181 : decode cX10_copy 181 = .ok (.iastore, 1) := by decide +kernel
theorem dX10_copy_182 : decode cX10_copy 182 = .ok (.iinc 6 1, 3) := by decide +kernel
theorem dX10_copy_185 : decode cX10_copy 185 = .ok (.goto (-59), 3) := by decide +kernel
theorem dX10_copy_188 : decode cX10_copy 188 = .ok (.iload 5, 2) := by decide +kernel
theorem dX10_copy_190 : decode cX10_copy 190 = .ok (.ireturn, 1) := by decide +kernel
theorem dX10_image_0 : decode cX10_image 0 = .ok (.iconst 0, 1) := by decide +kernel
theorem dX10_image_1 : decode cX10_image 1 = .ok (.istore_n 1, 1) := by decide +kernel
theorem dX10_image_2 : decode cX10_image 2 = .ok (.iload_n 1, 1) := by decide +kernel
theorem dX10_image_3 : decode cX10_image 3 = .ok (.sipush 5608, 3) := by decide +kernel
theorem dX10_image_6 : decode cX10_image 6 = .ok (.if_icmp .ge 21, 3) := by decide +kernel
theorem dX10_image_9 : decode cX10_image 9 = .ok (.aload_n 0, 1) := by decide +kernel
theorem dX10_image_10 : decode cX10_image 10 = .ok (.getfield 13, 3) := by decide +kernel
theorem dX10_image_13 : decode cX10_image 13 = .ok (.iload_n 1, 1) := by decide +kernel
theorem dX10_image_14 : decode cX10_image 14 = .ok (.aload_n 0, 1) := by decide +kernel
theorem dX10_image_15 : decode cX10_image 15 = .ok (.getfield 9, 3) := by decide +kernel
theorem dX10_image_18 : decode cX10_image 18 = .ok (.iload_n 1, 1) := by decide +kernel
theorem dX10_image_19 : decode cX10_image 19 = .ok (.iaload, 1) := by decide +kernel
theorem dX10_image_20 : decode cX10_image 20 = .ok (.iastore, 1) := by decide +kernel
theorem dX10_image_21 : decode cX10_image 21 = .ok (.iinc 1 1, 3) := by decide +kernel
theorem dX10_image_24 : decode cX10_image 24 = .ok (.goto (-22), 3) := by decide +kernel
theorem dX10_image_27 : decode cX10_image 27 = .ok (.aload_n 0, 1) := by decide +kernel
theorem dX10_image_28 : decode cX10_image 28 = .ok (.iconst 1, 1) := by decide +kernel
theorem dX10_image_29 : decode cX10_image 29 = .ok (.putfield 279, 3) := by decide +kernel
theorem dX10_image_32 : decode cX10_image 32 = .ok (.aload_n 0, 1) := by decide +kernel
theorem dX10_image_33 : decode cX10_image 33 = .ok (.getfield 9, 3) := by decide +kernel
theorem dX10_image_36 : decode cX10_image 36 = .ok (.iconst 0, 1) := by decide +kernel
theorem dX10_image_37 : decode cX10_image 37 = .ok (.iaload, 1) := by decide +kernel
theorem dX10_image_38 : decode cX10_image 38 = .ok (.ireturn, 1) := by decide +kernel
theorem dX10_back_0 : decode cX10_back 0 = .ok (.aload_n 0, 1) := by decide +kernel
theorem dX10_back_1 : decode cX10_back 1 = .ok (.getfield 279, 3) := by decide +kernel
theorem dX10_back_4 : decode cX10_back 4 = .ok (.ifCond .ne 6, 3) := by decide +kernel
theorem dX10_back_7 : decode cX10_back 7 = .ok (.bipush (-3), 2) := by decide +kernel
theorem dX10_back_9 : decode cX10_back 9 = .ok (.ireturn, 1) := by decide +kernel
theorem dX10_back_10 : decode cX10_back 10 = .ok (.iconst 0, 1) := by decide +kernel
theorem dX10_back_11 : decode cX10_back 11 = .ok (.istore_n 1, 1) := by decide +kernel
theorem dX10_back_12 : decode cX10_back 12 = .ok (.iload_n 1, 1) := by decide +kernel
theorem dX10_back_13 : decode cX10_back 13 = .ok (.sipush 5608, 3) := by decide +kernel
theorem dX10_back_16 : decode cX10_back 16 = .ok (.if_icmp .ge 21, 3) := by decide +kernel
theorem dX10_back_19 : decode cX10_back 19 = .ok (.aload_n 0, 1) := by decide +kernel
theorem dX10_back_20 : decode cX10_back 20 = .ok (.getfield 9, 3) := by decide +kernel
theorem dX10_back_23 : decode cX10_back 23 = .ok (.iload_n 1, 1) := by decide +kernel
theorem dX10_back_24 : decode cX10_back 24 = .ok (.aload_n 0, 1) := by decide +kernel
theorem dX10_back_25 : decode cX10_back 25 = .ok (.getfield 13, 3) := by decide +kernel
theorem dX10_back_28 : decode cX10_back 28 = .ok (.iload_n 1, 1) := by decide +kernel
theorem dX10_back_29 : decode cX10_back 29 = .ok (.iaload, 1) := by decide +kernel
theorem dX10_back_30 : decode cX10_back 30 = .ok (.iastore, 1) := by decide +kernel
theorem dX10_back_31 : decode cX10_back 31 = .ok (.iinc 1 1, 3) := by decide +kernel
theorem dX10_back_34 : decode cX10_back 34 = .ok (.goto (-22), 3) := by decide +kernel
theorem dX10_back_37 : decode cX10_back 37 = .ok (.aload_n 0, 1) := by decide +kernel
theorem dX10_back_38 : decode cX10_back 38 = .ok (.getfield 9, 3) := by decide +kernel
theorem dX10_back_41 : decode cX10_back 41 = .ok (.iconst 0, 1) := by decide +kernel
theorem dX10_back_42 : decode cX10_back 42 = .ok (.iaload, 1) := by decide +kernel
theorem dX10_back_43 : decode cX10_back 43 = .ok (.ireturn, 1) := by decide +kernel
theorem dX10_tiles_0 : decode cX10_tiles 0 = .ok (.iconst 0, 1) := by decide +kernel
theorem dX10_tiles_1 : decode cX10_tiles 1 = .ok (.istore_n 1, 1) := by decide +kernel
theorem dX10_tiles_2 : decode cX10_tiles 2 = .ok (.iconst 0, 1) := by decide +kernel
theorem dX10_tiles_3 : decode cX10_tiles 3 = .ok (.istore_n 2, 1) := by decide +kernel
theorem dX10_tiles_4 : decode cX10_tiles 4 = .ok (.iload_n 2, 1) := by decide +kernel
theorem dX10_tiles_5 : decode cX10_tiles 5 = .ok (.aload_n 0, 1) := by decide +kernel
theorem dX10_tiles_6 : decode cX10_tiles 6 = .ok (.getfield 9, 3) := by decide +kernel
theorem dX10_tiles_9 : decode cX10_tiles 9 = .ok (.bipush 7, 2) := by decide +kernel
theorem dX10_tiles_11 : decode cX10_tiles 11 = .ok (.iaload, 1) := by decide +kernel
theorem dX10_tiles_12 : decode cX10_tiles 12 = .ok (.if_icmp .ge 31, 3) := by decide +kernel
theorem dX10_tiles_15 : decode cX10_tiles 15 = .ok (.iload_n 1, 1) := by decide +kernel
theorem dX10_tiles_16 : decode cX10_tiles 16 = .ok (.aload_n 0, 1) := by decide +kernel
theorem dX10_tiles_17 : decode cX10_tiles 17 = .ok (.getfield 9, 3) := by decide +kernel
theorem dX10_tiles_20 : decode cX10_tiles 20 = .ok (.sipush 1748, 3) := by decide +kernel
theorem dX10_tiles_23 : decode cX10_tiles 23 = .ok (.sipush 386, 3) := by decide +kernel
theorem dX10_tiles_26 : decode cX10_tiles 26 = .ok (.iload_n 2, 1) := by decide +kernel
theorem dX10_tiles_27 : decode cX10_tiles 27 = .ok (.imul, 1) := by decide +kernel
theorem dX10_tiles_28 : decode cX10_tiles 28 = .ok (.iadd, 1) := by decide +kernel
theorem dX10_tiles_29 : decode cX10_tiles 29 = .ok (.iconst 1, 1) := by decide +kernel
theorem dX10_tiles_30 : decode cX10_tiles 30 = .ok (.iadd, 1) := by decide +kernel
theorem dX10_tiles_31 : decode cX10_tiles 31 = .ok (.iaload, 1) := by decide +kernel
theorem dX10_tiles_32 : decode cX10_tiles 32 = .ok (.invokestatic 218, 3) := by decide +kernel
theorem dX10_tiles_35 : decode cX10_tiles 35 = .ok (.iadd, 1) := by decide +kernel
theorem dX10_tiles_36 : decode cX10_tiles 36 = .ok (.istore_n 1, 1) := by decide +kernel
theorem dX10_tiles_37 : decode cX10_tiles 37 = .ok (.iinc 2 1, 3) := by decide +kernel
theorem dX10_tiles_40 : decode cX10_tiles 40 = .ok (.goto (-36), 3) := by decide +kernel
theorem dX10_tiles_43 : decode cX10_tiles 43 = .ok (.iload_n 1, 1) := by decide +kernel
theorem dX10_tiles_44 : decode cX10_tiles 44 = .ok (.ireturn, 1) := by decide +kernel
theorem dX10_count_0 : decode cX10_count 0 = .ok (.iload_n 1, 1) := by decide +kernel
theorem dX10_count_1 : decode cX10_count 1 = .ok (.tableswitch 107 0 7 #[47, 54, 62, 78, 83, 88, 95, 102], 47) := by decide +kernel
theorem dX10_count_48 : decode cX10_count 48 = .ok (.aload_n 0, 1) := by decide +kernel
theorem dX10_count_49 : decode cX10_count 49 = .ok (.getfield 9, 3) := by decide +kernel
theorem dX10_count_52 : decode cX10_count 52 = .ok (.iconst 0, 1) := by decide +kernel
theorem dX10_count_53 : decode cX10_count 53 = .ok (.iaload, 1) := by decide +kernel
theorem dX10_count_54 : decode cX10_count 54 = .ok (.ireturn, 1) := by decide +kernel
theorem dX10_count_55 : decode cX10_count 55 = .ok (.aload_n 0, 1) := by decide +kernel
theorem dX10_count_56 : decode cX10_count 56 = .ok (.getfield 9, 3) := by decide +kernel
theorem dX10_count_59 : decode cX10_count 59 = .ok (.bipush 6, 2) := by decide +kernel
theorem dX10_count_61 : decode cX10_count 61 = .ok (.iaload, 1) := by decide +kernel
theorem dX10_count_62 : decode cX10_count 62 = .ok (.ireturn, 1) := by decide +kernel
theorem dX10_count_63 : decode cX10_count 63 = .ok (.aload_n 0, 1) := by decide +kernel
theorem dX10_count_64 : decode cX10_count 64 = .ok (.getfield 9, 3) := by decide +kernel
theorem dX10_count_67 : decode cX10_count 67 = .ok (.bipush 7, 2) := by decide +kernel
theorem dX10_count_69 : decode cX10_count 69 = .ok (.iaload, 1) := by decide +kernel
theorem dX10_count_70 : decode cX10_count 70 = .ok (.aload_n 0, 1) := by decide +kernel
theorem dX10_count_71 : decode cX10_count 71 = .ok (.getfield 9, 3) := by decide +kernel
theorem dX10_count_74 : decode cX10_count 74 = .ok (.bipush 6, 2) := by decide +kernel
theorem dX10_count_76 : decode cX10_count 76 = .ok (.iaload, 1) := by decide +kernel
theorem dX10_count_77 : decode cX10_count 77 = .ok (.isub, 1) := by decide +kernel
theorem dX10_count_78 : decode cX10_count 78 = .ok (.ireturn, 1) := by decide +kernel
theorem dX10_count_79 : decode cX10_count 79 = .ok (.aload_n 0, 1) := by decide +kernel
theorem dX10_count_80 : decode cX10_count 80 = .ok (.invokevirtual 282, 3) := by decide +kernel
theorem dX10_count_83 : decode cX10_count 83 = .ok (.ireturn, 1) := by decide +kernel
theorem dX10_count_84 : decode cX10_count 84 = .ok (.aload_n 0, 1) := by decide +kernel
theorem dX10_count_85 : decode cX10_count 85 = .ok (.invokevirtual 109, 3) := by decide +kernel
theorem dX10_count_88 : decode cX10_count 88 = .ok (.ireturn, 1) := by decide +kernel
theorem dX10_count_89 : decode cX10_count 89 = .ok (.aload_n 0, 1) := by decide +kernel
theorem dX10_count_90 : decode cX10_count 90 = .ok (.getfield 9, 3) := by decide +kernel
theorem dX10_count_93 : decode cX10_count 93 = .ok (.iconst 5, 1) := by decide +kernel
theorem dX10_count_94 : decode cX10_count 94 = .ok (.iaload, 1) := by decide +kernel
theorem dX10_count_95 : decode cX10_count 95 = .ok (.ireturn, 1) := by decide +kernel
theorem dX10_count_96 : decode cX10_count 96 = .ok (.aload_n 0, 1) := by decide +kernel
theorem dX10_count_97 : decode cX10_count 97 = .ok (.getfield 9, 3) := by decide +kernel
theorem dX10_count_100 : decode cX10_count 100 = .ok (.iconst 4, 1) := by decide +kernel
theorem dX10_count_101 : decode cX10_count 101 = .ok (.iaload, 1) := by decide +kernel
theorem dX10_count_102 : decode cX10_count 102 = .ok (.ireturn, 1) := by decide +kernel
theorem dX10_count_103 : decode cX10_count 103 = .ok (.aload_n 0, 1) := by decide +kernel
theorem dX10_count_104 : decode cX10_count 104 = .ok (.getfield 124, 3) := by decide +kernel
theorem dX10_count_107 : decode cX10_count 107 = .ok (.ireturn, 1) := by decide +kernel
theorem dX10_count_108 : decode cX10_count 108 = .ok (.bipush (-2), 2) := by decide +kernel
theorem dX10_count_110 : decode cX10_count 110 = .ok (.ireturn, 1) := by decide +kernel
theorem dJ6_bitCount_0f7a4_0 : decode cJ6_bitCount_0f7a4 0 = .ok (.iload_n 0, 1) := by decide +kernel
theorem dJ6_bitCount_0f7a4_1 : decode cJ6_bitCount_0f7a4 1 = .ok (.iload_n 0, 1) := by decide +kernel
theorem dJ6_bitCount_0f7a4_2 : decode cJ6_bitCount_0f7a4 2 = .ok (.iconst 1, 1) := by decide +kernel
theorem dJ6_bitCount_0f7a4_3 : decode cJ6_bitCount_0f7a4 3 = .ok (.iushr, 1) := by decide +kernel
theorem dJ6_bitCount_0f7a4_4 : decode cJ6_bitCount_0f7a4 4 = .ok (.ldc_w 265, 3) := by decide +kernel
theorem dJ6_bitCount_0f7a4_7 : decode cJ6_bitCount_0f7a4 7 = .ok (.iand, 1) := by decide +kernel
theorem dJ6_bitCount_0f7a4_8 : decode cJ6_bitCount_0f7a4 8 = .ok (.isub, 1) := by decide +kernel
theorem dJ6_bitCount_0f7a4_9 : decode cJ6_bitCount_0f7a4 9 = .ok (.istore_n 0, 1) := by decide +kernel
theorem dJ6_bitCount_0f7a4_10 : decode cJ6_bitCount_0f7a4 10 = .ok (.iload_n 0, 1) := by decide +kernel
theorem dJ6_bitCount_0f7a4_11 : decode cJ6_bitCount_0f7a4 11 = .ok (.ldc_w 266, 3) := by decide +kernel
theorem dJ6_bitCount_0f7a4_14 : decode cJ6_bitCount_0f7a4 14 = .ok (.iand, 1) := by decide +kernel
theorem dJ6_bitCount_0f7a4_15 : decode cJ6_bitCount_0f7a4 15 = .ok (.iload_n 0, 1) := by decide +kernel
theorem dJ6_bitCount_0f7a4_16 : decode cJ6_bitCount_0f7a4 16 = .ok (.iconst 2, 1) := by decide +kernel
theorem dJ6_bitCount_0f7a4_17 : decode cJ6_bitCount_0f7a4 17 = .ok (.iushr, 1) := by decide +kernel
theorem dJ6_bitCount_0f7a4_18 : decode cJ6_bitCount_0f7a4 18 = .ok (.ldc_w 266, 3) := by decide +kernel
theorem dJ6_bitCount_0f7a4_21 : decode cJ6_bitCount_0f7a4 21 = .ok (.iand, 1) := by decide +kernel
theorem dJ6_bitCount_0f7a4_22 : decode cJ6_bitCount_0f7a4 22 = .ok (.iadd, 1) := by decide +kernel
theorem dJ6_bitCount_0f7a4_23 : decode cJ6_bitCount_0f7a4 23 = .ok (.istore_n 0, 1) := by decide +kernel
theorem dJ6_bitCount_0f7a4_24 : decode cJ6_bitCount_0f7a4 24 = .ok (.iload_n 0, 1) := by decide +kernel
theorem dJ6_bitCount_0f7a4_25 : decode cJ6_bitCount_0f7a4 25 = .ok (.iload_n 0, 1) := by decide +kernel
theorem dJ6_bitCount_0f7a4_26 : decode cJ6_bitCount_0f7a4 26 = .ok (.iconst 4, 1) := by decide +kernel
theorem dJ6_bitCount_0f7a4_27 : decode cJ6_bitCount_0f7a4 27 = .ok (.iushr, 1) := by decide +kernel
theorem dJ6_bitCount_0f7a4_28 : decode cJ6_bitCount_0f7a4 28 = .ok (.iadd, 1) := by decide +kernel
theorem dJ6_bitCount_0f7a4_29 : decode cJ6_bitCount_0f7a4 29 = .ok (.ldc_w 267, 3) := by decide +kernel
theorem dJ6_bitCount_0f7a4_32 : decode cJ6_bitCount_0f7a4 32 = .ok (.iand, 1) := by decide +kernel
theorem dJ6_bitCount_0f7a4_33 : decode cJ6_bitCount_0f7a4 33 = .ok (.istore_n 0, 1) := by decide +kernel
theorem dJ6_bitCount_0f7a4_34 : decode cJ6_bitCount_0f7a4 34 = .ok (.iload_n 0, 1) := by decide +kernel
theorem dJ6_bitCount_0f7a4_35 : decode cJ6_bitCount_0f7a4 35 = .ok (.iload_n 0, 1) := by decide +kernel
theorem dJ6_bitCount_0f7a4_36 : decode cJ6_bitCount_0f7a4 36 = .ok (.bipush 8, 2) := by decide +kernel
theorem dJ6_bitCount_0f7a4_38 : decode cJ6_bitCount_0f7a4 38 = .ok (.iushr, 1) := by decide +kernel
theorem dJ6_bitCount_0f7a4_39 : decode cJ6_bitCount_0f7a4 39 = .ok (.iadd, 1) := by decide +kernel
theorem dJ6_bitCount_0f7a4_40 : decode cJ6_bitCount_0f7a4 40 = .ok (.istore_n 0, 1) := by decide +kernel
theorem dJ6_bitCount_0f7a4_41 : decode cJ6_bitCount_0f7a4 41 = .ok (.iload_n 0, 1) := by decide +kernel
theorem dJ6_bitCount_0f7a4_42 : decode cJ6_bitCount_0f7a4 42 = .ok (.iload_n 0, 1) := by decide +kernel
theorem dJ6_bitCount_0f7a4_43 : decode cJ6_bitCount_0f7a4 43 = .ok (.bipush 16, 2) := by decide +kernel
theorem dJ6_bitCount_0f7a4_45 : decode cJ6_bitCount_0f7a4 45 = .ok (.iushr, 1) := by decide +kernel
theorem dJ6_bitCount_0f7a4_46 : decode cJ6_bitCount_0f7a4 46 = .ok (.iadd, 1) := by decide +kernel
theorem dJ6_bitCount_0f7a4_47 : decode cJ6_bitCount_0f7a4 47 = .ok (.istore_n 0, 1) := by decide +kernel
theorem dJ6_bitCount_0f7a4_48 : decode cJ6_bitCount_0f7a4 48 = .ok (.iload_n 0, 1) := by decide +kernel
theorem dJ6_bitCount_0f7a4_49 : decode cJ6_bitCount_0f7a4 49 = .ok (.bipush 63, 2) := by decide +kernel
theorem dJ6_bitCount_0f7a4_51 : decode cJ6_bitCount_0f7a4 51 = .ok (.iand, 1) := by decide +kernel
theorem dJ6_bitCount_0f7a4_52 : decode cJ6_bitCount_0f7a4 52 = .ok (.ireturn, 1) := by decide +kernel
theorem dJ9_floorDiv_7cf53_0 : decode cJ9_floorDiv_7cf53 0 = .ok (.iload_n 0, 1) := by decide +kernel
theorem dJ9_floorDiv_7cf53_1 : decode cJ9_floorDiv_7cf53 1 = .ok (.iload_n 1, 1) := by decide +kernel
theorem dJ9_floorDiv_7cf53_2 : decode cJ9_floorDiv_7cf53 2 = .ok (.idiv, 1) := by decide +kernel
theorem dJ9_floorDiv_7cf53_3 : decode cJ9_floorDiv_7cf53 3 = .ok (.istore_n 2, 1) := by decide +kernel
theorem dJ9_floorDiv_7cf53_4 : decode cJ9_floorDiv_7cf53 4 = .ok (.iload_n 0, 1) := by decide +kernel
theorem dJ9_floorDiv_7cf53_5 : decode cJ9_floorDiv_7cf53 5 = .ok (.iload_n 1, 1) := by decide +kernel
theorem dJ9_floorDiv_7cf53_6 : decode cJ9_floorDiv_7cf53 6 = .ok (.ixor, 1) := by decide +kernel
theorem dJ9_floorDiv_7cf53_7 : decode cJ9_floorDiv_7cf53 7 = .ok (.ifCond .ge 14, 3) := by decide +kernel
theorem dJ9_floorDiv_7cf53_10 : decode cJ9_floorDiv_7cf53 10 = .ok (.iload_n 2, 1) := by decide +kernel
theorem dJ9_floorDiv_7cf53_11 : decode cJ9_floorDiv_7cf53 11 = .ok (.iload_n 1, 1) := by decide +kernel
theorem dJ9_floorDiv_7cf53_12 : decode cJ9_floorDiv_7cf53 12 = .ok (.imul, 1) := by decide +kernel
theorem dJ9_floorDiv_7cf53_13 : decode cJ9_floorDiv_7cf53 13 = .ok (.iload_n 0, 1) := by decide +kernel
theorem dJ9_floorDiv_7cf53_14 : decode cJ9_floorDiv_7cf53 14 = .ok (.if_icmp .eq 7, 3) := by decide +kernel
theorem dJ9_floorDiv_7cf53_17 : decode cJ9_floorDiv_7cf53 17 = .ok (.iload_n 2, 1) := by decide +kernel
theorem dJ9_floorDiv_7cf53_18 : decode cJ9_floorDiv_7cf53 18 = .ok (.iconst 1, 1) := by decide +kernel
theorem dJ9_floorDiv_7cf53_19 : decode cJ9_floorDiv_7cf53 19 = .ok (.isub, 1) := by decide +kernel
theorem dJ9_floorDiv_7cf53_20 : decode cJ9_floorDiv_7cf53 20 = .ok (.ireturn, 1) := by decide +kernel
theorem dJ9_floorDiv_7cf53_21 : decode cJ9_floorDiv_7cf53 21 = .ok (.iload_n 2, 1) := by decide +kernel
theorem dJ9_floorDiv_7cf53_22 : decode cJ9_floorDiv_7cf53 22 = .ok (.ireturn, 1) := by decide +kernel
theorem dJ9_abs_0f7a4_0 : decode cJ9_abs_0f7a4 0 = .ok (.iload_n 0, 1) := by decide +kernel
theorem dJ9_abs_0f7a4_1 : decode cJ9_abs_0f7a4 1 = .ok (.ifCond .ge 8, 3) := by decide +kernel
theorem dJ9_abs_0f7a4_4 : decode cJ9_abs_0f7a4 4 = .ok (.iload_n 0, 1) := by decide +kernel
theorem dJ9_abs_0f7a4_5 : decode cJ9_abs_0f7a4 5 = .ok (.ineg, 1) := by decide +kernel
theorem dJ9_abs_0f7a4_6 : decode cJ9_abs_0f7a4 6 = .ok (.goto 4, 3) := by decide +kernel
theorem dJ9_abs_0f7a4_9 : decode cJ9_abs_0f7a4 9 = .ok (.iload_n 0, 1) := by decide +kernel
theorem dJ9_abs_0f7a4_10 : decode cJ9_abs_0f7a4 10 = .ok (.ireturn, 1) := by decide +kernel
theorem dJ9_max_7cf53_0 : decode cJ9_max_7cf53 0 = .ok (.iload_n 0, 1) := by decide +kernel
theorem dJ9_max_7cf53_1 : decode cJ9_max_7cf53 1 = .ok (.iload_n 1, 1) := by decide +kernel
theorem dJ9_max_7cf53_2 : decode cJ9_max_7cf53 2 = .ok (.if_icmp .lt 7, 3) := by decide +kernel
theorem dJ9_max_7cf53_5 : decode cJ9_max_7cf53 5 = .ok (.iload_n 0, 1) := by decide +kernel
theorem dJ9_max_7cf53_6 : decode cJ9_max_7cf53 6 = .ok (.goto 4, 3) := by decide +kernel
theorem dJ9_max_7cf53_9 : decode cJ9_max_7cf53 9 = .ok (.iload_n 1, 1) := by decide +kernel
theorem dJ9_max_7cf53_10 : decode cJ9_max_7cf53 10 = .ok (.ireturn, 1) := by decide +kernel
theorem dJ9_min_7cf53_0 : decode cJ9_min_7cf53 0 = .ok (.iload_n 0, 1) := by decide +kernel
theorem dJ9_min_7cf53_1 : decode cJ9_min_7cf53 1 = .ok (.iload_n 1, 1) := by decide +kernel
theorem dJ9_min_7cf53_2 : decode cJ9_min_7cf53 2 = .ok (.if_icmp .gt 7, 3) := by decide +kernel
theorem dJ9_min_7cf53_5 : decode cJ9_min_7cf53 5 = .ok (.iload_n 0, 1) := by decide +kernel
theorem dJ9_min_7cf53_6 : decode cJ9_min_7cf53 6 = .ok (.goto 4, 3) := by decide +kernel
theorem dJ9_min_7cf53_9 : decode cJ9_min_7cf53 9 = .ok (.iload_n 1, 1) := by decide +kernel
theorem dJ9_min_7cf53_10 : decode cJ9_min_7cf53 10 = .ok (.ireturn, 1) := by decide +kernel
theorem dJ0_length_8abf5_0 : decode cJ0_length_8abf5 0 = .ok (.aload_n 0, 1) := by decide +kernel
theorem dJ0_length_8abf5_1 : decode cJ0_length_8abf5 1 = .ok (.getfield 9, 3) := by decide +kernel
theorem dJ0_length_8abf5_4 : decode cJ0_length_8abf5 4 = .ok (.arraylength, 1) := by decide +kernel
theorem dJ0_length_8abf5_5 : decode cJ0_length_8abf5 5 = .ok (.aload_n 0, 1) := by decide +kernel
theorem dJ0_length_8abf5_6 : decode cJ0_length_8abf5 6 = .ok (.invokevirtual 335, 3) := by decide +kernel
theorem dJ0_length_8abf5_9 : decode cJ0_length_8abf5 9 = .ok (.ishr, 1) := by decide +kernel
theorem dJ0_length_8abf5_10 : decode cJ0_length_8abf5 10 = .ok (.ireturn, 1) := by decide +kernel
theorem dJ0_charAt_5068e_0 : decode cJ0_charAt_5068e 0 = .ok (.aload_n 0, 1) := by decide +kernel
theorem dJ0_charAt_5068e_1 : decode cJ0_charAt_5068e 1 = .ok (.invokevirtual 492, 3) := by decide +kernel
theorem dJ0_charAt_5068e_4 : decode cJ0_charAt_5068e 4 = .ok (.ifCond .eq 12, 3) := by decide +kernel
theorem dJ0_charAt_5068e_7 : decode cJ0_charAt_5068e 7 = .ok (.aload_n 0, 1) := by decide +kernel
theorem dJ0_charAt_5068e_8 : decode cJ0_charAt_5068e 8 = .ok (.getfield 9, 3) := by decide +kernel
theorem dJ0_charAt_5068e_11 : decode cJ0_charAt_5068e 11 = .ok (.iload_n 1, 1) := by decide +kernel
theorem dJ0_charAt_5068e_12 : decode cJ0_charAt_5068e 12 = .ok (.invokestatic 495, 3) := by decide +kernel
theorem dJ0_charAt_5068e_15 : decode cJ0_charAt_5068e 15 = .ok (.ireturn, 1) := by decide +kernel
theorem dJ0_charAt_5068e_16 : decode cJ0_charAt_5068e 16 = .ok (.aload_n 0, 1) := by decide +kernel
theorem dJ0_charAt_5068e_17 : decode cJ0_charAt_5068e 17 = .ok (.getfield 9, 3) := by decide +kernel
theorem dJ0_charAt_5068e_20 : decode cJ0_charAt_5068e 20 = .ok (.iload_n 1, 1) := by decide +kernel
theorem dJ0_charAt_5068e_21 : decode cJ0_charAt_5068e 21 = .ok (.invokestatic 498, 3) := by decide +kernel
theorem dJ0_charAt_5068e_24 : decode cJ0_charAt_5068e 24 = .ok (.ireturn, 1) := by decide +kernel
theorem dJ0_coder_7d493_0 : decode cJ0_coder_7d493 0 = .ok (.getstatic 38, 3) := by decide +kernel
theorem dJ0_coder_7d493_3 : decode cJ0_coder_7d493 3 = .ok (.ifCond .eq 10, 3) := by decide +kernel
theorem dJ0_coder_7d493_6 : decode cJ0_coder_7d493 6 = .ok (.aload_n 0, 1) := by decide +kernel
theorem dJ0_coder_7d493_7 : decode cJ0_coder_7d493 7 = .ok (.getfield 15, 3) := by decide +kernel
theorem dJ0_coder_7d493_10 : decode cJ0_coder_7d493 10 = .ok (.goto 4, 3) := by decide +kernel
theorem dJ0_coder_7d493_13 : decode cJ0_coder_7d493 13 = .ok (.iconst 1, 1) := by decide +kernel
theorem dJ0_coder_7d493_14 : decode cJ0_coder_7d493 14 = .ok (.ireturn, 1) := by decide +kernel
theorem dJ0_isLatin1_aae02_0 : decode cJ0_isLatin1_aae02 0 = .ok (.getstatic 38, 3) := by decide +kernel
theorem dJ0_isLatin1_aae02_3 : decode cJ0_isLatin1_aae02 3 = .ok (.ifCond .eq 14, 3) := by decide +kernel
theorem dJ0_isLatin1_aae02_6 : decode cJ0_isLatin1_aae02 6 = .ok (.aload_n 0, 1) := by decide +kernel
theorem dJ0_isLatin1_aae02_7 : decode cJ0_isLatin1_aae02 7 = .ok (.getfield 15, 3) := by decide +kernel
theorem dJ0_isLatin1_aae02_10 : decode cJ0_isLatin1_aae02 10 = .ok (.ifCond .ne 7, 3) := by decide +kernel
theorem dJ0_isLatin1_aae02_13 : decode cJ0_isLatin1_aae02 13 = .ok (.iconst 1, 1) := by decide +kernel
theorem dJ0_isLatin1_aae02_14 : decode cJ0_isLatin1_aae02 14 = .ok (.goto 4, 3) := by decide +kernel
theorem dJ0_isLatin1_aae02_17 : decode cJ0_isLatin1_aae02 17 = .ok (.iconst 0, 1) := by decide +kernel
theorem dJ0_isLatin1_aae02_18 : decode cJ0_isLatin1_aae02 18 = .ok (.ireturn, 1) := by decide +kernel
theorem dJ0_checkIndex_df160_0 : decode cJ0_checkIndex_df160 0 = .ok (.iload_n 0, 1) := by decide +kernel
theorem dJ0_checkIndex_df160_1 : decode cJ0_checkIndex_df160 1 = .ok (.iload_n 1, 1) := by decide +kernel
theorem dJ0_checkIndex_df160_2 : decode cJ0_checkIndex_df160 2 = .ok (.getstatic 1053, 3) := by decide +kernel
theorem dJ0_checkIndex_df160_5 : decode cJ0_checkIndex_df160 5 = .ok (.invokestatic 1059, 3) := by decide +kernel
theorem dJ0_checkIndex_df160_8 : decode cJ0_checkIndex_df160 8 = .ok (.pop, 1) := by decide +kernel
theorem dJ0_checkIndex_df160_9 : decode cJ0_checkIndex_df160 9 = .ok (.return_, 1) := by decide +kernel
theorem dJ1_charAt_3b067_0 : decode cJ1_charAt_3b067 0 = .ok (.iload_n 1, 1) := by decide +kernel
theorem dJ1_charAt_3b067_1 : decode cJ1_charAt_3b067 1 = .ok (.aload_n 0, 1) := by decide +kernel
theorem dJ1_charAt_3b067_2 : decode cJ1_charAt_3b067 2 = .ok (.arraylength, 1) := by decide +kernel
theorem dJ1_charAt_3b067_3 : decode cJ1_charAt_3b067 3 = .ok (.invokestatic 9, 3) := by decide +kernel
theorem dJ1_charAt_3b067_6 : decode cJ1_charAt_3b067 6 = .ok (.aload_n 0, 1) := by decide +kernel
theorem dJ1_charAt_3b067_7 : decode cJ1_charAt_3b067 7 = .ok (.iload_n 1, 1) := by decide +kernel
theorem dJ1_charAt_3b067_8 : decode cJ1_charAt_3b067 8 = .ok (.baload, 1) := by decide +kernel
theorem dJ1_charAt_3b067_9 : decode cJ1_charAt_3b067 9 = .ok (.sipush 255, 3) := by decide +kernel
theorem dJ1_charAt_3b067_12 : decode cJ1_charAt_3b067 12 = .ok (.iand, 1) := by decide +kernel
theorem dJ1_charAt_3b067_13 : decode cJ1_charAt_3b067 13 = .ok (.i2c, 1) := by decide +kernel
theorem dJ1_charAt_3b067_14 : decode cJ1_charAt_3b067 14 = .ok (.ireturn, 1) := by decide +kernel
theorem dJ2_getChar_3b067_0 : decode cJ2_getChar_3b067 0 = .ok (.getstatic 44, 3) := by decide +kernel
theorem dJ2_getChar_3b067_3 : decode cJ2_getChar_3b067 3 = .ok (.ifCond .ne 25, 3) := by decide +kernel
theorem dJ2_getChar_3b067_6 : decode cJ2_getChar_3b067 6 = .ok (.iload_n 1, 1) := by decide +kernel
theorem dJ2_getChar_3b067_7 : decode cJ2_getChar_3b067 7 = .ok (.ifCond .lt 11, 3) := by decide +kernel
theorem dJ2_getChar_3b067_10 : decode cJ2_getChar_3b067 10 = .ok (.iload_n 1, 1) := by decide +kernel
theorem dJ2_getChar_3b067_11 : decode cJ2_getChar_3b067 11 = .ok (.aload_n 0, 1) := by decide +kernel
theorem dJ2_getChar_3b067_12 : decode cJ2_getChar_3b067 12 = .ok (.invokestatic 48, 3) := by decide +kernel
theorem dJ2_getChar_3b067_15 : decode cJ2_getChar_3b067 15 = .ok (.if_icmp .lt 13, 3) := by decide +kernel
theorem dJ2_getChar_3b067_18 : decode cJ2_getChar_3b067 18 = .ok (.new 52, 3) := by decide +kernel
theorem dJ2_getChar_3b067_21 : decode cJ2_getChar_3b067 21 = .ok (.dup, 1) := by decide +kernel
theorem dJ2_getChar_3b067_22 : decode cJ2_getChar_3b067 22 = .ok (.ldc 54, 2) := by decide +kernel
theorem dJ2_getChar_3b067_24 : decode cJ2_getChar_3b067 24 = .ok (.invokespecial 56, 3) := by decide +kernel
theorem dJ2_getChar_3b067_27 : decode cJ2_getChar_3b067 27 = .ok (.athrow, 1) := by decide +kernel
theorem dJ2_getChar_3b067_28 : decode cJ2_getChar_3b067 28 = .ok (.iload_n 1, 1) := by decide +kernel
theorem dJ2_getChar_3b067_29 : decode cJ2_getChar_3b067 29 = .ok (.iconst 1, 1) := by decide +kernel
theorem dJ2_getChar_3b067_30 : decode cJ2_getChar_3b067 30 = .ok (.ishl, 1) := by decide +kernel
theorem dJ2_getChar_3b067_31 : decode cJ2_getChar_3b067 31 = .ok (.istore_n 1, 1) := by decide +kernel
theorem dJ2_getChar_3b067_32 : decode cJ2_getChar_3b067 32 = .ok (.aload_n 0, 1) := by decide +kernel
theorem dJ2_getChar_3b067_33 : decode cJ2_getChar_3b067 33 = .ok (.iload_n 1, 1) := by decide +kernel
theorem dJ2_getChar_3b067_34 : decode cJ2_getChar_3b067 34 = .ok (.iinc 1 1, 3) := by decide +kernel
theorem dJ2_getChar_3b067_37 : decode cJ2_getChar_3b067 37 = .ok (.baload, 1) := by decide +kernel
theorem dJ2_getChar_3b067_38 : decode cJ2_getChar_3b067 38 = .ok (.sipush 255, 3) := by decide +kernel
theorem dJ2_getChar_3b067_41 : decode cJ2_getChar_3b067 41 = .ok (.iand, 1) := by decide +kernel
theorem dJ2_getChar_3b067_42 : decode cJ2_getChar_3b067 42 = .ok (.getstatic 59, 3) := by decide +kernel
theorem dJ2_getChar_3b067_45 : decode cJ2_getChar_3b067 45 = .ok (.ishl, 1) := by decide +kernel
theorem dJ2_getChar_3b067_46 : decode cJ2_getChar_3b067 46 = .ok (.aload_n 0, 1) := by decide +kernel
theorem dJ2_getChar_3b067_47 : decode cJ2_getChar_3b067 47 = .ok (.iload_n 1, 1) := by decide +kernel
theorem dJ2_getChar_3b067_48 : decode cJ2_getChar_3b067 48 = .ok (.baload, 1) := by decide +kernel
theorem dJ2_getChar_3b067_49 : decode cJ2_getChar_3b067 49 = .ok (.sipush 255, 3) := by decide +kernel
theorem dJ2_getChar_3b067_52 : decode cJ2_getChar_3b067 52 = .ok (.iand, 1) := by decide +kernel
theorem dJ2_getChar_3b067_53 : decode cJ2_getChar_3b067 53 = .ok (.getstatic 63, 3) := by decide +kernel
theorem dJ2_getChar_3b067_56 : decode cJ2_getChar_3b067 56 = .ok (.ishl, 1) := by decide +kernel
theorem dJ2_getChar_3b067_57 : decode cJ2_getChar_3b067 57 = .ok (.ior, 1) := by decide +kernel
theorem dJ2_getChar_3b067_58 : decode cJ2_getChar_3b067 58 = .ok (.i2c, 1) := by decide +kernel
theorem dJ2_getChar_3b067_59 : decode cJ2_getChar_3b067 59 = .ok (.ireturn, 1) := by decide +kernel
theorem dJ2_length_9d52b_0 : decode cJ2_length_9d52b 0 = .ok (.aload_n 0, 1) := by decide +kernel
theorem dJ2_length_9d52b_1 : decode cJ2_length_9d52b 1 = .ok (.arraylength, 1) := by decide +kernel
theorem dJ2_length_9d52b_2 : decode cJ2_length_9d52b 2 = .ok (.iconst 1, 1) := by decide +kernel
theorem dJ2_length_9d52b_3 : decode cJ2_length_9d52b 3 = .ok (.ishr, 1) := by decide +kernel
theorem dJ2_length_9d52b_4 : decode cJ2_length_9d52b 4 = .ok (.ireturn, 1) := by decide +kernel
theorem dJ2_charAt_3b067_0 : decode cJ2_charAt_3b067 0 = .ok (.iload_n 1, 1) := by decide +kernel
theorem dJ2_charAt_3b067_1 : decode cJ2_charAt_3b067 1 = .ok (.aload_n 0, 1) := by decide +kernel
theorem dJ2_charAt_3b067_2 : decode cJ2_charAt_3b067 2 = .ok (.invokestatic 67, 3) := by decide +kernel
theorem dJ2_charAt_3b067_5 : decode cJ2_charAt_3b067 5 = .ok (.aload_n 0, 1) := by decide +kernel
theorem dJ2_charAt_3b067_6 : decode cJ2_charAt_3b067 6 = .ok (.iload_n 1, 1) := by decide +kernel
theorem dJ2_charAt_3b067_7 : decode cJ2_charAt_3b067 7 = .ok (.invokestatic 71, 3) := by decide +kernel
theorem dJ2_charAt_3b067_10 : decode cJ2_charAt_3b067 10 = .ok (.ireturn, 1) := by decide +kernel
theorem dJ2_checkIndex_2214a_0 : decode cJ2_checkIndex_2214a 0 = .ok (.iload_n 0, 1) := by decide +kernel
theorem dJ2_checkIndex_2214a_1 : decode cJ2_checkIndex_2214a 1 = .ok (.aload_n 1, 1) := by decide +kernel
theorem dJ2_checkIndex_2214a_2 : decode cJ2_checkIndex_2214a 2 = .ok (.invokestatic 48, 3) := by decide +kernel
theorem dJ2_checkIndex_2214a_5 : decode cJ2_checkIndex_2214a 5 = .ok (.invokestatic 414, 3) := by decide +kernel
theorem dJ2_checkIndex_2214a_8 : decode cJ2_checkIndex_2214a 8 = .ok (.return_, 1) := by decide +kernel
theorem dJ7_fill_53178_0 : decode cJ7_fill_53178 0 = .ok (.iconst 0, 1) := by decide +kernel
theorem dJ7_fill_53178_1 : decode cJ7_fill_53178 1 = .ok (.istore_n 2, 1) := by decide +kernel
theorem dJ7_fill_53178_2 : decode cJ7_fill_53178 2 = .ok (.aload_n 0, 1) := by decide +kernel
theorem dJ7_fill_53178_3 : decode cJ7_fill_53178 3 = .ok (.arraylength, 1) := by decide +kernel
theorem dJ7_fill_53178_4 : decode cJ7_fill_53178 4 = .ok (.istore_n 3, 1) := by decide +kernel
theorem dJ7_fill_53178_5 : decode cJ7_fill_53178 5 = .ok (.iload_n 2, 1) := by decide +kernel
theorem dJ7_fill_53178_6 : decode cJ7_fill_53178 6 = .ok (.iload_n 3, 1) := by decide +kernel
theorem dJ7_fill_53178_7 : decode cJ7_fill_53178 7 = .ok (.if_icmp .ge 13, 3) := by decide +kernel
theorem dJ7_fill_53178_10 : decode cJ7_fill_53178 10 = .ok (.aload_n 0, 1) := by decide +kernel
theorem dJ7_fill_53178_11 : decode cJ7_fill_53178 11 = .ok (.iload_n 2, 1) := by decide +kernel
theorem dJ7_fill_53178_12 : decode cJ7_fill_53178 12 = .ok (.iload_n 1, 1) := by decide +kernel
theorem dJ7_fill_53178_13 : decode cJ7_fill_53178 13 = .ok (.iastore, 1) := by decide +kernel
theorem dJ7_fill_53178_14 : decode cJ7_fill_53178 14 = .ok (.iinc 2 1, 3) := by decide +kernel
theorem dJ7_fill_53178_17 : decode cJ7_fill_53178 17 = .ok (.goto (-12), 3) := by decide +kernel
theorem dJ7_fill_53178_20 : decode cJ7_fill_53178 20 = .ok (.return_, 1) := by decide +kernel
theorem dJ3_checkIndex_8e157_0 : decode cJ3_checkIndex_8e157 0 = .ok (.iload_n 0, 1) := by decide +kernel
theorem dJ3_checkIndex_8e157_1 : decode cJ3_checkIndex_8e157 1 = .ok (.ifCond .lt 8, 3) := by decide +kernel
theorem dJ3_checkIndex_8e157_4 : decode cJ3_checkIndex_8e157 4 = .ok (.iload_n 0, 1) := by decide +kernel
theorem dJ3_checkIndex_8e157_5 : decode cJ3_checkIndex_8e157 5 = .ok (.iload_n 1, 1) := by decide +kernel
theorem dJ3_checkIndex_8e157_6 : decode cJ3_checkIndex_8e157 6 = .ok (.if_icmp .lt 10, 3) := by decide +kernel
theorem dJ3_checkIndex_8e157_9 : decode cJ3_checkIndex_8e157 9 = .ok (.aload_n 2, 1) := by decide +kernel
theorem dJ3_checkIndex_8e157_10 : decode cJ3_checkIndex_8e157 10 = .ok (.iload_n 0, 1) := by decide +kernel
theorem dJ3_checkIndex_8e157_11 : decode cJ3_checkIndex_8e157 11 = .ok (.iload_n 1, 1) := by decide +kernel
theorem dJ3_checkIndex_8e157_12 : decode cJ3_checkIndex_8e157 12 = .ok (.invokestatic 95, 3) := by decide +kernel
theorem dJ3_checkIndex_8e157_15 : decode cJ3_checkIndex_8e157 15 = .ok (.athrow, 1) := by decide +kernel
theorem dJ3_checkIndex_8e157_16 : decode cJ3_checkIndex_8e157 16 = .ok (.iload_n 0, 1) := by decide +kernel
theorem dJ3_checkIndex_8e157_17 : decode cJ3_checkIndex_8e157 17 = .ok (.ireturn, 1) := by decide +kernel
theorem dL_law_0 : decode cL_law 0 = .ok (.new 7, 3) := by decide +kernel
theorem dL_law_3 : decode cL_law 3 = .ok (.dup, 1) := by decide +kernel
theorem dL_law_4 : decode cL_law 4 = .ok (.invokespecial 9, 3) := by decide +kernel
theorem dL_law_7 : decode cL_law 7 = .ok (.astore_n 1, 1) := by decide +kernel
theorem dL_law_8 : decode cL_law 8 = .ok (.new 10, 3) := by decide +kernel
theorem dL_law_11 : decode cL_law 11 = .ok (.dup, 1) := by decide +kernel
theorem dL_law_12 : decode cL_law 12 = .ok (.invokespecial 12, 3) := by decide +kernel
theorem dL_law_15 : decode cL_law 15 = .ok (.astore_n 2, 1) := by decide +kernel
theorem dL_law_16 : decode cL_law 16 = .ok (.iconst 0, 1) := by decide +kernel
theorem dL_law_17 : decode cL_law 17 = .ok (.istore_n 3, 1) := by decide +kernel
theorem dL_law_18 : decode cL_law 18 = .ok (.iload_n 3, 1) := by decide +kernel
theorem dL_law_19 : decode cL_law 19 = .ok (.aload_n 0, 1) := by decide +kernel
theorem dL_law_20 : decode cL_law 20 = .ok (.arraylength, 1) := by decide +kernel
theorem dL_law_21 : decode cL_law 21 = .ok (.bipush 7, 2) := by decide +kernel
theorem dL_law_23 : decode cL_law 23 = .ok (.isub, 1) := by decide +kernel
theorem dL_law_24 : decode cL_law 24 = .ok (.if_icmp .gt 1374, 3) := by decide +kernel
theorem dL_law_27 : decode cL_law 27 = .ok (.aload_n 0, 1) := by decide +kernel
theorem dL_law_28 : decode cL_law 28 = .ok (.iload_n 3, 1) := by decide +kernel
theorem dL_law_29 : decode cL_law 29 = .ok (.iaload, 1) := by decide +kernel
theorem dL_law_30 : decode cL_law 30 = .ok (.bipush 31, 2) := by decide +kernel
theorem dL_law_32 : decode cL_law 32 = .ok (.iand, 1) := by decide +kernel
theorem dL_law_33 : decode cL_law 33 = .ok (.tableswitch 1359 0 29 #[135, 178, 201, 234, 287, 320, 363, 416, 469, 502, 577, 600, 663, 716, 739, 802, 865, 888, 911, 944, 967, 1010, 1085, 1128, 1161, 1174, 1187, 1210, 1253, 1296], 135) := by decide +kernel
theorem dL_law_168 : decode cL_law 168 = .ok (.aload_n 1, 1) := by decide +kernel
theorem dL_law_169 : decode cL_law 169 = .ok (.aload_n 0, 1) := by decide +kernel
theorem dL_law_170 : decode cL_law 170 = .ok (.iload_n 3, 1) := by decide +kernel
theorem dL_law_171 : decode cL_law 171 = .ok (.iconst 1, 1) := by decide +kernel
theorem dL_law_172 : decode cL_law 172 = .ok (.iadd, 1) := by decide +kernel
theorem dL_law_173 : decode cL_law 173 = .ok (.iaload, 1) := by decide +kernel
theorem dL_law_174 : decode cL_law 174 = .ok (.aload_n 0, 1) := by decide +kernel
theorem dL_law_175 : decode cL_law 175 = .ok (.iload_n 3, 1) := by decide +kernel
theorem dL_law_176 : decode cL_law 176 = .ok (.iconst 2, 1) := by decide +kernel
theorem dL_law_177 : decode cL_law 177 = .ok (.iadd, 1) := by decide +kernel
theorem dL_law_178 : decode cL_law 178 = .ok (.iaload, 1) := by decide +kernel
theorem dL_law_179 : decode cL_law 179 = .ok (.aload_n 0, 1) := by decide +kernel
theorem dL_law_180 : decode cL_law 180 = .ok (.iload_n 3, 1) := by decide +kernel
theorem dL_law_181 : decode cL_law 181 = .ok (.iconst 3, 1) := by decide +kernel
theorem dL_law_182 : decode cL_law 182 = .ok (.iadd, 1) := by decide +kernel
theorem dL_law_183 : decode cL_law 183 = .ok (.iaload, 1) := by decide +kernel
theorem dL_law_184 : decode cL_law 184 = .ok (.invokevirtual 13, 3) := by decide +kernel
theorem dL_law_187 : decode cL_law 187 = .ok (.aload_n 2, 1) := by decide +kernel
theorem dL_law_188 : decode cL_law 188 = .ok (.aload_n 0, 1) := by decide +kernel
theorem dL_law_189 : decode cL_law 189 = .ok (.iload_n 3, 1) := by decide +kernel
theorem dL_law_190 : decode cL_law 190 = .ok (.iconst 1, 1) := by decide +kernel
theorem dL_law_191 : decode cL_law 191 = .ok (.iadd, 1) := by decide +kernel
theorem dL_law_192 : decode cL_law 192 = .ok (.iaload, 1) := by decide +kernel
theorem dL_law_193 : decode cL_law 193 = .ok (.aload_n 0, 1) := by decide +kernel
theorem dL_law_194 : decode cL_law 194 = .ok (.iload_n 3, 1) := by decide +kernel
theorem dL_law_195 : decode cL_law 195 = .ok (.iconst 2, 1) := by decide +kernel
theorem dL_law_196 : decode cL_law 196 = .ok (.iadd, 1) := by decide +kernel
theorem dL_law_197 : decode cL_law 197 = .ok (.iaload, 1) := by decide +kernel
theorem dL_law_198 : decode cL_law 198 = .ok (.aload_n 0, 1) := by decide +kernel
theorem dL_law_199 : decode cL_law 199 = .ok (.iload_n 3, 1) := by decide +kernel
theorem dL_law_200 : decode cL_law 200 = .ok (.iconst 3, 1) := by decide +kernel
theorem dL_law_201 : decode cL_law 201 = .ok (.iadd, 1) := by decide +kernel
theorem dL_law_202 : decode cL_law 202 = .ok (.iaload, 1) := by decide +kernel
theorem dL_law_203 : decode cL_law 203 = .ok (.invokevirtual 17, 3) := by decide +kernel
theorem dL_law_206 : decode cL_law 206 = .ok (.if_icmp .eq 1186, 3) := by decide +kernel
theorem dL_law_209 : decode cL_law 209 = .ok (.iconst 0, 1) := by decide +kernel
theorem dL_law_210 : decode cL_law 210 = .ok (.ireturn, 1) := by decide +kernel
theorem dL_law_211 : decode cL_law 211 = .ok (.aload_n 1, 1) := by decide +kernel
theorem dL_law_212 : decode cL_law 212 = .ok (.aload_n 0, 1) := by decide +kernel
theorem dL_law_213 : decode cL_law 213 = .ok (.iload_n 3, 1) := by decide +kernel
theorem dL_law_214 : decode cL_law 214 = .ok (.iconst 1, 1) := by decide +kernel
theorem dL_law_215 : decode cL_law 215 = .ok (.iadd, 1) := by decide +kernel
theorem dL_law_216 : decode cL_law 216 = .ok (.iaload, 1) := by decide +kernel
theorem dL_law_217 : decode cL_law 217 = .ok (.invokevirtual 18, 3) := by decide +kernel
theorem dL_law_220 : decode cL_law 220 = .ok (.aload_n 2, 1) := by decide +kernel
theorem dL_law_221 : decode cL_law 221 = .ok (.aload_n 0, 1) := by decide +kernel
theorem dL_law_222 : decode cL_law 222 = .ok (.iload_n 3, 1) := by decide +kernel
theorem dL_law_223 : decode cL_law 223 = .ok (.iconst 1, 1) := by decide +kernel
theorem dL_law_224 : decode cL_law 224 = .ok (.iadd, 1) := by decide +kernel
theorem dL_law_225 : decode cL_law 225 = .ok (.iaload, 1) := by decide +kernel
theorem dL_law_226 : decode cL_law 226 = .ok (.invokevirtual 22, 3) := by decide +kernel
theorem dL_law_229 : decode cL_law 229 = .ok (.if_icmp .eq 1163, 3) := by decide +kernel
theorem dL_law_232 : decode cL_law 232 = .ok (.iconst 0, 1) := by decide +kernel
theorem dL_law_233 : decode cL_law 233 = .ok (.ireturn, 1) := by decide +kernel
theorem dL_law_234 : decode cL_law 234 = .ok (.aload_n 1, 1) := by decide +kernel
theorem dL_law_235 : decode cL_law 235 = .ok (.aload_n 0, 1) := by decide +kernel
theorem dL_law_236 : decode cL_law 236 = .ok (.iload_n 3, 1) := by decide +kernel
theorem dL_law_237 : decode cL_law 237 = .ok (.iconst 1, 1) := by decide +kernel
theorem dL_law_238 : decode cL_law 238 = .ok (.iadd, 1) := by decide +kernel
theorem dL_law_239 : decode cL_law 239 = .ok (.iaload, 1) := by decide +kernel
theorem dL_law_240 : decode cL_law 240 = .ok (.aload_n 0, 1) := by decide +kernel
theorem dL_law_241 : decode cL_law 241 = .ok (.iload_n 3, 1) := by decide +kernel
theorem dL_law_242 : decode cL_law 242 = .ok (.iconst 2, 1) := by decide +kernel
theorem dL_law_243 : decode cL_law 243 = .ok (.iadd, 1) := by decide +kernel
theorem dL_law_244 : decode cL_law 244 = .ok (.iaload, 1) := by decide +kernel
theorem dL_law_245 : decode cL_law 245 = .ok (.invokevirtual 23, 3) := by decide +kernel
theorem dL_law_248 : decode cL_law 248 = .ok (.aload_n 2, 1) := by decide +kernel
theorem dL_law_249 : decode cL_law 249 = .ok (.aload_n 0, 1) := by decide +kernel
theorem dL_law_250 : decode cL_law 250 = .ok (.iload_n 3, 1) := by decide +kernel
theorem dL_law_251 : decode cL_law 251 = .ok (.iconst 1, 1) := by decide +kernel
theorem dL_law_252 : decode cL_law 252 = .ok (.iadd, 1) := by decide +kernel
theorem dL_law_253 : decode cL_law 253 = .ok (.iaload, 1) := by decide +kernel
theorem dL_law_254 : decode cL_law 254 = .ok (.aload_n 0, 1) := by decide +kernel
theorem dL_law_255 : decode cL_law 255 = .ok (.iload_n 3, 1) := by decide +kernel
theorem dL_law_256 : decode cL_law 256 = .ok (.iconst 2, 1) := by decide +kernel
theorem dL_law_257 : decode cL_law 257 = .ok (.iadd, 1) := by decide +kernel
theorem dL_law_258 : decode cL_law 258 = .ok (.iaload, 1) := by decide +kernel
theorem dL_law_259 : decode cL_law 259 = .ok (.invokevirtual 27, 3) := by decide +kernel
theorem dL_law_262 : decode cL_law 262 = .ok (.if_icmp .eq 1130, 3) := by decide +kernel
theorem dL_law_265 : decode cL_law 265 = .ok (.iconst 0, 1) := by decide +kernel
theorem dL_law_266 : decode cL_law 266 = .ok (.ireturn, 1) := by decide +kernel
theorem dL_law_267 : decode cL_law 267 = .ok (.aload_n 1, 1) := by decide +kernel
theorem dL_law_268 : decode cL_law 268 = .ok (.aload_n 0, 1) := by decide +kernel
theorem dL_law_269 : decode cL_law 269 = .ok (.iload_n 3, 1) := by decide +kernel
theorem dL_law_270 : decode cL_law 270 = .ok (.iconst 1, 1) := by decide +kernel
theorem dL_law_271 : decode cL_law 271 = .ok (.iadd, 1) := by decide +kernel
theorem dL_law_272 : decode cL_law 272 = .ok (.iaload, 1) := by decide +kernel
theorem dL_law_273 : decode cL_law 273 = .ok (.aload_n 0, 1) := by decide +kernel
theorem dL_law_274 : decode cL_law 274 = .ok (.iload_n 3, 1) := by decide +kernel
theorem dL_law_275 : decode cL_law 275 = .ok (.iconst 2, 1) := by decide +kernel
theorem dL_law_276 : decode cL_law 276 = .ok (.iadd, 1) := by decide +kernel
theorem dL_law_277 : decode cL_law 277 = .ok (.iaload, 1) := by decide +kernel
theorem dL_law_278 : decode cL_law 278 = .ok (.aload_n 0, 1) := by decide +kernel
theorem dL_law_279 : decode cL_law 279 = .ok (.iload_n 3, 1) := by decide +kernel
theorem dL_law_280 : decode cL_law 280 = .ok (.iconst 3, 1) := by decide +kernel
theorem dL_law_281 : decode cL_law 281 = .ok (.iadd, 1) := by decide +kernel
theorem dL_law_282 : decode cL_law 282 = .ok (.iaload, 1) := by decide +kernel
theorem dL_law_283 : decode cL_law 283 = .ok (.aload_n 0, 1) := by decide +kernel
theorem dL_law_284 : decode cL_law 284 = .ok (.iload_n 3, 1) := by decide +kernel
theorem dL_law_285 : decode cL_law 285 = .ok (.iconst 4, 1) := by decide +kernel
theorem dL_law_286 : decode cL_law 286 = .ok (.iadd, 1) := by decide +kernel
theorem dL_law_287 : decode cL_law 287 = .ok (.iaload, 1) := by decide +kernel
theorem dL_law_288 : decode cL_law 288 = .ok (.invokevirtual 28, 3) := by decide +kernel
theorem dL_law_291 : decode cL_law 291 = .ok (.aload_n 2, 1) := by decide +kernel
theorem dL_law_292 : decode cL_law 292 = .ok (.aload_n 0, 1) := by decide +kernel
theorem dL_law_293 : decode cL_law 293 = .ok (.iload_n 3, 1) := by decide +kernel
theorem dL_law_294 : decode cL_law 294 = .ok (.iconst 1, 1) := by decide +kernel
theorem dL_law_295 : decode cL_law 295 = .ok (.iadd, 1) := by decide +kernel
theorem dL_law_296 : decode cL_law 296 = .ok (.iaload, 1) := by decide +kernel
theorem dL_law_297 : decode cL_law 297 = .ok (.aload_n 0, 1) := by decide +kernel
theorem dL_law_298 : decode cL_law 298 = .ok (.iload_n 3, 1) := by decide +kernel
theorem dL_law_299 : decode cL_law 299 = .ok (.iconst 2, 1) := by decide +kernel
theorem dL_law_300 : decode cL_law 300 = .ok (.iadd, 1) := by decide +kernel
theorem dL_law_301 : decode cL_law 301 = .ok (.iaload, 1) := by decide +kernel
theorem dL_law_302 : decode cL_law 302 = .ok (.aload_n 0, 1) := by decide +kernel
theorem dL_law_303 : decode cL_law 303 = .ok (.iload_n 3, 1) := by decide +kernel
theorem dL_law_304 : decode cL_law 304 = .ok (.iconst 3, 1) := by decide +kernel
theorem dL_law_305 : decode cL_law 305 = .ok (.iadd, 1) := by decide +kernel
theorem dL_law_306 : decode cL_law 306 = .ok (.iaload, 1) := by decide +kernel
theorem dL_law_307 : decode cL_law 307 = .ok (.aload_n 0, 1) := by decide +kernel
theorem dL_law_308 : decode cL_law 308 = .ok (.iload_n 3, 1) := by decide +kernel
theorem dL_law_309 : decode cL_law 309 = .ok (.iconst 4, 1) := by decide +kernel
theorem dL_law_310 : decode cL_law 310 = .ok (.iadd, 1) := by decide +kernel
theorem dL_law_311 : decode cL_law 311 = .ok (.iaload, 1) := by decide +kernel
theorem dL_law_312 : decode cL_law 312 = .ok (.invokevirtual 32, 3) := by decide +kernel
theorem dL_law_315 : decode cL_law 315 = .ok (.if_icmp .eq 1077, 3) := by decide +kernel
theorem dL_law_318 : decode cL_law 318 = .ok (.iconst 0, 1) := by decide +kernel
theorem dL_law_319 : decode cL_law 319 = .ok (.ireturn, 1) := by decide +kernel
theorem dL_law_320 : decode cL_law 320 = .ok (.aload_n 1, 1) := by decide +kernel
theorem dL_law_321 : decode cL_law 321 = .ok (.aload_n 0, 1) := by decide +kernel
theorem dL_law_322 : decode cL_law 322 = .ok (.iload_n 3, 1) := by decide +kernel
theorem dL_law_323 : decode cL_law 323 = .ok (.iconst 1, 1) := by decide +kernel
theorem dL_law_324 : decode cL_law 324 = .ok (.iadd, 1) := by decide +kernel
theorem dL_law_325 : decode cL_law 325 = .ok (.iaload, 1) := by decide +kernel
theorem dL_law_326 : decode cL_law 326 = .ok (.aload_n 0, 1) := by decide +kernel
theorem dL_law_327 : decode cL_law 327 = .ok (.iload_n 3, 1) := by decide +kernel
theorem dL_law_328 : decode cL_law 328 = .ok (.iconst 2, 1) := by decide +kernel
theorem dL_law_329 : decode cL_law 329 = .ok (.iadd, 1) := by decide +kernel
theorem dL_law_330 : decode cL_law 330 = .ok (.iaload, 1) := by decide +kernel
theorem dL_law_331 : decode cL_law 331 = .ok (.invokevirtual 33, 3) := by decide +kernel
theorem dL_law_334 : decode cL_law 334 = .ok (.aload_n 2, 1) := by decide +kernel
theorem dL_law_335 : decode cL_law 335 = .ok (.aload_n 0, 1) := by decide +kernel
theorem dL_law_336 : decode cL_law 336 = .ok (.iload_n 3, 1) := by decide +kernel
theorem dL_law_337 : decode cL_law 337 = .ok (.iconst 1, 1) := by decide +kernel
theorem dL_law_338 : decode cL_law 338 = .ok (.iadd, 1) := by decide +kernel
theorem dL_law_339 : decode cL_law 339 = .ok (.iaload, 1) := by decide +kernel
theorem dL_law_340 : decode cL_law 340 = .ok (.aload_n 0, 1) := by decide +kernel
theorem dL_law_341 : decode cL_law 341 = .ok (.iload_n 3, 1) := by decide +kernel
theorem dL_law_342 : decode cL_law 342 = .ok (.iconst 2, 1) := by decide +kernel
theorem dL_law_343 : decode cL_law 343 = .ok (.iadd, 1) := by decide +kernel
theorem dL_law_344 : decode cL_law 344 = .ok (.iaload, 1) := by decide +kernel
theorem dL_law_345 : decode cL_law 345 = .ok (.invokevirtual 36, 3) := by decide +kernel
theorem dL_law_348 : decode cL_law 348 = .ok (.if_icmp .eq 1044, 3) := by decide +kernel
theorem dL_law_351 : decode cL_law 351 = .ok (.iconst 0, 1) := by decide +kernel
theorem dL_law_352 : decode cL_law 352 = .ok (.ireturn, 1) := by decide +kernel
theorem dL_law_353 : decode cL_law 353 = .ok (.aload_n 1, 1) := by decide +kernel
theorem dL_law_354 : decode cL_law 354 = .ok (.aload_n 0, 1) := by decide +kernel
theorem dL_law_355 : decode cL_law 355 = .ok (.iload_n 3, 1) := by decide +kernel
theorem dL_law_356 : decode cL_law 356 = .ok (.iconst 1, 1) := by decide +kernel
theorem dL_law_357 : decode cL_law 357 = .ok (.iadd, 1) := by decide +kernel
theorem dL_law_358 : decode cL_law 358 = .ok (.iaload, 1) := by decide +kernel
theorem dL_law_359 : decode cL_law 359 = .ok (.aload_n 0, 1) := by decide +kernel
theorem dL_law_360 : decode cL_law 360 = .ok (.iload_n 3, 1) := by decide +kernel
theorem dL_law_361 : decode cL_law 361 = .ok (.iconst 2, 1) := by decide +kernel
theorem dL_law_362 : decode cL_law 362 = .ok (.iadd, 1) := by decide +kernel
theorem dL_law_363 : decode cL_law 363 = .ok (.iaload, 1) := by decide +kernel
theorem dL_law_364 : decode cL_law 364 = .ok (.aload_n 0, 1) := by decide +kernel
theorem dL_law_365 : decode cL_law 365 = .ok (.iload_n 3, 1) := by decide +kernel
theorem dL_law_366 : decode cL_law 366 = .ok (.iconst 3, 1) := by decide +kernel
theorem dL_law_367 : decode cL_law 367 = .ok (.iadd, 1) := by decide +kernel
theorem dL_law_368 : decode cL_law 368 = .ok (.iaload, 1) := by decide +kernel
theorem dL_law_369 : decode cL_law 369 = .ok (.invokevirtual 37, 3) := by decide +kernel
theorem dL_law_372 : decode cL_law 372 = .ok (.aload_n 2, 1) := by decide +kernel
theorem dL_law_373 : decode cL_law 373 = .ok (.aload_n 0, 1) := by decide +kernel
theorem dL_law_374 : decode cL_law 374 = .ok (.iload_n 3, 1) := by decide +kernel
theorem dL_law_375 : decode cL_law 375 = .ok (.iconst 1, 1) := by decide +kernel
theorem dL_law_376 : decode cL_law 376 = .ok (.iadd, 1) := by decide +kernel
theorem dL_law_377 : decode cL_law 377 = .ok (.iaload, 1) := by decide +kernel
theorem dL_law_378 : decode cL_law 378 = .ok (.aload_n 0, 1) := by decide +kernel
theorem dL_law_379 : decode cL_law 379 = .ok (.iload_n 3, 1) := by decide +kernel
theorem dL_law_380 : decode cL_law 380 = .ok (.iconst 2, 1) := by decide +kernel
theorem dL_law_381 : decode cL_law 381 = .ok (.iadd, 1) := by decide +kernel
theorem dL_law_382 : decode cL_law 382 = .ok (.iaload, 1) := by decide +kernel
theorem dL_law_383 : decode cL_law 383 = .ok (.aload_n 0, 1) := by decide +kernel
theorem dL_law_384 : decode cL_law 384 = .ok (.iload_n 3, 1) := by decide +kernel
theorem dL_law_385 : decode cL_law 385 = .ok (.iconst 3, 1) := by decide +kernel
theorem dL_law_386 : decode cL_law 386 = .ok (.iadd, 1) := by decide +kernel
theorem dL_law_387 : decode cL_law 387 = .ok (.iaload, 1) := by decide +kernel
theorem dL_law_388 : decode cL_law 388 = .ok (.invokevirtual 40, 3) := by decide +kernel
theorem dL_law_391 : decode cL_law 391 = .ok (.if_icmp .eq 1001, 3) := by decide +kernel
theorem dL_law_394 : decode cL_law 394 = .ok (.iconst 0, 1) := by decide +kernel
theorem dL_law_395 : decode cL_law 395 = .ok (.ireturn, 1) := by decide +kernel
theorem dL_law_396 : decode cL_law 396 = .ok (.aload_n 1, 1) := by decide +kernel
theorem dL_law_397 : decode cL_law 397 = .ok (.aload_n 0, 1) := by decide +kernel
theorem dL_law_398 : decode cL_law 398 = .ok (.iload_n 3, 1) := by decide +kernel
theorem dL_law_399 : decode cL_law 399 = .ok (.iconst 1, 1) := by decide +kernel
theorem dL_law_400 : decode cL_law 400 = .ok (.iadd, 1) := by decide +kernel
theorem dL_law_401 : decode cL_law 401 = .ok (.iaload, 1) := by decide +kernel
theorem dL_law_402 : decode cL_law 402 = .ok (.aload_n 0, 1) := by decide +kernel
theorem dL_law_403 : decode cL_law 403 = .ok (.iload_n 3, 1) := by decide +kernel
theorem dL_law_404 : decode cL_law 404 = .ok (.iconst 2, 1) := by decide +kernel
theorem dL_law_405 : decode cL_law 405 = .ok (.iadd, 1) := by decide +kernel
theorem dL_law_406 : decode cL_law 406 = .ok (.iaload, 1) := by decide +kernel
theorem dL_law_407 : decode cL_law 407 = .ok (.aload_n 0, 1) := by decide +kernel
theorem dL_law_408 : decode cL_law 408 = .ok (.iload_n 3, 1) := by decide +kernel
theorem dL_law_409 : decode cL_law 409 = .ok (.iconst 3, 1) := by decide +kernel
theorem dL_law_410 : decode cL_law 410 = .ok (.iadd, 1) := by decide +kernel
theorem dL_law_411 : decode cL_law 411 = .ok (.iaload, 1) := by decide +kernel
theorem dL_law_412 : decode cL_law 412 = .ok (.aload_n 0, 1) := by decide +kernel
theorem dL_law_413 : decode cL_law 413 = .ok (.iload_n 3, 1) := by decide +kernel
theorem dL_law_414 : decode cL_law 414 = .ok (.iconst 4, 1) := by decide +kernel
theorem dL_law_415 : decode cL_law 415 = .ok (.iadd, 1) := by decide +kernel
theorem dL_law_416 : decode cL_law 416 = .ok (.iaload, 1) := by decide +kernel
theorem dL_law_417 : decode cL_law 417 = .ok (.invokevirtual 41, 3) := by decide +kernel
theorem dL_law_420 : decode cL_law 420 = .ok (.aload_n 2, 1) := by decide +kernel
theorem dL_law_421 : decode cL_law 421 = .ok (.aload_n 0, 1) := by decide +kernel
theorem dL_law_422 : decode cL_law 422 = .ok (.iload_n 3, 1) := by decide +kernel
theorem dL_law_423 : decode cL_law 423 = .ok (.iconst 1, 1) := by decide +kernel
theorem dL_law_424 : decode cL_law 424 = .ok (.iadd, 1) := by decide +kernel
theorem dL_law_425 : decode cL_law 425 = .ok (.iaload, 1) := by decide +kernel
theorem dL_law_426 : decode cL_law 426 = .ok (.aload_n 0, 1) := by decide +kernel
theorem dL_law_427 : decode cL_law 427 = .ok (.iload_n 3, 1) := by decide +kernel
theorem dL_law_428 : decode cL_law 428 = .ok (.iconst 2, 1) := by decide +kernel
theorem dL_law_429 : decode cL_law 429 = .ok (.iadd, 1) := by decide +kernel
theorem dL_law_430 : decode cL_law 430 = .ok (.iaload, 1) := by decide +kernel
theorem dL_law_431 : decode cL_law 431 = .ok (.aload_n 0, 1) := by decide +kernel
theorem dL_law_432 : decode cL_law 432 = .ok (.iload_n 3, 1) := by decide +kernel
theorem dL_law_433 : decode cL_law 433 = .ok (.iconst 3, 1) := by decide +kernel
theorem dL_law_434 : decode cL_law 434 = .ok (.iadd, 1) := by decide +kernel
theorem dL_law_435 : decode cL_law 435 = .ok (.iaload, 1) := by decide +kernel
theorem dL_law_436 : decode cL_law 436 = .ok (.aload_n 0, 1) := by decide +kernel
theorem dL_law_437 : decode cL_law 437 = .ok (.iload_n 3, 1) := by decide +kernel
theorem dL_law_438 : decode cL_law 438 = .ok (.iconst 4, 1) := by decide +kernel
theorem dL_law_439 : decode cL_law 439 = .ok (.iadd, 1) := by decide +kernel
theorem dL_law_440 : decode cL_law 440 = .ok (.iaload, 1) := by decide +kernel
theorem dL_law_441 : decode cL_law 441 = .ok (.invokevirtual 44, 3) := by decide +kernel
theorem dL_law_444 : decode cL_law 444 = .ok (.if_icmp .eq 948, 3) := by decide +kernel
theorem dL_law_447 : decode cL_law 447 = .ok (.iconst 0, 1) := by decide +kernel
theorem dL_law_448 : decode cL_law 448 = .ok (.ireturn, 1) := by decide +kernel
theorem dL_law_449 : decode cL_law 449 = .ok (.aload_n 1, 1) := by decide +kernel
theorem dL_law_450 : decode cL_law 450 = .ok (.aload_n 0, 1) := by decide +kernel
theorem dL_law_451 : decode cL_law 451 = .ok (.iload_n 3, 1) := by decide +kernel
theorem dL_law_452 : decode cL_law 452 = .ok (.iconst 1, 1) := by decide +kernel
theorem dL_law_453 : decode cL_law 453 = .ok (.iadd, 1) := by decide +kernel
theorem dL_law_454 : decode cL_law 454 = .ok (.iaload, 1) := by decide +kernel
theorem dL_law_455 : decode cL_law 455 = .ok (.aload_n 0, 1) := by decide +kernel
theorem dL_law_456 : decode cL_law 456 = .ok (.iload_n 3, 1) := by decide +kernel
theorem dL_law_457 : decode cL_law 457 = .ok (.iconst 2, 1) := by decide +kernel
theorem dL_law_458 : decode cL_law 458 = .ok (.iadd, 1) := by decide +kernel
theorem dL_law_459 : decode cL_law 459 = .ok (.iaload, 1) := by decide +kernel
theorem dL_law_460 : decode cL_law 460 = .ok (.aload_n 0, 1) := by decide +kernel
theorem dL_law_461 : decode cL_law 461 = .ok (.iload_n 3, 1) := by decide +kernel
theorem dL_law_462 : decode cL_law 462 = .ok (.iconst 3, 1) := by decide +kernel
theorem dL_law_463 : decode cL_law 463 = .ok (.iadd, 1) := by decide +kernel
theorem dL_law_464 : decode cL_law 464 = .ok (.iaload, 1) := by decide +kernel
theorem dL_law_465 : decode cL_law 465 = .ok (.aload_n 0, 1) := by decide +kernel
theorem dL_law_466 : decode cL_law 466 = .ok (.iload_n 3, 1) := by decide +kernel
theorem dL_law_467 : decode cL_law 467 = .ok (.iconst 4, 1) := by decide +kernel
theorem dL_law_468 : decode cL_law 468 = .ok (.iadd, 1) := by decide +kernel
theorem dL_law_469 : decode cL_law 469 = .ok (.iaload, 1) := by decide +kernel
theorem dL_law_470 : decode cL_law 470 = .ok (.invokevirtual 45, 3) := by decide +kernel
theorem dL_law_473 : decode cL_law 473 = .ok (.aload_n 2, 1) := by decide +kernel
theorem dL_law_474 : decode cL_law 474 = .ok (.aload_n 0, 1) := by decide +kernel
theorem dL_law_475 : decode cL_law 475 = .ok (.iload_n 3, 1) := by decide +kernel
theorem dL_law_476 : decode cL_law 476 = .ok (.iconst 1, 1) := by decide +kernel
theorem dL_law_477 : decode cL_law 477 = .ok (.iadd, 1) := by decide +kernel
theorem dL_law_478 : decode cL_law 478 = .ok (.iaload, 1) := by decide +kernel
theorem dL_law_479 : decode cL_law 479 = .ok (.aload_n 0, 1) := by decide +kernel
theorem dL_law_480 : decode cL_law 480 = .ok (.iload_n 3, 1) := by decide +kernel
theorem dL_law_481 : decode cL_law 481 = .ok (.iconst 2, 1) := by decide +kernel
theorem dL_law_482 : decode cL_law 482 = .ok (.iadd, 1) := by decide +kernel
theorem dL_law_483 : decode cL_law 483 = .ok (.iaload, 1) := by decide +kernel
theorem dL_law_484 : decode cL_law 484 = .ok (.aload_n 0, 1) := by decide +kernel
theorem dL_law_485 : decode cL_law 485 = .ok (.iload_n 3, 1) := by decide +kernel
theorem dL_law_486 : decode cL_law 486 = .ok (.iconst 3, 1) := by decide +kernel
theorem dL_law_487 : decode cL_law 487 = .ok (.iadd, 1) := by decide +kernel
theorem dL_law_488 : decode cL_law 488 = .ok (.iaload, 1) := by decide +kernel
theorem dL_law_489 : decode cL_law 489 = .ok (.aload_n 0, 1) := by decide +kernel
theorem dL_law_490 : decode cL_law 490 = .ok (.iload_n 3, 1) := by decide +kernel
theorem dL_law_491 : decode cL_law 491 = .ok (.iconst 4, 1) := by decide +kernel
theorem dL_law_492 : decode cL_law 492 = .ok (.iadd, 1) := by decide +kernel
theorem dL_law_493 : decode cL_law 493 = .ok (.iaload, 1) := by decide +kernel
theorem dL_law_494 : decode cL_law 494 = .ok (.invokevirtual 48, 3) := by decide +kernel
theorem dL_law_497 : decode cL_law 497 = .ok (.if_icmp .eq 895, 3) := by decide +kernel
theorem dL_law_500 : decode cL_law 500 = .ok (.iconst 0, 1) := by decide +kernel
theorem dL_law_501 : decode cL_law 501 = .ok (.ireturn, 1) := by decide +kernel
theorem dL_law_502 : decode cL_law 502 = .ok (.aload_n 1, 1) := by decide +kernel
theorem dL_law_503 : decode cL_law 503 = .ok (.aload_n 0, 1) := by decide +kernel
theorem dL_law_504 : decode cL_law 504 = .ok (.iload_n 3, 1) := by decide +kernel
theorem dL_law_505 : decode cL_law 505 = .ok (.iconst 1, 1) := by decide +kernel
theorem dL_law_506 : decode cL_law 506 = .ok (.iadd, 1) := by decide +kernel
theorem dL_law_507 : decode cL_law 507 = .ok (.iaload, 1) := by decide +kernel
theorem dL_law_508 : decode cL_law 508 = .ok (.aload_n 0, 1) := by decide +kernel
theorem dL_law_509 : decode cL_law 509 = .ok (.iload_n 3, 1) := by decide +kernel
theorem dL_law_510 : decode cL_law 510 = .ok (.iconst 2, 1) := by decide +kernel
theorem dL_law_511 : decode cL_law 511 = .ok (.iadd, 1) := by decide +kernel
theorem dL_law_512 : decode cL_law 512 = .ok (.iaload, 1) := by decide +kernel
theorem dL_law_513 : decode cL_law 513 = .ok (.invokevirtual 49, 3) := by decide +kernel
theorem dL_law_516 : decode cL_law 516 = .ok (.aload_n 2, 1) := by decide +kernel
theorem dL_law_517 : decode cL_law 517 = .ok (.aload_n 0, 1) := by decide +kernel
theorem dL_law_518 : decode cL_law 518 = .ok (.iload_n 3, 1) := by decide +kernel
theorem dL_law_519 : decode cL_law 519 = .ok (.iconst 1, 1) := by decide +kernel
theorem dL_law_520 : decode cL_law 520 = .ok (.iadd, 1) := by decide +kernel
theorem dL_law_521 : decode cL_law 521 = .ok (.iaload, 1) := by decide +kernel
theorem dL_law_522 : decode cL_law 522 = .ok (.aload_n 0, 1) := by decide +kernel
theorem dL_law_523 : decode cL_law 523 = .ok (.iload_n 3, 1) := by decide +kernel
theorem dL_law_524 : decode cL_law 524 = .ok (.iconst 2, 1) := by decide +kernel
theorem dL_law_525 : decode cL_law 525 = .ok (.iadd, 1) := by decide +kernel
theorem dL_law_526 : decode cL_law 526 = .ok (.iaload, 1) := by decide +kernel
theorem dL_law_527 : decode cL_law 527 = .ok (.invokevirtual 52, 3) := by decide +kernel
theorem dL_law_530 : decode cL_law 530 = .ok (.if_icmp .eq 862, 3) := by decide +kernel
theorem dL_law_533 : decode cL_law 533 = .ok (.iconst 0, 1) := by decide +kernel
theorem dL_law_534 : decode cL_law 534 = .ok (.ireturn, 1) := by decide +kernel
theorem dL_law_535 : decode cL_law 535 = .ok (.aload_n 1, 1) := by decide +kernel
theorem dL_law_536 : decode cL_law 536 = .ok (.aload_n 0, 1) := by decide +kernel
theorem dL_law_537 : decode cL_law 537 = .ok (.iload_n 3, 1) := by decide +kernel
theorem dL_law_538 : decode cL_law 538 = .ok (.iconst 1, 1) := by decide +kernel
theorem dL_law_539 : decode cL_law 539 = .ok (.iadd, 1) := by decide +kernel
theorem dL_law_540 : decode cL_law 540 = .ok (.iaload, 1) := by decide +kernel
theorem dL_law_541 : decode cL_law 541 = .ok (.aload_n 0, 1) := by decide +kernel
theorem dL_law_542 : decode cL_law 542 = .ok (.iload_n 3, 1) := by decide +kernel
theorem dL_law_543 : decode cL_law 543 = .ok (.iconst 2, 1) := by decide +kernel
theorem dL_law_544 : decode cL_law 544 = .ok (.iadd, 1) := by decide +kernel
theorem dL_law_545 : decode cL_law 545 = .ok (.iaload, 1) := by decide +kernel
theorem dL_law_546 : decode cL_law 546 = .ok (.aload_n 0, 1) := by decide +kernel
theorem dL_law_547 : decode cL_law 547 = .ok (.iload_n 3, 1) := by decide +kernel
theorem dL_law_548 : decode cL_law 548 = .ok (.iconst 3, 1) := by decide +kernel
theorem dL_law_549 : decode cL_law 549 = .ok (.iadd, 1) := by decide +kernel
theorem dL_law_550 : decode cL_law 550 = .ok (.iaload, 1) := by decide +kernel
theorem dL_law_551 : decode cL_law 551 = .ok (.aload_n 0, 1) := by decide +kernel
theorem dL_law_552 : decode cL_law 552 = .ok (.iload_n 3, 1) := by decide +kernel
theorem dL_law_553 : decode cL_law 553 = .ok (.iconst 4, 1) := by decide +kernel
theorem dL_law_554 : decode cL_law 554 = .ok (.iadd, 1) := by decide +kernel
theorem dL_law_555 : decode cL_law 555 = .ok (.iaload, 1) := by decide +kernel
theorem dL_law_556 : decode cL_law 556 = .ok (.aload_n 0, 1) := by decide +kernel
theorem dL_law_557 : decode cL_law 557 = .ok (.iload_n 3, 1) := by decide +kernel
theorem dL_law_558 : decode cL_law 558 = .ok (.iconst 5, 1) := by decide +kernel
theorem dL_law_559 : decode cL_law 559 = .ok (.iadd, 1) := by decide +kernel
theorem dL_law_560 : decode cL_law 560 = .ok (.iaload, 1) := by decide +kernel
theorem dL_law_561 : decode cL_law 561 = .ok (.aload_n 0, 1) := by decide +kernel
theorem dL_law_562 : decode cL_law 562 = .ok (.iload_n 3, 1) := by decide +kernel
theorem dL_law_563 : decode cL_law 563 = .ok (.bipush 6, 2) := by decide +kernel
theorem dL_law_565 : decode cL_law 565 = .ok (.iadd, 1) := by decide +kernel
theorem dL_law_566 : decode cL_law 566 = .ok (.iaload, 1) := by decide +kernel
theorem dL_law_567 : decode cL_law 567 = .ok (.invokevirtual 53, 3) := by decide +kernel
theorem dL_law_570 : decode cL_law 570 = .ok (.aload_n 2, 1) := by decide +kernel
theorem dL_law_571 : decode cL_law 571 = .ok (.aload_n 0, 1) := by decide +kernel
theorem dL_law_572 : decode cL_law 572 = .ok (.iload_n 3, 1) := by decide +kernel
theorem dL_law_573 : decode cL_law 573 = .ok (.iconst 1, 1) := by decide +kernel
theorem dL_law_574 : decode cL_law 574 = .ok (.iadd, 1) := by decide +kernel
theorem dL_law_575 : decode cL_law 575 = .ok (.iaload, 1) := by decide +kernel
theorem dL_law_576 : decode cL_law 576 = .ok (.aload_n 0, 1) := by decide +kernel
theorem dL_law_577 : decode cL_law 577 = .ok (.iload_n 3, 1) := by decide +kernel
theorem dL_law_578 : decode cL_law 578 = .ok (.iconst 2, 1) := by decide +kernel
theorem dL_law_579 : decode cL_law 579 = .ok (.iadd, 1) := by decide +kernel
theorem dL_law_580 : decode cL_law 580 = .ok (.iaload, 1) := by decide +kernel
theorem dL_law_581 : decode cL_law 581 = .ok (.aload_n 0, 1) := by decide +kernel
theorem dL_law_582 : decode cL_law 582 = .ok (.iload_n 3, 1) := by decide +kernel
theorem dL_law_583 : decode cL_law 583 = .ok (.iconst 3, 1) := by decide +kernel
theorem dL_law_584 : decode cL_law 584 = .ok (.iadd, 1) := by decide +kernel
theorem dL_law_585 : decode cL_law 585 = .ok (.iaload, 1) := by decide +kernel
theorem dL_law_586 : decode cL_law 586 = .ok (.aload_n 0, 1) := by decide +kernel
theorem dL_law_587 : decode cL_law 587 = .ok (.iload_n 3, 1) := by decide +kernel
theorem dL_law_588 : decode cL_law 588 = .ok (.iconst 4, 1) := by decide +kernel
theorem dL_law_589 : decode cL_law 589 = .ok (.iadd, 1) := by decide +kernel
theorem dL_law_590 : decode cL_law 590 = .ok (.iaload, 1) := by decide +kernel
theorem dL_law_591 : decode cL_law 591 = .ok (.aload_n 0, 1) := by decide +kernel
theorem dL_law_592 : decode cL_law 592 = .ok (.iload_n 3, 1) := by decide +kernel
theorem dL_law_593 : decode cL_law 593 = .ok (.iconst 5, 1) := by decide +kernel
theorem dL_law_594 : decode cL_law 594 = .ok (.iadd, 1) := by decide +kernel
theorem dL_law_595 : decode cL_law 595 = .ok (.iaload, 1) := by decide +kernel
theorem dL_law_596 : decode cL_law 596 = .ok (.aload_n 0, 1) := by decide +kernel
theorem dL_law_597 : decode cL_law 597 = .ok (.iload_n 3, 1) := by decide +kernel
theorem dL_law_598 : decode cL_law 598 = .ok (.bipush 6, 2) := by decide +kernel
theorem dL_law_600 : decode cL_law 600 = .ok (.iadd, 1) := by decide +kernel
theorem dL_law_601 : decode cL_law 601 = .ok (.iaload, 1) := by decide +kernel
theorem dL_law_602 : decode cL_law 602 = .ok (.invokevirtual 57, 3) := by decide +kernel
theorem dL_law_605 : decode cL_law 605 = .ok (.if_icmp .eq 787, 3) := by decide +kernel
theorem dL_law_608 : decode cL_law 608 = .ok (.iconst 0, 1) := by decide +kernel
theorem dL_law_609 : decode cL_law 609 = .ok (.ireturn, 1) := by decide +kernel
theorem dL_law_610 : decode cL_law 610 = .ok (.aload_n 1, 1) := by decide +kernel
theorem dL_law_611 : decode cL_law 611 = .ok (.aload_n 0, 1) := by decide +kernel
theorem dL_law_612 : decode cL_law 612 = .ok (.iload_n 3, 1) := by decide +kernel
theorem dL_law_613 : decode cL_law 613 = .ok (.iconst 1, 1) := by decide +kernel
theorem dL_law_614 : decode cL_law 614 = .ok (.iadd, 1) := by decide +kernel
theorem dL_law_615 : decode cL_law 615 = .ok (.iaload, 1) := by decide +kernel
theorem dL_law_616 : decode cL_law 616 = .ok (.invokevirtual 58, 3) := by decide +kernel
theorem dL_law_619 : decode cL_law 619 = .ok (.aload_n 2, 1) := by decide +kernel
theorem dL_law_620 : decode cL_law 620 = .ok (.aload_n 0, 1) := by decide +kernel
theorem dL_law_621 : decode cL_law 621 = .ok (.iload_n 3, 1) := by decide +kernel
theorem dL_law_622 : decode cL_law 622 = .ok (.iconst 1, 1) := by decide +kernel
theorem dL_law_623 : decode cL_law 623 = .ok (.iadd, 1) := by decide +kernel
theorem dL_law_624 : decode cL_law 624 = .ok (.iaload, 1) := by decide +kernel
theorem dL_law_625 : decode cL_law 625 = .ok (.invokevirtual 61, 3) := by decide +kernel
theorem dL_law_628 : decode cL_law 628 = .ok (.if_icmp .eq 764, 3) := by decide +kernel
theorem dL_law_631 : decode cL_law 631 = .ok (.iconst 0, 1) := by decide +kernel
theorem dL_law_632 : decode cL_law 632 = .ok (.ireturn, 1) := by decide +kernel
theorem dL_law_633 : decode cL_law 633 = .ok (.aload_n 1, 1) := by decide +kernel
theorem dL_law_634 : decode cL_law 634 = .ok (.aload_n 0, 1) := by decide +kernel
theorem dL_law_635 : decode cL_law 635 = .ok (.iload_n 3, 1) := by decide +kernel
theorem dL_law_636 : decode cL_law 636 = .ok (.iconst 1, 1) := by decide +kernel
theorem dL_law_637 : decode cL_law 637 = .ok (.iadd, 1) := by decide +kernel
theorem dL_law_638 : decode cL_law 638 = .ok (.iaload, 1) := by decide +kernel
theorem dL_law_639 : decode cL_law 639 = .ok (.aload_n 0, 1) := by decide +kernel
theorem dL_law_640 : decode cL_law 640 = .ok (.iload_n 3, 1) := by decide +kernel
theorem dL_law_641 : decode cL_law 641 = .ok (.iconst 2, 1) := by decide +kernel
theorem dL_law_642 : decode cL_law 642 = .ok (.iadd, 1) := by decide +kernel
theorem dL_law_643 : decode cL_law 643 = .ok (.iaload, 1) := by decide +kernel
theorem dL_law_644 : decode cL_law 644 = .ok (.aload_n 0, 1) := by decide +kernel
theorem dL_law_645 : decode cL_law 645 = .ok (.iload_n 3, 1) := by decide +kernel
theorem dL_law_646 : decode cL_law 646 = .ok (.iconst 3, 1) := by decide +kernel
theorem dL_law_647 : decode cL_law 647 = .ok (.iadd, 1) := by decide +kernel
theorem dL_law_648 : decode cL_law 648 = .ok (.iaload, 1) := by decide +kernel
theorem dL_law_649 : decode cL_law 649 = .ok (.aload_n 0, 1) := by decide +kernel
theorem dL_law_650 : decode cL_law 650 = .ok (.iload_n 3, 1) := by decide +kernel
theorem dL_law_651 : decode cL_law 651 = .ok (.iconst 4, 1) := by decide +kernel
theorem dL_law_652 : decode cL_law 652 = .ok (.iadd, 1) := by decide +kernel
theorem dL_law_653 : decode cL_law 653 = .ok (.iaload, 1) := by decide +kernel
theorem dL_law_654 : decode cL_law 654 = .ok (.aload_n 0, 1) := by decide +kernel
theorem dL_law_655 : decode cL_law 655 = .ok (.iload_n 3, 1) := by decide +kernel
theorem dL_law_656 : decode cL_law 656 = .ok (.iconst 5, 1) := by decide +kernel
theorem dL_law_657 : decode cL_law 657 = .ok (.iadd, 1) := by decide +kernel
theorem dL_law_658 : decode cL_law 658 = .ok (.iaload, 1) := by decide +kernel
theorem dL_law_659 : decode cL_law 659 = .ok (.invokevirtual 62, 3) := by decide +kernel
theorem dL_law_662 : decode cL_law 662 = .ok (.aload_n 2, 1) := by decide +kernel
theorem dL_law_663 : decode cL_law 663 = .ok (.aload_n 0, 1) := by decide +kernel
theorem dL_law_664 : decode cL_law 664 = .ok (.iload_n 3, 1) := by decide +kernel
theorem dL_law_665 : decode cL_law 665 = .ok (.iconst 1, 1) := by decide +kernel
theorem dL_law_666 : decode cL_law 666 = .ok (.iadd, 1) := by decide +kernel
theorem dL_law_667 : decode cL_law 667 = .ok (.iaload, 1) := by decide +kernel
theorem dL_law_668 : decode cL_law 668 = .ok (.aload_n 0, 1) := by decide +kernel
theorem dL_law_669 : decode cL_law 669 = .ok (.iload_n 3, 1) := by decide +kernel
theorem dL_law_670 : decode cL_law 670 = .ok (.iconst 2, 1) := by decide +kernel
theorem dL_law_671 : decode cL_law 671 = .ok (.iadd, 1) := by decide +kernel
theorem dL_law_672 : decode cL_law 672 = .ok (.iaload, 1) := by decide +kernel
theorem dL_law_673 : decode cL_law 673 = .ok (.aload_n 0, 1) := by decide +kernel
theorem dL_law_674 : decode cL_law 674 = .ok (.iload_n 3, 1) := by decide +kernel
theorem dL_law_675 : decode cL_law 675 = .ok (.iconst 3, 1) := by decide +kernel
theorem dL_law_676 : decode cL_law 676 = .ok (.iadd, 1) := by decide +kernel
theorem dL_law_677 : decode cL_law 677 = .ok (.iaload, 1) := by decide +kernel
theorem dL_law_678 : decode cL_law 678 = .ok (.aload_n 0, 1) := by decide +kernel
theorem dL_law_679 : decode cL_law 679 = .ok (.iload_n 3, 1) := by decide +kernel
theorem dL_law_680 : decode cL_law 680 = .ok (.iconst 4, 1) := by decide +kernel
theorem dL_law_681 : decode cL_law 681 = .ok (.iadd, 1) := by decide +kernel
theorem dL_law_682 : decode cL_law 682 = .ok (.iaload, 1) := by decide +kernel
theorem dL_law_683 : decode cL_law 683 = .ok (.aload_n 0, 1) := by decide +kernel
theorem dL_law_684 : decode cL_law 684 = .ok (.iload_n 3, 1) := by decide +kernel
theorem dL_law_685 : decode cL_law 685 = .ok (.iconst 5, 1) := by decide +kernel
theorem dL_law_686 : decode cL_law 686 = .ok (.iadd, 1) := by decide +kernel
theorem dL_law_687 : decode cL_law 687 = .ok (.iaload, 1) := by decide +kernel
theorem dL_law_688 : decode cL_law 688 = .ok (.invokevirtual 66, 3) := by decide +kernel
theorem dL_law_691 : decode cL_law 691 = .ok (.if_icmp .eq 701, 3) := by decide +kernel
theorem dL_law_694 : decode cL_law 694 = .ok (.iconst 0, 1) := by decide +kernel
theorem dL_law_695 : decode cL_law 695 = .ok (.ireturn, 1) := by decide +kernel
theorem dL_law_696 : decode cL_law 696 = .ok (.aload_n 1, 1) := by decide +kernel
theorem dL_law_697 : decode cL_law 697 = .ok (.aload_n 0, 1) := by decide +kernel
theorem dL_law_698 : decode cL_law 698 = .ok (.iload_n 3, 1) := by decide +kernel
theorem dL_law_699 : decode cL_law 699 = .ok (.iconst 1, 1) := by decide +kernel
theorem dL_law_700 : decode cL_law 700 = .ok (.iadd, 1) := by decide +kernel
theorem dL_law_701 : decode cL_law 701 = .ok (.iaload, 1) := by decide +kernel
theorem dL_law_702 : decode cL_law 702 = .ok (.aload_n 0, 1) := by decide +kernel
theorem dL_law_703 : decode cL_law 703 = .ok (.iload_n 3, 1) := by decide +kernel
theorem dL_law_704 : decode cL_law 704 = .ok (.iconst 2, 1) := by decide +kernel
theorem dL_law_705 : decode cL_law 705 = .ok (.iadd, 1) := by decide +kernel
theorem dL_law_706 : decode cL_law 706 = .ok (.iaload, 1) := by decide +kernel
theorem dL_law_707 : decode cL_law 707 = .ok (.aload_n 0, 1) := by decide +kernel
theorem dL_law_708 : decode cL_law 708 = .ok (.iload_n 3, 1) := by decide +kernel
theorem dL_law_709 : decode cL_law 709 = .ok (.iconst 3, 1) := by decide +kernel
theorem dL_law_710 : decode cL_law 710 = .ok (.iadd, 1) := by decide +kernel
theorem dL_law_711 : decode cL_law 711 = .ok (.iaload, 1) := by decide +kernel
theorem dL_law_712 : decode cL_law 712 = .ok (.aload_n 0, 1) := by decide +kernel
theorem dL_law_713 : decode cL_law 713 = .ok (.iload_n 3, 1) := by decide +kernel
theorem dL_law_714 : decode cL_law 714 = .ok (.iconst 4, 1) := by decide +kernel
theorem dL_law_715 : decode cL_law 715 = .ok (.iadd, 1) := by decide +kernel
theorem dL_law_716 : decode cL_law 716 = .ok (.iaload, 1) := by decide +kernel
theorem dL_law_717 : decode cL_law 717 = .ok (.invokevirtual 67, 3) := by decide +kernel
theorem dL_law_720 : decode cL_law 720 = .ok (.aload_n 2, 1) := by decide +kernel
theorem dL_law_721 : decode cL_law 721 = .ok (.aload_n 0, 1) := by decide +kernel
theorem dL_law_722 : decode cL_law 722 = .ok (.iload_n 3, 1) := by decide +kernel
theorem dL_law_723 : decode cL_law 723 = .ok (.iconst 1, 1) := by decide +kernel
theorem dL_law_724 : decode cL_law 724 = .ok (.iadd, 1) := by decide +kernel
theorem dL_law_725 : decode cL_law 725 = .ok (.iaload, 1) := by decide +kernel
theorem dL_law_726 : decode cL_law 726 = .ok (.aload_n 0, 1) := by decide +kernel
theorem dL_law_727 : decode cL_law 727 = .ok (.iload_n 3, 1) := by decide +kernel
theorem dL_law_728 : decode cL_law 728 = .ok (.iconst 2, 1) := by decide +kernel
theorem dL_law_729 : decode cL_law 729 = .ok (.iadd, 1) := by decide +kernel
theorem dL_law_730 : decode cL_law 730 = .ok (.iaload, 1) := by decide +kernel
theorem dL_law_731 : decode cL_law 731 = .ok (.aload_n 0, 1) := by decide +kernel
theorem dL_law_732 : decode cL_law 732 = .ok (.iload_n 3, 1) := by decide +kernel
theorem dL_law_733 : decode cL_law 733 = .ok (.iconst 3, 1) := by decide +kernel
theorem dL_law_734 : decode cL_law 734 = .ok (.iadd, 1) := by decide +kernel
theorem dL_law_735 : decode cL_law 735 = .ok (.iaload, 1) := by decide +kernel
theorem dL_law_736 : decode cL_law 736 = .ok (.aload_n 0, 1) := by decide +kernel
theorem dL_law_737 : decode cL_law 737 = .ok (.iload_n 3, 1) := by decide +kernel
theorem dL_law_738 : decode cL_law 738 = .ok (.iconst 4, 1) := by decide +kernel
theorem dL_law_739 : decode cL_law 739 = .ok (.iadd, 1) := by decide +kernel
theorem dL_law_740 : decode cL_law 740 = .ok (.iaload, 1) := by decide +kernel
theorem dL_law_741 : decode cL_law 741 = .ok (.invokevirtual 70, 3) := by decide +kernel
theorem dL_law_744 : decode cL_law 744 = .ok (.if_icmp .eq 648, 3) := by decide +kernel
theorem dL_law_747 : decode cL_law 747 = .ok (.iconst 0, 1) := by decide +kernel
theorem dL_law_748 : decode cL_law 748 = .ok (.ireturn, 1) := by decide +kernel
theorem dL_law_749 : decode cL_law 749 = .ok (.aload_n 1, 1) := by decide +kernel
theorem dL_law_750 : decode cL_law 750 = .ok (.aload_n 0, 1) := by decide +kernel
theorem dL_law_751 : decode cL_law 751 = .ok (.iload_n 3, 1) := by decide +kernel
theorem dL_law_752 : decode cL_law 752 = .ok (.iconst 1, 1) := by decide +kernel
theorem dL_law_753 : decode cL_law 753 = .ok (.iadd, 1) := by decide +kernel
theorem dL_law_754 : decode cL_law 754 = .ok (.iaload, 1) := by decide +kernel
theorem dL_law_755 : decode cL_law 755 = .ok (.invokevirtual 71, 3) := by decide +kernel
theorem dL_law_758 : decode cL_law 758 = .ok (.aload_n 2, 1) := by decide +kernel
theorem dL_law_759 : decode cL_law 759 = .ok (.aload_n 0, 1) := by decide +kernel
theorem dL_law_760 : decode cL_law 760 = .ok (.iload_n 3, 1) := by decide +kernel
theorem dL_law_761 : decode cL_law 761 = .ok (.iconst 1, 1) := by decide +kernel
theorem dL_law_762 : decode cL_law 762 = .ok (.iadd, 1) := by decide +kernel
theorem dL_law_763 : decode cL_law 763 = .ok (.iaload, 1) := by decide +kernel
theorem dL_law_764 : decode cL_law 764 = .ok (.invokevirtual 74, 3) := by decide +kernel
theorem dL_law_767 : decode cL_law 767 = .ok (.if_icmp .eq 625, 3) := by decide +kernel
theorem dL_law_770 : decode cL_law 770 = .ok (.iconst 0, 1) := by decide +kernel
theorem dL_law_771 : decode cL_law 771 = .ok (.ireturn, 1) := by decide +kernel
theorem dL_law_772 : decode cL_law 772 = .ok (.aload_n 1, 1) := by decide +kernel
theorem dL_law_773 : decode cL_law 773 = .ok (.aload_n 0, 1) := by decide +kernel
theorem dL_law_774 : decode cL_law 774 = .ok (.iload_n 3, 1) := by decide +kernel
theorem dL_law_775 : decode cL_law 775 = .ok (.iconst 1, 1) := by decide +kernel
theorem dL_law_776 : decode cL_law 776 = .ok (.iadd, 1) := by decide +kernel
theorem dL_law_777 : decode cL_law 777 = .ok (.iaload, 1) := by decide +kernel
theorem dL_law_778 : decode cL_law 778 = .ok (.aload_n 0, 1) := by decide +kernel
theorem dL_law_779 : decode cL_law 779 = .ok (.iload_n 3, 1) := by decide +kernel
theorem dL_law_780 : decode cL_law 780 = .ok (.iconst 2, 1) := by decide +kernel
theorem dL_law_781 : decode cL_law 781 = .ok (.iadd, 1) := by decide +kernel
theorem dL_law_782 : decode cL_law 782 = .ok (.iaload, 1) := by decide +kernel
theorem dL_law_783 : decode cL_law 783 = .ok (.aload_n 0, 1) := by decide +kernel
theorem dL_law_784 : decode cL_law 784 = .ok (.iload_n 3, 1) := by decide +kernel
theorem dL_law_785 : decode cL_law 785 = .ok (.iconst 3, 1) := by decide +kernel
theorem dL_law_786 : decode cL_law 786 = .ok (.iadd, 1) := by decide +kernel
theorem dL_law_787 : decode cL_law 787 = .ok (.iaload, 1) := by decide +kernel
theorem dL_law_788 : decode cL_law 788 = .ok (.aload_n 0, 1) := by decide +kernel
theorem dL_law_789 : decode cL_law 789 = .ok (.iload_n 3, 1) := by decide +kernel
theorem dL_law_790 : decode cL_law 790 = .ok (.iconst 4, 1) := by decide +kernel
theorem dL_law_791 : decode cL_law 791 = .ok (.iadd, 1) := by decide +kernel
theorem dL_law_792 : decode cL_law 792 = .ok (.iaload, 1) := by decide +kernel
theorem dL_law_793 : decode cL_law 793 = .ok (.aload_n 0, 1) := by decide +kernel
theorem dL_law_794 : decode cL_law 794 = .ok (.iload_n 3, 1) := by decide +kernel
theorem dL_law_795 : decode cL_law 795 = .ok (.iconst 5, 1) := by decide +kernel
theorem dL_law_796 : decode cL_law 796 = .ok (.iadd, 1) := by decide +kernel
theorem dL_law_797 : decode cL_law 797 = .ok (.iaload, 1) := by decide +kernel
theorem dL_law_798 : decode cL_law 798 = .ok (.invokevirtual 75, 3) := by decide +kernel
theorem dL_law_801 : decode cL_law 801 = .ok (.aload_n 2, 1) := by decide +kernel
theorem dL_law_802 : decode cL_law 802 = .ok (.aload_n 0, 1) := by decide +kernel
theorem dL_law_803 : decode cL_law 803 = .ok (.iload_n 3, 1) := by decide +kernel
theorem dL_law_804 : decode cL_law 804 = .ok (.iconst 1, 1) := by decide +kernel
theorem dL_law_805 : decode cL_law 805 = .ok (.iadd, 1) := by decide +kernel
theorem dL_law_806 : decode cL_law 806 = .ok (.iaload, 1) := by decide +kernel
theorem dL_law_807 : decode cL_law 807 = .ok (.aload_n 0, 1) := by decide +kernel
theorem dL_law_808 : decode cL_law 808 = .ok (.iload_n 3, 1) := by decide +kernel
theorem dL_law_809 : decode cL_law 809 = .ok (.iconst 2, 1) := by decide +kernel
theorem dL_law_810 : decode cL_law 810 = .ok (.iadd, 1) := by decide +kernel
theorem dL_law_811 : decode cL_law 811 = .ok (.iaload, 1) := by decide +kernel
theorem dL_law_812 : decode cL_law 812 = .ok (.aload_n 0, 1) := by decide +kernel
theorem dL_law_813 : decode cL_law 813 = .ok (.iload_n 3, 1) := by decide +kernel
theorem dL_law_814 : decode cL_law 814 = .ok (.iconst 3, 1) := by decide +kernel
theorem dL_law_815 : decode cL_law 815 = .ok (.iadd, 1) := by decide +kernel
theorem dL_law_816 : decode cL_law 816 = .ok (.iaload, 1) := by decide +kernel
theorem dL_law_817 : decode cL_law 817 = .ok (.aload_n 0, 1) := by decide +kernel
theorem dL_law_818 : decode cL_law 818 = .ok (.iload_n 3, 1) := by decide +kernel
theorem dL_law_819 : decode cL_law 819 = .ok (.iconst 4, 1) := by decide +kernel
theorem dL_law_820 : decode cL_law 820 = .ok (.iadd, 1) := by decide +kernel
theorem dL_law_821 : decode cL_law 821 = .ok (.iaload, 1) := by decide +kernel
theorem dL_law_822 : decode cL_law 822 = .ok (.aload_n 0, 1) := by decide +kernel
theorem dL_law_823 : decode cL_law 823 = .ok (.iload_n 3, 1) := by decide +kernel
theorem dL_law_824 : decode cL_law 824 = .ok (.iconst 5, 1) := by decide +kernel
theorem dL_law_825 : decode cL_law 825 = .ok (.iadd, 1) := by decide +kernel
theorem dL_law_826 : decode cL_law 826 = .ok (.iaload, 1) := by decide +kernel
theorem dL_law_827 : decode cL_law 827 = .ok (.invokevirtual 78, 3) := by decide +kernel
theorem dL_law_830 : decode cL_law 830 = .ok (.if_icmp .eq 562, 3) := by decide +kernel
theorem dL_law_833 : decode cL_law 833 = .ok (.iconst 0, 1) := by decide +kernel
theorem dL_law_834 : decode cL_law 834 = .ok (.ireturn, 1) := by decide +kernel
theorem dL_law_835 : decode cL_law 835 = .ok (.aload_n 1, 1) := by decide +kernel
theorem dL_law_836 : decode cL_law 836 = .ok (.aload_n 0, 1) := by decide +kernel
theorem dL_law_837 : decode cL_law 837 = .ok (.iload_n 3, 1) := by decide +kernel
theorem dL_law_838 : decode cL_law 838 = .ok (.iconst 1, 1) := by decide +kernel
theorem dL_law_839 : decode cL_law 839 = .ok (.iadd, 1) := by decide +kernel
theorem dL_law_840 : decode cL_law 840 = .ok (.iaload, 1) := by decide +kernel
theorem dL_law_841 : decode cL_law 841 = .ok (.aload_n 0, 1) := by decide +kernel
theorem dL_law_842 : decode cL_law 842 = .ok (.iload_n 3, 1) := by decide +kernel
theorem dL_law_843 : decode cL_law 843 = .ok (.iconst 2, 1) := by decide +kernel
theorem dL_law_844 : decode cL_law 844 = .ok (.iadd, 1) := by decide +kernel
theorem dL_law_845 : decode cL_law 845 = .ok (.iaload, 1) := by decide +kernel
theorem dL_law_846 : decode cL_law 846 = .ok (.aload_n 0, 1) := by decide +kernel
theorem dL_law_847 : decode cL_law 847 = .ok (.iload_n 3, 1) := by decide +kernel
theorem dL_law_848 : decode cL_law 848 = .ok (.iconst 3, 1) := by decide +kernel
theorem dL_law_849 : decode cL_law 849 = .ok (.iadd, 1) := by decide +kernel
theorem dL_law_850 : decode cL_law 850 = .ok (.iaload, 1) := by decide +kernel
theorem dL_law_851 : decode cL_law 851 = .ok (.aload_n 0, 1) := by decide +kernel
theorem dL_law_852 : decode cL_law 852 = .ok (.iload_n 3, 1) := by decide +kernel
theorem dL_law_853 : decode cL_law 853 = .ok (.iconst 4, 1) := by decide +kernel
theorem dL_law_854 : decode cL_law 854 = .ok (.iadd, 1) := by decide +kernel
theorem dL_law_855 : decode cL_law 855 = .ok (.iaload, 1) := by decide +kernel
theorem dL_law_856 : decode cL_law 856 = .ok (.aload_n 0, 1) := by decide +kernel
theorem dL_law_857 : decode cL_law 857 = .ok (.iload_n 3, 1) := by decide +kernel
theorem dL_law_858 : decode cL_law 858 = .ok (.iconst 5, 1) := by decide +kernel
theorem dL_law_859 : decode cL_law 859 = .ok (.iadd, 1) := by decide +kernel
theorem dL_law_860 : decode cL_law 860 = .ok (.iaload, 1) := by decide +kernel
theorem dL_law_861 : decode cL_law 861 = .ok (.invokevirtual 79, 3) := by decide +kernel
theorem dL_law_864 : decode cL_law 864 = .ok (.aload_n 2, 1) := by decide +kernel
theorem dL_law_865 : decode cL_law 865 = .ok (.aload_n 0, 1) := by decide +kernel
theorem dL_law_866 : decode cL_law 866 = .ok (.iload_n 3, 1) := by decide +kernel
theorem dL_law_867 : decode cL_law 867 = .ok (.iconst 1, 1) := by decide +kernel
theorem dL_law_868 : decode cL_law 868 = .ok (.iadd, 1) := by decide +kernel
theorem dL_law_869 : decode cL_law 869 = .ok (.iaload, 1) := by decide +kernel
theorem dL_law_870 : decode cL_law 870 = .ok (.aload_n 0, 1) := by decide +kernel
theorem dL_law_871 : decode cL_law 871 = .ok (.iload_n 3, 1) := by decide +kernel
theorem dL_law_872 : decode cL_law 872 = .ok (.iconst 2, 1) := by decide +kernel
theorem dL_law_873 : decode cL_law 873 = .ok (.iadd, 1) := by decide +kernel
theorem dL_law_874 : decode cL_law 874 = .ok (.iaload, 1) := by decide +kernel
theorem dL_law_875 : decode cL_law 875 = .ok (.aload_n 0, 1) := by decide +kernel
theorem dL_law_876 : decode cL_law 876 = .ok (.iload_n 3, 1) := by decide +kernel
theorem dL_law_877 : decode cL_law 877 = .ok (.iconst 3, 1) := by decide +kernel
theorem dL_law_878 : decode cL_law 878 = .ok (.iadd, 1) := by decide +kernel
theorem dL_law_879 : decode cL_law 879 = .ok (.iaload, 1) := by decide +kernel
theorem dL_law_880 : decode cL_law 880 = .ok (.aload_n 0, 1) := by decide +kernel
theorem dL_law_881 : decode cL_law 881 = .ok (.iload_n 3, 1) := by decide +kernel
theorem dL_law_882 : decode cL_law 882 = .ok (.iconst 4, 1) := by decide +kernel
theorem dL_law_883 : decode cL_law 883 = .ok (.iadd, 1) := by decide +kernel
theorem dL_law_884 : decode cL_law 884 = .ok (.iaload, 1) := by decide +kernel
theorem dL_law_885 : decode cL_law 885 = .ok (.aload_n 0, 1) := by decide +kernel
theorem dL_law_886 : decode cL_law 886 = .ok (.iload_n 3, 1) := by decide +kernel
theorem dL_law_887 : decode cL_law 887 = .ok (.iconst 5, 1) := by decide +kernel
theorem dL_law_888 : decode cL_law 888 = .ok (.iadd, 1) := by decide +kernel
theorem dL_law_889 : decode cL_law 889 = .ok (.iaload, 1) := by decide +kernel
theorem dL_law_890 : decode cL_law 890 = .ok (.invokevirtual 82, 3) := by decide +kernel
theorem dL_law_893 : decode cL_law 893 = .ok (.if_icmp .eq 499, 3) := by decide +kernel
theorem dL_law_896 : decode cL_law 896 = .ok (.iconst 0, 1) := by decide +kernel
theorem dL_law_897 : decode cL_law 897 = .ok (.ireturn, 1) := by decide +kernel
theorem dL_law_898 : decode cL_law 898 = .ok (.aload_n 1, 1) := by decide +kernel
theorem dL_law_899 : decode cL_law 899 = .ok (.aload_n 0, 1) := by decide +kernel
theorem dL_law_900 : decode cL_law 900 = .ok (.iload_n 3, 1) := by decide +kernel
theorem dL_law_901 : decode cL_law 901 = .ok (.iconst 1, 1) := by decide +kernel
theorem dL_law_902 : decode cL_law 902 = .ok (.iadd, 1) := by decide +kernel
theorem dL_law_903 : decode cL_law 903 = .ok (.iaload, 1) := by decide +kernel
theorem dL_law_904 : decode cL_law 904 = .ok (.invokevirtual 83, 3) := by decide +kernel
theorem dL_law_907 : decode cL_law 907 = .ok (.aload_n 2, 1) := by decide +kernel
theorem dL_law_908 : decode cL_law 908 = .ok (.aload_n 0, 1) := by decide +kernel
theorem dL_law_909 : decode cL_law 909 = .ok (.iload_n 3, 1) := by decide +kernel
theorem dL_law_910 : decode cL_law 910 = .ok (.iconst 1, 1) := by decide +kernel
theorem dL_law_911 : decode cL_law 911 = .ok (.iadd, 1) := by decide +kernel
theorem dL_law_912 : decode cL_law 912 = .ok (.iaload, 1) := by decide +kernel
theorem dL_law_913 : decode cL_law 913 = .ok (.invokevirtual 86, 3) := by decide +kernel
theorem dL_law_916 : decode cL_law 916 = .ok (.if_icmp .eq 476, 3) := by decide +kernel
theorem dL_law_919 : decode cL_law 919 = .ok (.iconst 0, 1) := by decide +kernel
theorem dL_law_920 : decode cL_law 920 = .ok (.ireturn, 1) := by decide +kernel
theorem dL_law_921 : decode cL_law 921 = .ok (.aload_n 1, 1) := by decide +kernel
theorem dL_law_922 : decode cL_law 922 = .ok (.aload_n 0, 1) := by decide +kernel
theorem dL_law_923 : decode cL_law 923 = .ok (.iload_n 3, 1) := by decide +kernel
theorem dL_law_924 : decode cL_law 924 = .ok (.iconst 1, 1) := by decide +kernel
theorem dL_law_925 : decode cL_law 925 = .ok (.iadd, 1) := by decide +kernel
theorem dL_law_926 : decode cL_law 926 = .ok (.iaload, 1) := by decide +kernel
theorem dL_law_927 : decode cL_law 927 = .ok (.invokevirtual 87, 3) := by decide +kernel
theorem dL_law_930 : decode cL_law 930 = .ok (.aload_n 2, 1) := by decide +kernel
theorem dL_law_931 : decode cL_law 931 = .ok (.aload_n 0, 1) := by decide +kernel
theorem dL_law_932 : decode cL_law 932 = .ok (.iload_n 3, 1) := by decide +kernel
theorem dL_law_933 : decode cL_law 933 = .ok (.iconst 1, 1) := by decide +kernel
theorem dL_law_934 : decode cL_law 934 = .ok (.iadd, 1) := by decide +kernel
theorem dL_law_935 : decode cL_law 935 = .ok (.iaload, 1) := by decide +kernel
theorem dL_law_936 : decode cL_law 936 = .ok (.invokevirtual 90, 3) := by decide +kernel
theorem dL_law_939 : decode cL_law 939 = .ok (.if_icmp .eq 453, 3) := by decide +kernel
theorem dL_law_942 : decode cL_law 942 = .ok (.iconst 0, 1) := by decide +kernel
theorem dL_law_943 : decode cL_law 943 = .ok (.ireturn, 1) := by decide +kernel
theorem dL_law_944 : decode cL_law 944 = .ok (.aload_n 1, 1) := by decide +kernel
theorem dL_law_945 : decode cL_law 945 = .ok (.aload_n 0, 1) := by decide +kernel
theorem dL_law_946 : decode cL_law 946 = .ok (.iload_n 3, 1) := by decide +kernel
theorem dL_law_947 : decode cL_law 947 = .ok (.iconst 1, 1) := by decide +kernel
theorem dL_law_948 : decode cL_law 948 = .ok (.iadd, 1) := by decide +kernel
theorem dL_law_949 : decode cL_law 949 = .ok (.iaload, 1) := by decide +kernel
theorem dL_law_950 : decode cL_law 950 = .ok (.aload_n 0, 1) := by decide +kernel
theorem dL_law_951 : decode cL_law 951 = .ok (.iload_n 3, 1) := by decide +kernel
theorem dL_law_952 : decode cL_law 952 = .ok (.iconst 2, 1) := by decide +kernel
theorem dL_law_953 : decode cL_law 953 = .ok (.iadd, 1) := by decide +kernel
theorem dL_law_954 : decode cL_law 954 = .ok (.iaload, 1) := by decide +kernel
theorem dL_law_955 : decode cL_law 955 = .ok (.invokevirtual 91, 3) := by decide +kernel
theorem dL_law_958 : decode cL_law 958 = .ok (.aload_n 2, 1) := by decide +kernel
theorem dL_law_959 : decode cL_law 959 = .ok (.aload_n 0, 1) := by decide +kernel
theorem dL_law_960 : decode cL_law 960 = .ok (.iload_n 3, 1) := by decide +kernel
theorem dL_law_961 : decode cL_law 961 = .ok (.iconst 1, 1) := by decide +kernel
theorem dL_law_962 : decode cL_law 962 = .ok (.iadd, 1) := by decide +kernel
theorem dL_law_963 : decode cL_law 963 = .ok (.iaload, 1) := by decide +kernel
theorem dL_law_964 : decode cL_law 964 = .ok (.aload_n 0, 1) := by decide +kernel
theorem dL_law_965 : decode cL_law 965 = .ok (.iload_n 3, 1) := by decide +kernel
theorem dL_law_966 : decode cL_law 966 = .ok (.iconst 2, 1) := by decide +kernel
theorem dL_law_967 : decode cL_law 967 = .ok (.iadd, 1) := by decide +kernel
theorem dL_law_968 : decode cL_law 968 = .ok (.iaload, 1) := by decide +kernel
theorem dL_law_969 : decode cL_law 969 = .ok (.invokevirtual 94, 3) := by decide +kernel
theorem dL_law_972 : decode cL_law 972 = .ok (.if_icmp .eq 420, 3) := by decide +kernel
theorem dL_law_975 : decode cL_law 975 = .ok (.iconst 0, 1) := by decide +kernel
theorem dL_law_976 : decode cL_law 976 = .ok (.ireturn, 1) := by decide +kernel
theorem dL_law_977 : decode cL_law 977 = .ok (.aload_n 1, 1) := by decide +kernel
theorem dL_law_978 : decode cL_law 978 = .ok (.aload_n 0, 1) := by decide +kernel
theorem dL_law_979 : decode cL_law 979 = .ok (.iload_n 3, 1) := by decide +kernel
theorem dL_law_980 : decode cL_law 980 = .ok (.iconst 1, 1) := by decide +kernel
theorem dL_law_981 : decode cL_law 981 = .ok (.iadd, 1) := by decide +kernel
theorem dL_law_982 : decode cL_law 982 = .ok (.iaload, 1) := by decide +kernel
theorem dL_law_983 : decode cL_law 983 = .ok (.invokevirtual 95, 3) := by decide +kernel
theorem dL_law_986 : decode cL_law 986 = .ok (.aload_n 2, 1) := by decide +kernel
theorem dL_law_987 : decode cL_law 987 = .ok (.aload_n 0, 1) := by decide +kernel
theorem dL_law_988 : decode cL_law 988 = .ok (.iload_n 3, 1) := by decide +kernel
theorem dL_law_989 : decode cL_law 989 = .ok (.iconst 1, 1) := by decide +kernel
theorem dL_law_990 : decode cL_law 990 = .ok (.iadd, 1) := by decide +kernel
theorem dL_law_991 : decode cL_law 991 = .ok (.iaload, 1) := by decide +kernel
theorem dL_law_992 : decode cL_law 992 = .ok (.invokevirtual 98, 3) := by decide +kernel
theorem dL_law_995 : decode cL_law 995 = .ok (.if_icmp .eq 397, 3) := by decide +kernel
theorem dL_law_998 : decode cL_law 998 = .ok (.iconst 0, 1) := by decide +kernel
theorem dL_law_999 : decode cL_law 999 = .ok (.ireturn, 1) := by decide +kernel
theorem dL_law_1000 : decode cL_law 1000 = .ok (.aload_n 1, 1) := by decide +kernel
theorem dL_law_1001 : decode cL_law 1001 = .ok (.aload_n 0, 1) := by decide +kernel
theorem dL_law_1002 : decode cL_law 1002 = .ok (.iload_n 3, 1) := by decide +kernel
theorem dL_law_1003 : decode cL_law 1003 = .ok (.iconst 1, 1) := by decide +kernel
theorem dL_law_1004 : decode cL_law 1004 = .ok (.iadd, 1) := by decide +kernel
theorem dL_law_1005 : decode cL_law 1005 = .ok (.iaload, 1) := by decide +kernel
theorem dL_law_1006 : decode cL_law 1006 = .ok (.aload_n 0, 1) := by decide +kernel
theorem dL_law_1007 : decode cL_law 1007 = .ok (.iload_n 3, 1) := by decide +kernel
theorem dL_law_1008 : decode cL_law 1008 = .ok (.iconst 2, 1) := by decide +kernel
theorem dL_law_1009 : decode cL_law 1009 = .ok (.iadd, 1) := by decide +kernel
theorem dL_law_1010 : decode cL_law 1010 = .ok (.iaload, 1) := by decide +kernel
theorem dL_law_1011 : decode cL_law 1011 = .ok (.aload_n 0, 1) := by decide +kernel
theorem dL_law_1012 : decode cL_law 1012 = .ok (.iload_n 3, 1) := by decide +kernel
theorem dL_law_1013 : decode cL_law 1013 = .ok (.iconst 3, 1) := by decide +kernel
theorem dL_law_1014 : decode cL_law 1014 = .ok (.iadd, 1) := by decide +kernel
theorem dL_law_1015 : decode cL_law 1015 = .ok (.iaload, 1) := by decide +kernel
theorem dL_law_1016 : decode cL_law 1016 = .ok (.invokevirtual 99, 3) := by decide +kernel
theorem dL_law_1019 : decode cL_law 1019 = .ok (.aload_n 2, 1) := by decide +kernel
theorem dL_law_1020 : decode cL_law 1020 = .ok (.aload_n 0, 1) := by decide +kernel
theorem dL_law_1021 : decode cL_law 1021 = .ok (.iload_n 3, 1) := by decide +kernel
theorem dL_law_1022 : decode cL_law 1022 = .ok (.iconst 1, 1) := by decide +kernel
theorem dL_law_1023 : decode cL_law 1023 = .ok (.iadd, 1) := by decide +kernel
theorem dL_law_1024 : decode cL_law 1024 = .ok (.iaload, 1) := by decide +kernel
theorem dL_law_1025 : decode cL_law 1025 = .ok (.aload_n 0, 1) := by decide +kernel
theorem dL_law_1026 : decode cL_law 1026 = .ok (.iload_n 3, 1) := by decide +kernel
theorem dL_law_1027 : decode cL_law 1027 = .ok (.iconst 2, 1) := by decide +kernel
theorem dL_law_1028 : decode cL_law 1028 = .ok (.iadd, 1) := by decide +kernel
theorem dL_law_1029 : decode cL_law 1029 = .ok (.iaload, 1) := by decide +kernel
theorem dL_law_1030 : decode cL_law 1030 = .ok (.aload_n 0, 1) := by decide +kernel
theorem dL_law_1031 : decode cL_law 1031 = .ok (.iload_n 3, 1) := by decide +kernel
theorem dL_law_1032 : decode cL_law 1032 = .ok (.iconst 3, 1) := by decide +kernel
theorem dL_law_1033 : decode cL_law 1033 = .ok (.iadd, 1) := by decide +kernel
theorem dL_law_1034 : decode cL_law 1034 = .ok (.iaload, 1) := by decide +kernel
theorem dL_law_1035 : decode cL_law 1035 = .ok (.invokevirtual 102, 3) := by decide +kernel
theorem dL_law_1038 : decode cL_law 1038 = .ok (.if_icmp .eq 354, 3) := by decide +kernel
theorem dL_law_1041 : decode cL_law 1041 = .ok (.iconst 0, 1) := by decide +kernel
theorem dL_law_1042 : decode cL_law 1042 = .ok (.ireturn, 1) := by decide +kernel
theorem dL_law_1043 : decode cL_law 1043 = .ok (.aload_n 1, 1) := by decide +kernel
theorem dL_law_1044 : decode cL_law 1044 = .ok (.aload_n 0, 1) := by decide +kernel
theorem dL_law_1045 : decode cL_law 1045 = .ok (.iload_n 3, 1) := by decide +kernel
theorem dL_law_1046 : decode cL_law 1046 = .ok (.iconst 1, 1) := by decide +kernel
theorem dL_law_1047 : decode cL_law 1047 = .ok (.iadd, 1) := by decide +kernel
theorem dL_law_1048 : decode cL_law 1048 = .ok (.iaload, 1) := by decide +kernel
theorem dL_law_1049 : decode cL_law 1049 = .ok (.aload_n 0, 1) := by decide +kernel
theorem dL_law_1050 : decode cL_law 1050 = .ok (.iload_n 3, 1) := by decide +kernel
theorem dL_law_1051 : decode cL_law 1051 = .ok (.iconst 2, 1) := by decide +kernel
theorem dL_law_1052 : decode cL_law 1052 = .ok (.iadd, 1) := by decide +kernel
theorem dL_law_1053 : decode cL_law 1053 = .ok (.iaload, 1) := by decide +kernel
theorem dL_law_1054 : decode cL_law 1054 = .ok (.aload_n 0, 1) := by decide +kernel
theorem dL_law_1055 : decode cL_law 1055 = .ok (.iload_n 3, 1) := by decide +kernel
theorem dL_law_1056 : decode cL_law 1056 = .ok (.iconst 3, 1) := by decide +kernel
theorem dL_law_1057 : decode cL_law 1057 = .ok (.iadd, 1) := by decide +kernel
theorem dL_law_1058 : decode cL_law 1058 = .ok (.iaload, 1) := by decide +kernel
theorem dL_law_1059 : decode cL_law 1059 = .ok (.aload_n 0, 1) := by decide +kernel
theorem dL_law_1060 : decode cL_law 1060 = .ok (.iload_n 3, 1) := by decide +kernel
theorem dL_law_1061 : decode cL_law 1061 = .ok (.iconst 4, 1) := by decide +kernel
theorem dL_law_1062 : decode cL_law 1062 = .ok (.iadd, 1) := by decide +kernel
theorem dL_law_1063 : decode cL_law 1063 = .ok (.iaload, 1) := by decide +kernel
theorem dL_law_1064 : decode cL_law 1064 = .ok (.aload_n 0, 1) := by decide +kernel
theorem dL_law_1065 : decode cL_law 1065 = .ok (.iload_n 3, 1) := by decide +kernel
theorem dL_law_1066 : decode cL_law 1066 = .ok (.iconst 5, 1) := by decide +kernel
theorem dL_law_1067 : decode cL_law 1067 = .ok (.iadd, 1) := by decide +kernel
theorem dL_law_1068 : decode cL_law 1068 = .ok (.iaload, 1) := by decide +kernel
theorem dL_law_1069 : decode cL_law 1069 = .ok (.aload_n 0, 1) := by decide +kernel
theorem dL_law_1070 : decode cL_law 1070 = .ok (.iload_n 3, 1) := by decide +kernel
theorem dL_law_1071 : decode cL_law 1071 = .ok (.bipush 6, 2) := by decide +kernel
theorem dL_law_1073 : decode cL_law 1073 = .ok (.iadd, 1) := by decide +kernel
theorem dL_law_1074 : decode cL_law 1074 = .ok (.iaload, 1) := by decide +kernel
theorem dL_law_1075 : decode cL_law 1075 = .ok (.invokevirtual 103, 3) := by decide +kernel
theorem dL_law_1078 : decode cL_law 1078 = .ok (.aload_n 2, 1) := by decide +kernel
theorem dL_law_1079 : decode cL_law 1079 = .ok (.aload_n 0, 1) := by decide +kernel
theorem dL_law_1080 : decode cL_law 1080 = .ok (.iload_n 3, 1) := by decide +kernel
theorem dL_law_1081 : decode cL_law 1081 = .ok (.iconst 1, 1) := by decide +kernel
theorem dL_law_1082 : decode cL_law 1082 = .ok (.iadd, 1) := by decide +kernel
theorem dL_law_1083 : decode cL_law 1083 = .ok (.iaload, 1) := by decide +kernel
theorem dL_law_1084 : decode cL_law 1084 = .ok (.aload_n 0, 1) := by decide +kernel
theorem dL_law_1085 : decode cL_law 1085 = .ok (.iload_n 3, 1) := by decide +kernel
theorem dL_law_1086 : decode cL_law 1086 = .ok (.iconst 2, 1) := by decide +kernel
theorem dL_law_1087 : decode cL_law 1087 = .ok (.iadd, 1) := by decide +kernel
theorem dL_law_1088 : decode cL_law 1088 = .ok (.iaload, 1) := by decide +kernel
theorem dL_law_1089 : decode cL_law 1089 = .ok (.aload_n 0, 1) := by decide +kernel
theorem dL_law_1090 : decode cL_law 1090 = .ok (.iload_n 3, 1) := by decide +kernel
theorem dL_law_1091 : decode cL_law 1091 = .ok (.iconst 3, 1) := by decide +kernel
theorem dL_law_1092 : decode cL_law 1092 = .ok (.iadd, 1) := by decide +kernel
theorem dL_law_1093 : decode cL_law 1093 = .ok (.iaload, 1) := by decide +kernel
theorem dL_law_1094 : decode cL_law 1094 = .ok (.aload_n 0, 1) := by decide +kernel
theorem dL_law_1095 : decode cL_law 1095 = .ok (.iload_n 3, 1) := by decide +kernel
theorem dL_law_1096 : decode cL_law 1096 = .ok (.iconst 4, 1) := by decide +kernel
theorem dL_law_1097 : decode cL_law 1097 = .ok (.iadd, 1) := by decide +kernel
theorem dL_law_1098 : decode cL_law 1098 = .ok (.iaload, 1) := by decide +kernel
theorem dL_law_1099 : decode cL_law 1099 = .ok (.aload_n 0, 1) := by decide +kernel
theorem dL_law_1100 : decode cL_law 1100 = .ok (.iload_n 3, 1) := by decide +kernel
theorem dL_law_1101 : decode cL_law 1101 = .ok (.iconst 5, 1) := by decide +kernel
theorem dL_law_1102 : decode cL_law 1102 = .ok (.iadd, 1) := by decide +kernel
theorem dL_law_1103 : decode cL_law 1103 = .ok (.iaload, 1) := by decide +kernel
theorem dL_law_1104 : decode cL_law 1104 = .ok (.aload_n 0, 1) := by decide +kernel
theorem dL_law_1105 : decode cL_law 1105 = .ok (.iload_n 3, 1) := by decide +kernel
theorem dL_law_1106 : decode cL_law 1106 = .ok (.bipush 6, 2) := by decide +kernel
theorem dL_law_1108 : decode cL_law 1108 = .ok (.iadd, 1) := by decide +kernel
theorem dL_law_1109 : decode cL_law 1109 = .ok (.iaload, 1) := by decide +kernel
theorem dL_law_1110 : decode cL_law 1110 = .ok (.invokevirtual 106, 3) := by decide +kernel
theorem dL_law_1113 : decode cL_law 1113 = .ok (.if_icmp .eq 279, 3) := by decide +kernel
theorem dL_law_1116 : decode cL_law 1116 = .ok (.iconst 0, 1) := by decide +kernel
theorem dL_law_1117 : decode cL_law 1117 = .ok (.ireturn, 1) := by decide +kernel
theorem dL_law_1118 : decode cL_law 1118 = .ok (.aload_n 1, 1) := by decide +kernel
theorem dL_law_1119 : decode cL_law 1119 = .ok (.aload_n 0, 1) := by decide +kernel
theorem dL_law_1120 : decode cL_law 1120 = .ok (.iload_n 3, 1) := by decide +kernel
theorem dL_law_1121 : decode cL_law 1121 = .ok (.iconst 1, 1) := by decide +kernel
theorem dL_law_1122 : decode cL_law 1122 = .ok (.iadd, 1) := by decide +kernel
theorem dL_law_1123 : decode cL_law 1123 = .ok (.iaload, 1) := by decide +kernel
theorem dL_law_1124 : decode cL_law 1124 = .ok (.aload_n 0, 1) := by decide +kernel
theorem dL_law_1125 : decode cL_law 1125 = .ok (.iload_n 3, 1) := by decide +kernel
theorem dL_law_1126 : decode cL_law 1126 = .ok (.iconst 2, 1) := by decide +kernel
theorem dL_law_1127 : decode cL_law 1127 = .ok (.iadd, 1) := by decide +kernel
theorem dL_law_1128 : decode cL_law 1128 = .ok (.iaload, 1) := by decide +kernel
theorem dL_law_1129 : decode cL_law 1129 = .ok (.aload_n 0, 1) := by decide +kernel
theorem dL_law_1130 : decode cL_law 1130 = .ok (.iload_n 3, 1) := by decide +kernel
theorem dL_law_1131 : decode cL_law 1131 = .ok (.iconst 3, 1) := by decide +kernel
theorem dL_law_1132 : decode cL_law 1132 = .ok (.iadd, 1) := by decide +kernel
theorem dL_law_1133 : decode cL_law 1133 = .ok (.iaload, 1) := by decide +kernel
theorem dL_law_1134 : decode cL_law 1134 = .ok (.invokevirtual 107, 3) := by decide +kernel
theorem dL_law_1137 : decode cL_law 1137 = .ok (.aload_n 2, 1) := by decide +kernel
theorem dL_law_1138 : decode cL_law 1138 = .ok (.aload_n 0, 1) := by decide +kernel
theorem dL_law_1139 : decode cL_law 1139 = .ok (.iload_n 3, 1) := by decide +kernel
theorem dL_law_1140 : decode cL_law 1140 = .ok (.iconst 1, 1) := by decide +kernel
theorem dL_law_1141 : decode cL_law 1141 = .ok (.iadd, 1) := by decide +kernel
theorem dL_law_1142 : decode cL_law 1142 = .ok (.iaload, 1) := by decide +kernel
theorem dL_law_1143 : decode cL_law 1143 = .ok (.aload_n 0, 1) := by decide +kernel
theorem dL_law_1144 : decode cL_law 1144 = .ok (.iload_n 3, 1) := by decide +kernel
theorem dL_law_1145 : decode cL_law 1145 = .ok (.iconst 2, 1) := by decide +kernel
theorem dL_law_1146 : decode cL_law 1146 = .ok (.iadd, 1) := by decide +kernel
theorem dL_law_1147 : decode cL_law 1147 = .ok (.iaload, 1) := by decide +kernel
theorem dL_law_1148 : decode cL_law 1148 = .ok (.aload_n 0, 1) := by decide +kernel
theorem dL_law_1149 : decode cL_law 1149 = .ok (.iload_n 3, 1) := by decide +kernel
theorem dL_law_1150 : decode cL_law 1150 = .ok (.iconst 3, 1) := by decide +kernel
theorem dL_law_1151 : decode cL_law 1151 = .ok (.iadd, 1) := by decide +kernel
theorem dL_law_1152 : decode cL_law 1152 = .ok (.iaload, 1) := by decide +kernel
theorem dL_law_1153 : decode cL_law 1153 = .ok (.invokevirtual 110, 3) := by decide +kernel
theorem dL_law_1156 : decode cL_law 1156 = .ok (.if_icmp .eq 236, 3) := by decide +kernel
theorem dL_law_1159 : decode cL_law 1159 = .ok (.iconst 0, 1) := by decide +kernel
theorem dL_law_1160 : decode cL_law 1160 = .ok (.ireturn, 1) := by decide +kernel
theorem dL_law_1161 : decode cL_law 1161 = .ok (.aload_n 1, 1) := by decide +kernel
theorem dL_law_1162 : decode cL_law 1162 = .ok (.aload_n 0, 1) := by decide +kernel
theorem dL_law_1163 : decode cL_law 1163 = .ok (.iload_n 3, 1) := by decide +kernel
theorem dL_law_1164 : decode cL_law 1164 = .ok (.iconst 1, 1) := by decide +kernel
theorem dL_law_1165 : decode cL_law 1165 = .ok (.iadd, 1) := by decide +kernel
theorem dL_law_1166 : decode cL_law 1166 = .ok (.iaload, 1) := by decide +kernel
theorem dL_law_1167 : decode cL_law 1167 = .ok (.aload_n 0, 1) := by decide +kernel
theorem dL_law_1168 : decode cL_law 1168 = .ok (.iload_n 3, 1) := by decide +kernel
theorem dL_law_1169 : decode cL_law 1169 = .ok (.iconst 2, 1) := by decide +kernel
theorem dL_law_1170 : decode cL_law 1170 = .ok (.iadd, 1) := by decide +kernel
theorem dL_law_1171 : decode cL_law 1171 = .ok (.iaload, 1) := by decide +kernel
theorem dL_law_1172 : decode cL_law 1172 = .ok (.invokevirtual 111, 3) := by decide +kernel
theorem dL_law_1175 : decode cL_law 1175 = .ok (.aload_n 2, 1) := by decide +kernel
theorem dL_law_1176 : decode cL_law 1176 = .ok (.aload_n 0, 1) := by decide +kernel
theorem dL_law_1177 : decode cL_law 1177 = .ok (.iload_n 3, 1) := by decide +kernel
theorem dL_law_1178 : decode cL_law 1178 = .ok (.iconst 1, 1) := by decide +kernel
theorem dL_law_1179 : decode cL_law 1179 = .ok (.iadd, 1) := by decide +kernel
theorem dL_law_1180 : decode cL_law 1180 = .ok (.iaload, 1) := by decide +kernel
theorem dL_law_1181 : decode cL_law 1181 = .ok (.aload_n 0, 1) := by decide +kernel
theorem dL_law_1182 : decode cL_law 1182 = .ok (.iload_n 3, 1) := by decide +kernel
theorem dL_law_1183 : decode cL_law 1183 = .ok (.iconst 2, 1) := by decide +kernel
theorem dL_law_1184 : decode cL_law 1184 = .ok (.iadd, 1) := by decide +kernel
theorem dL_law_1185 : decode cL_law 1185 = .ok (.iaload, 1) := by decide +kernel
theorem dL_law_1186 : decode cL_law 1186 = .ok (.invokevirtual 114, 3) := by decide +kernel
theorem dL_law_1189 : decode cL_law 1189 = .ok (.if_icmp .eq 203, 3) := by decide +kernel
theorem dL_law_1192 : decode cL_law 1192 = .ok (.iconst 0, 1) := by decide +kernel
theorem dL_law_1193 : decode cL_law 1193 = .ok (.ireturn, 1) := by decide +kernel
theorem dL_law_1194 : decode cL_law 1194 = .ok (.aload_n 1, 1) := by decide +kernel
theorem dL_law_1195 : decode cL_law 1195 = .ok (.invokevirtual 115, 3) := by decide +kernel
theorem dL_law_1198 : decode cL_law 1198 = .ok (.aload_n 2, 1) := by decide +kernel
theorem dL_law_1199 : decode cL_law 1199 = .ok (.invokevirtual 119, 3) := by decide +kernel
theorem dL_law_1202 : decode cL_law 1202 = .ok (.if_icmp .eq 190, 3) := by decide +kernel
theorem dL_law_1205 : decode cL_law 1205 = .ok (.iconst 0, 1) := by decide +kernel
theorem dL_law_1206 : decode cL_law 1206 = .ok (.ireturn, 1) := by decide +kernel
theorem dL_law_1207 : decode cL_law 1207 = .ok (.aload_n 1, 1) := by decide +kernel
theorem dL_law_1208 : decode cL_law 1208 = .ok (.invokevirtual 120, 3) := by decide +kernel
theorem dL_law_1211 : decode cL_law 1211 = .ok (.aload_n 2, 1) := by decide +kernel
theorem dL_law_1212 : decode cL_law 1212 = .ok (.invokevirtual 123, 3) := by decide +kernel
theorem dL_law_1215 : decode cL_law 1215 = .ok (.if_icmp .eq 177, 3) := by decide +kernel
theorem dL_law_1218 : decode cL_law 1218 = .ok (.iconst 0, 1) := by decide +kernel
theorem dL_law_1219 : decode cL_law 1219 = .ok (.ireturn, 1) := by decide +kernel
theorem dL_law_1220 : decode cL_law 1220 = .ok (.aload_n 1, 1) := by decide +kernel
theorem dL_law_1221 : decode cL_law 1221 = .ok (.aload_n 0, 1) := by decide +kernel
theorem dL_law_1222 : decode cL_law 1222 = .ok (.iload_n 3, 1) := by decide +kernel
theorem dL_law_1223 : decode cL_law 1223 = .ok (.iconst 1, 1) := by decide +kernel
theorem dL_law_1224 : decode cL_law 1224 = .ok (.iadd, 1) := by decide +kernel
theorem dL_law_1225 : decode cL_law 1225 = .ok (.iaload, 1) := by decide +kernel
theorem dL_law_1226 : decode cL_law 1226 = .ok (.invokevirtual 124, 3) := by decide +kernel
theorem dL_law_1229 : decode cL_law 1229 = .ok (.aload_n 2, 1) := by decide +kernel
theorem dL_law_1230 : decode cL_law 1230 = .ok (.aload_n 0, 1) := by decide +kernel
theorem dL_law_1231 : decode cL_law 1231 = .ok (.iload_n 3, 1) := by decide +kernel
theorem dL_law_1232 : decode cL_law 1232 = .ok (.iconst 1, 1) := by decide +kernel
theorem dL_law_1233 : decode cL_law 1233 = .ok (.iadd, 1) := by decide +kernel
theorem dL_law_1234 : decode cL_law 1234 = .ok (.iaload, 1) := by decide +kernel
theorem dL_law_1235 : decode cL_law 1235 = .ok (.invokevirtual 127, 3) := by decide +kernel
theorem dL_law_1238 : decode cL_law 1238 = .ok (.if_icmp .eq 154, 3) := by decide +kernel
theorem dL_law_1241 : decode cL_law 1241 = .ok (.iconst 0, 1) := by decide +kernel
theorem dL_law_1242 : decode cL_law 1242 = .ok (.ireturn, 1) := by decide +kernel
theorem dL_law_1243 : decode cL_law 1243 = .ok (.aload_n 1, 1) := by decide +kernel
theorem dL_law_1244 : decode cL_law 1244 = .ok (.aload_n 0, 1) := by decide +kernel
theorem dL_law_1245 : decode cL_law 1245 = .ok (.iload_n 3, 1) := by decide +kernel
theorem dL_law_1246 : decode cL_law 1246 = .ok (.iconst 1, 1) := by decide +kernel
theorem dL_law_1247 : decode cL_law 1247 = .ok (.iadd, 1) := by decide +kernel
theorem dL_law_1248 : decode cL_law 1248 = .ok (.iaload, 1) := by decide +kernel
theorem dL_law_1249 : decode cL_law 1249 = .ok (.aload_n 0, 1) := by decide +kernel
theorem dL_law_1250 : decode cL_law 1250 = .ok (.iload_n 3, 1) := by decide +kernel
theorem dL_law_1251 : decode cL_law 1251 = .ok (.iconst 2, 1) := by decide +kernel
theorem dL_law_1252 : decode cL_law 1252 = .ok (.iadd, 1) := by decide +kernel
theorem dL_law_1253 : decode cL_law 1253 = .ok (.iaload, 1) := by decide +kernel
theorem dL_law_1254 : decode cL_law 1254 = .ok (.aload_n 0, 1) := by decide +kernel
theorem dL_law_1255 : decode cL_law 1255 = .ok (.iload_n 3, 1) := by decide +kernel
theorem dL_law_1256 : decode cL_law 1256 = .ok (.iconst 3, 1) := by decide +kernel
theorem dL_law_1257 : decode cL_law 1257 = .ok (.iadd, 1) := by decide +kernel
theorem dL_law_1258 : decode cL_law 1258 = .ok (.iaload, 1) := by decide +kernel
theorem dL_law_1259 : decode cL_law 1259 = .ok (.invokevirtual 128, 3) := by decide +kernel
theorem dL_law_1262 : decode cL_law 1262 = .ok (.aload_n 2, 1) := by decide +kernel
theorem dL_law_1263 : decode cL_law 1263 = .ok (.aload_n 0, 1) := by decide +kernel
theorem dL_law_1264 : decode cL_law 1264 = .ok (.iload_n 3, 1) := by decide +kernel
theorem dL_law_1265 : decode cL_law 1265 = .ok (.iconst 1, 1) := by decide +kernel
theorem dL_law_1266 : decode cL_law 1266 = .ok (.iadd, 1) := by decide +kernel
theorem dL_law_1267 : decode cL_law 1267 = .ok (.iaload, 1) := by decide +kernel
theorem dL_law_1268 : decode cL_law 1268 = .ok (.aload_n 0, 1) := by decide +kernel
theorem dL_law_1269 : decode cL_law 1269 = .ok (.iload_n 3, 1) := by decide +kernel
theorem dL_law_1270 : decode cL_law 1270 = .ok (.iconst 2, 1) := by decide +kernel
theorem dL_law_1271 : decode cL_law 1271 = .ok (.iadd, 1) := by decide +kernel
theorem dL_law_1272 : decode cL_law 1272 = .ok (.iaload, 1) := by decide +kernel
theorem dL_law_1273 : decode cL_law 1273 = .ok (.aload_n 0, 1) := by decide +kernel
theorem dL_law_1274 : decode cL_law 1274 = .ok (.iload_n 3, 1) := by decide +kernel
theorem dL_law_1275 : decode cL_law 1275 = .ok (.iconst 3, 1) := by decide +kernel
theorem dL_law_1276 : decode cL_law 1276 = .ok (.iadd, 1) := by decide +kernel
theorem dL_law_1277 : decode cL_law 1277 = .ok (.iaload, 1) := by decide +kernel
theorem dL_law_1278 : decode cL_law 1278 = .ok (.invokevirtual 131, 3) := by decide +kernel
theorem dL_law_1281 : decode cL_law 1281 = .ok (.if_icmp .eq 111, 3) := by decide +kernel
theorem dL_law_1284 : decode cL_law 1284 = .ok (.iconst 0, 1) := by decide +kernel
theorem dL_law_1285 : decode cL_law 1285 = .ok (.ireturn, 1) := by decide +kernel
theorem dL_law_1286 : decode cL_law 1286 = .ok (.aload_n 1, 1) := by decide +kernel
theorem dL_law_1287 : decode cL_law 1287 = .ok (.aload_n 0, 1) := by decide +kernel
theorem dL_law_1288 : decode cL_law 1288 = .ok (.iload_n 3, 1) := by decide +kernel
theorem dL_law_1289 : decode cL_law 1289 = .ok (.iconst 1, 1) := by decide +kernel
theorem dL_law_1290 : decode cL_law 1290 = .ok (.iadd, 1) := by decide +kernel
theorem dL_law_1291 : decode cL_law 1291 = .ok (.iaload, 1) := by decide +kernel
theorem dL_law_1292 : decode cL_law 1292 = .ok (.aload_n 0, 1) := by decide +kernel
theorem dL_law_1293 : decode cL_law 1293 = .ok (.iload_n 3, 1) := by decide +kernel
theorem dL_law_1294 : decode cL_law 1294 = .ok (.iconst 2, 1) := by decide +kernel
theorem dL_law_1295 : decode cL_law 1295 = .ok (.iadd, 1) := by decide +kernel
theorem dL_law_1296 : decode cL_law 1296 = .ok (.iaload, 1) := by decide +kernel
theorem dL_law_1297 : decode cL_law 1297 = .ok (.aload_n 0, 1) := by decide +kernel
theorem dL_law_1298 : decode cL_law 1298 = .ok (.iload_n 3, 1) := by decide +kernel
theorem dL_law_1299 : decode cL_law 1299 = .ok (.iconst 3, 1) := by decide +kernel
theorem dL_law_1300 : decode cL_law 1300 = .ok (.iadd, 1) := by decide +kernel
theorem dL_law_1301 : decode cL_law 1301 = .ok (.iaload, 1) := by decide +kernel
theorem dL_law_1302 : decode cL_law 1302 = .ok (.invokevirtual 132, 3) := by decide +kernel
theorem dL_law_1305 : decode cL_law 1305 = .ok (.aload_n 2, 1) := by decide +kernel
theorem dL_law_1306 : decode cL_law 1306 = .ok (.aload_n 0, 1) := by decide +kernel
theorem dL_law_1307 : decode cL_law 1307 = .ok (.iload_n 3, 1) := by decide +kernel
theorem dL_law_1308 : decode cL_law 1308 = .ok (.iconst 1, 1) := by decide +kernel
theorem dL_law_1309 : decode cL_law 1309 = .ok (.iadd, 1) := by decide +kernel
theorem dL_law_1310 : decode cL_law 1310 = .ok (.iaload, 1) := by decide +kernel
theorem dL_law_1311 : decode cL_law 1311 = .ok (.aload_n 0, 1) := by decide +kernel
theorem dL_law_1312 : decode cL_law 1312 = .ok (.iload_n 3, 1) := by decide +kernel
theorem dL_law_1313 : decode cL_law 1313 = .ok (.iconst 2, 1) := by decide +kernel
theorem dL_law_1314 : decode cL_law 1314 = .ok (.iadd, 1) := by decide +kernel
theorem dL_law_1315 : decode cL_law 1315 = .ok (.iaload, 1) := by decide +kernel
theorem dL_law_1316 : decode cL_law 1316 = .ok (.aload_n 0, 1) := by decide +kernel
theorem dL_law_1317 : decode cL_law 1317 = .ok (.iload_n 3, 1) := by decide +kernel
theorem dL_law_1318 : decode cL_law 1318 = .ok (.iconst 3, 1) := by decide +kernel
theorem dL_law_1319 : decode cL_law 1319 = .ok (.iadd, 1) := by decide +kernel
theorem dL_law_1320 : decode cL_law 1320 = .ok (.iaload, 1) := by decide +kernel
theorem dL_law_1321 : decode cL_law 1321 = .ok (.invokevirtual 135, 3) := by decide +kernel
theorem dL_law_1324 : decode cL_law 1324 = .ok (.if_icmp .eq 68, 3) := by decide +kernel
theorem dL_law_1327 : decode cL_law 1327 = .ok (.iconst 0, 1) := by decide +kernel
theorem dL_law_1328 : decode cL_law 1328 = .ok (.ireturn, 1) := by decide +kernel
theorem dL_law_1329 : decode cL_law 1329 = .ok (.aload_n 1, 1) := by decide +kernel
theorem dL_law_1330 : decode cL_law 1330 = .ok (.aload_n 0, 1) := by decide +kernel
theorem dL_law_1331 : decode cL_law 1331 = .ok (.iload_n 3, 1) := by decide +kernel
theorem dL_law_1332 : decode cL_law 1332 = .ok (.iconst 1, 1) := by decide +kernel
theorem dL_law_1333 : decode cL_law 1333 = .ok (.iadd, 1) := by decide +kernel
theorem dL_law_1334 : decode cL_law 1334 = .ok (.iaload, 1) := by decide +kernel
theorem dL_law_1335 : decode cL_law 1335 = .ok (.aload_n 0, 1) := by decide +kernel
theorem dL_law_1336 : decode cL_law 1336 = .ok (.iload_n 3, 1) := by decide +kernel
theorem dL_law_1337 : decode cL_law 1337 = .ok (.iconst 2, 1) := by decide +kernel
theorem dL_law_1338 : decode cL_law 1338 = .ok (.iadd, 1) := by decide +kernel
theorem dL_law_1339 : decode cL_law 1339 = .ok (.iaload, 1) := by decide +kernel
theorem dL_law_1340 : decode cL_law 1340 = .ok (.aload_n 0, 1) := by decide +kernel
theorem dL_law_1341 : decode cL_law 1341 = .ok (.iload_n 3, 1) := by decide +kernel
theorem dL_law_1342 : decode cL_law 1342 = .ok (.iconst 3, 1) := by decide +kernel
theorem dL_law_1343 : decode cL_law 1343 = .ok (.iadd, 1) := by decide +kernel
theorem dL_law_1344 : decode cL_law 1344 = .ok (.iaload, 1) := by decide +kernel
theorem dL_law_1345 : decode cL_law 1345 = .ok (.aload_n 0, 1) := by decide +kernel
theorem dL_law_1346 : decode cL_law 1346 = .ok (.iload_n 3, 1) := by decide +kernel
theorem dL_law_1347 : decode cL_law 1347 = .ok (.iconst 4, 1) := by decide +kernel
theorem dL_law_1348 : decode cL_law 1348 = .ok (.iadd, 1) := by decide +kernel
theorem dL_law_1349 : decode cL_law 1349 = .ok (.iaload, 1) := by decide +kernel
theorem dL_law_1350 : decode cL_law 1350 = .ok (.aload_n 0, 1) := by decide +kernel
theorem dL_law_1351 : decode cL_law 1351 = .ok (.iload_n 3, 1) := by decide +kernel
theorem dL_law_1352 : decode cL_law 1352 = .ok (.iconst 5, 1) := by decide +kernel
theorem dL_law_1353 : decode cL_law 1353 = .ok (.iadd, 1) := by decide +kernel
theorem dL_law_1354 : decode cL_law 1354 = .ok (.iaload, 1) := by decide +kernel
theorem dL_law_1355 : decode cL_law 1355 = .ok (.invokevirtual 136, 3) := by decide +kernel
theorem dL_law_1358 : decode cL_law 1358 = .ok (.aload_n 2, 1) := by decide +kernel
theorem dL_law_1359 : decode cL_law 1359 = .ok (.aload_n 0, 1) := by decide +kernel
theorem dL_law_1360 : decode cL_law 1360 = .ok (.iload_n 3, 1) := by decide +kernel
theorem dL_law_1361 : decode cL_law 1361 = .ok (.iconst 1, 1) := by decide +kernel
theorem dL_law_1362 : decode cL_law 1362 = .ok (.iadd, 1) := by decide +kernel
theorem dL_law_1363 : decode cL_law 1363 = .ok (.iaload, 1) := by decide +kernel
theorem dL_law_1364 : decode cL_law 1364 = .ok (.aload_n 0, 1) := by decide +kernel
theorem dL_law_1365 : decode cL_law 1365 = .ok (.iload_n 3, 1) := by decide +kernel
theorem dL_law_1366 : decode cL_law 1366 = .ok (.iconst 2, 1) := by decide +kernel
theorem dL_law_1367 : decode cL_law 1367 = .ok (.iadd, 1) := by decide +kernel
theorem dL_law_1368 : decode cL_law 1368 = .ok (.iaload, 1) := by decide +kernel
theorem dL_law_1369 : decode cL_law 1369 = .ok (.aload_n 0, 1) := by decide +kernel
theorem dL_law_1370 : decode cL_law 1370 = .ok (.iload_n 3, 1) := by decide +kernel
theorem dL_law_1371 : decode cL_law 1371 = .ok (.iconst 3, 1) := by decide +kernel
theorem dL_law_1372 : decode cL_law 1372 = .ok (.iadd, 1) := by decide +kernel
theorem dL_law_1373 : decode cL_law 1373 = .ok (.iaload, 1) := by decide +kernel
theorem dL_law_1374 : decode cL_law 1374 = .ok (.aload_n 0, 1) := by decide +kernel
theorem dL_law_1375 : decode cL_law 1375 = .ok (.iload_n 3, 1) := by decide +kernel
theorem dL_law_1376 : decode cL_law 1376 = .ok (.iconst 4, 1) := by decide +kernel
theorem dL_law_1377 : decode cL_law 1377 = .ok (.iadd, 1) := by decide +kernel
theorem dL_law_1378 : decode cL_law 1378 = .ok (.iaload, 1) := by decide +kernel
theorem dL_law_1379 : decode cL_law 1379 = .ok (.aload_n 0, 1) := by decide +kernel
theorem dL_law_1380 : decode cL_law 1380 = .ok (.iload_n 3, 1) := by decide +kernel
theorem dL_law_1381 : decode cL_law 1381 = .ok (.iconst 5, 1) := by decide +kernel
theorem dL_law_1382 : decode cL_law 1382 = .ok (.iadd, 1) := by decide +kernel
theorem dL_law_1383 : decode cL_law 1383 = .ok (.iaload, 1) := by decide +kernel
theorem dL_law_1384 : decode cL_law 1384 = .ok (.invokevirtual 139, 3) := by decide +kernel
theorem dL_law_1387 : decode cL_law 1387 = .ok (.if_icmp .eq 5, 3) := by decide +kernel
theorem dL_law_1390 : decode cL_law 1390 = .ok (.iconst 0, 1) := by decide +kernel
theorem dL_law_1391 : decode cL_law 1391 = .ok (.ireturn, 1) := by decide +kernel
theorem dL_law_1392 : decode cL_law 1392 = .ok (.iinc 3 7, 3) := by decide +kernel
theorem dL_law_1395 : decode cL_law 1395 = .ok (.goto (-1377), 3) := by decide +kernel
theorem dL_law_1398 : decode cL_law 1398 = .ok (.iconst 1, 1) := by decide +kernel
theorem dL_law_1399 : decode cL_law 1399 = .ok (.ireturn, 1) := by decide +kernel
