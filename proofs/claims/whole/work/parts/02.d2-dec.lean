theorem dX9_areas_85 : decode cX9_areas 85 = .ok (.invokevirtual 235, 3) := by decide +kernel
theorem dX9_areas_88 : decode cX9_areas 88 = .ok (.istore 6, 2) := by decide +kernel
theorem dX9_areas_90 : decode cX9_areas 90 = .ok (.iinc 2 1, 3) := by decide +kernel
theorem dX9_areas_93 : decode cX9_areas 93 = .ok (.iload 6, 2) := by decide +kernel
theorem dX9_areas_95 : decode cX9_areas 95 = .ok (.iload_n 3, 1) := by decide +kernel
theorem dX9_areas_96 : decode cX9_areas 96 = .ok (.if_icmp .le 18, 3) := by decide +kernel
theorem dX9_areas_99 : decode cX9_areas 99 = .ok (.iload 6, 2) := by decide +kernel
theorem dX9_areas_101 : decode cX9_areas 101 = .ok (.istore_n 3, 1) := by decide +kernel
theorem dX9_areas_102 : decode cX9_areas 102 = .ok (.aload_n 0, 1) := by decide +kernel
theorem dX9_areas_103 : decode cX9_areas 103 = .ok (.getfield 40, 3) := by decide +kernel
theorem dX9_areas_106 : decode cX9_areas 106 = .ok (.getfield 229, 3) := by decide +kernel
theorem dX9_areas_109 : decode cX9_areas 109 = .ok (.iload 5, 2) := by decide +kernel
theorem dX9_areas_111 : decode cX9_areas 111 = .ok (.iaload, 1) := by decide +kernel
theorem dX9_areas_112 : decode cX9_areas 112 = .ok (.istore 4, 2) := by decide +kernel
theorem dX9_areas_114 : decode cX9_areas 114 = .ok (.iinc 5 1, 3) := by decide +kernel
theorem dX9_areas_117 : decode cX9_areas 117 = .ok (.goto (-59), 3) := by decide +kernel
theorem dX9_areas_120 : decode cX9_areas 120 = .ok (.iload_n 1, 1) := by decide +kernel
theorem dX9_areas_121 : decode cX9_areas 121 = .ok (.ifCond .ne 5, 3) := by decide +kernel
theorem dX9_areas_124 : decode cX9_areas 124 = .ok (.iload_n 2, 1) := by decide +kernel
theorem dX9_areas_125 : decode cX9_areas 125 = .ok (.ireturn, 1) := by decide +kernel
theorem dX9_areas_126 : decode cX9_areas 126 = .ok (.iload_n 1, 1) := by decide +kernel
theorem dX9_areas_127 : decode cX9_areas 127 = .ok (.iconst 1, 1) := by decide +kernel
theorem dX9_areas_128 : decode cX9_areas 128 = .ok (.if_icmp .ne 7, 3) := by decide +kernel
theorem dX9_areas_131 : decode cX9_areas 131 = .ok (.iload_n 3, 1) := by decide +kernel
theorem dX9_areas_132 : decode cX9_areas 132 = .ok (.goto 5, 3) := by decide +kernel
theorem dX9_areas_135 : decode cX9_areas 135 = .ok (.iload 4, 2) := by decide +kernel
theorem dX9_areas_137 : decode cX9_areas 137 = .ok (.ireturn, 1) := by decide +kernel
theorem dX9_sprayed_0 : decode cX9_sprayed 0 = .ok (.aload_n 0, 1) := by decide +kernel
theorem dX9_sprayed_1 : decode cX9_sprayed 1 = .ok (.getfield 10, 3) := by decide +kernel
theorem dX9_sprayed_4 : decode cX9_sprayed 4 = .ok (.iload_n 1, 1) := by decide +kernel
theorem dX9_sprayed_5 : decode cX9_sprayed 5 = .ok (.invokevirtual 67, 3) := by decide +kernel
theorem dX9_sprayed_8 : decode cX9_sprayed 8 = .ok (.ifCond .eq 13, 3) := by decide +kernel
theorem dX9_sprayed_11 : decode cX9_sprayed 11 = .ok (.iload_n 3, 1) := by decide +kernel
theorem dX9_sprayed_12 : decode cX9_sprayed 12 = .ok (.iconst 0, 1) := by decide +kernel
theorem dX9_sprayed_13 : decode cX9_sprayed 13 = .ok (.bipush 30, 2) := by decide +kernel
theorem dX9_sprayed_15 : decode cX9_sprayed 15 = .ok (.invokestatic 104, 3) := by decide +kernel
theorem dX9_sprayed_18 : decode cX9_sprayed 18 = .ok (.ifCond .ne 6, 3) := by decide +kernel
theorem dX9_sprayed_21 : decode cX9_sprayed 21 = .ok (.bipush (-2), 2) := by decide +kernel
theorem dX9_sprayed_23 : decode cX9_sprayed 23 = .ok (.ireturn, 1) := by decide +kernel
theorem dX9_sprayed_24 : decode cX9_sprayed 24 = .ok (.aload_n 0, 1) := by decide +kernel
theorem dX9_sprayed_25 : decode cX9_sprayed 25 = .ok (.iload_n 1, 1) := by decide +kernel
theorem dX9_sprayed_26 : decode cX9_sprayed 26 = .ok (.iload_n 2, 1) := by decide +kernel
theorem dX9_sprayed_27 : decode cX9_sprayed 27 = .ok (.iload_n 3, 1) := by decide +kernel
theorem dX9_sprayed_28 : decode cX9_sprayed 28 = .ok (.invokevirtual 238, 3) := by decide +kernel
theorem dX9_sprayed_31 : decode cX9_sprayed 31 = .ok (.iconst 0, 1) := by decide +kernel
theorem dX9_sprayed_32 : decode cX9_sprayed 32 = .ok (.istore 4, 2) := by decide +kernel
theorem dX9_sprayed_34 : decode cX9_sprayed 34 = .ok (.iconst 0, 1) := by decide +kernel
theorem dX9_sprayed_35 : decode cX9_sprayed 35 = .ok (.istore 5, 2) := by decide +kernel
theorem dX9_sprayed_37 : decode cX9_sprayed 37 = .ok (.iload 5, 2) := by decide +kernel
theorem dX9_sprayed_39 : decode cX9_sprayed 39 = .ok (.sipush 192, 3) := by decide +kernel
theorem dX9_sprayed_42 : decode cX9_sprayed 42 = .ok (.if_icmp .ge 22, 3) := by decide +kernel
theorem dX9_sprayed_45 : decode cX9_sprayed 45 = .ok (.aload_n 0, 1) := by decide +kernel
theorem dX9_sprayed_46 : decode cX9_sprayed 46 = .ok (.iload_n 1, 1) := by decide +kernel
theorem dX9_sprayed_47 : decode cX9_sprayed 47 = .ok (.iload 5, 2) := by decide +kernel
theorem dX9_sprayed_49 : decode cX9_sprayed 49 = .ok (.invokevirtual 241, 3) := by decide +kernel
theorem dX9_sprayed_52 : decode cX9_sprayed 52 = .ok (.ifCond .eq 6, 3) := by decide +kernel
theorem dX9_sprayed_55 : decode cX9_sprayed 55 = .ok (.iinc 4 1, 3) := by decide +kernel
theorem dX9_sprayed_58 : decode cX9_sprayed 58 = .ok (.iinc 5 1, 3) := by decide +kernel
theorem dX9_sprayed_61 : decode cX9_sprayed 61 = .ok (.goto (-24), 3) := by decide +kernel
theorem dX9_sprayed_64 : decode cX9_sprayed 64 = .ok (.iload 4, 2) := by decide +kernel
theorem dX9_sprayed_66 : decode cX9_sprayed 66 = .ok (.ireturn, 1) := by decide +kernel
theorem dX9_chance_0 : decode cX9_chance 0 = .ok (.aload_n 0, 1) := by decide +kernel
theorem dX9_chance_1 : decode cX9_chance 1 = .ok (.getfield 10, 3) := by decide +kernel
theorem dX9_chance_4 : decode cX9_chance 4 = .ok (.iload_n 1, 1) := by decide +kernel
theorem dX9_chance_5 : decode cX9_chance 5 = .ok (.invokevirtual 67, 3) := by decide +kernel
theorem dX9_chance_8 : decode cX9_chance 8 = .ok (.ifCond .eq 37, 3) := by decide +kernel
theorem dX9_chance_11 : decode cX9_chance 11 = .ok (.iload_n 3, 1) := by decide +kernel
theorem dX9_chance_12 : decode cX9_chance 12 = .ok (.iconst 1, 1) := by decide +kernel
theorem dX9_chance_13 : decode cX9_chance 13 = .ok (.bipush 10, 2) := by decide +kernel
theorem dX9_chance_15 : decode cX9_chance 15 = .ok (.invokestatic 104, 3) := by decide +kernel
theorem dX9_chance_18 : decode cX9_chance 18 = .ok (.ifCond .eq 27, 3) := by decide +kernel
theorem dX9_chance_21 : decode cX9_chance 21 = .ok (.iload 4, 2) := by decide +kernel
theorem dX9_chance_23 : decode cX9_chance 23 = .ok (.iload 5, 2) := by decide +kernel
theorem dX9_chance_25 : decode cX9_chance 25 = .ok (.invokestatic 118, 3) := by decide +kernel
theorem dX9_chance_28 : decode cX9_chance 28 = .ok (.ifCond .eq 17, 3) := by decide +kernel
theorem dX9_chance_31 : decode cX9_chance 31 = .ok (.iload 6, 2) := by decide +kernel
theorem dX9_chance_33 : decode cX9_chance 33 = .ok (.iconst 0, 1) := by decide +kernel
theorem dX9_chance_34 : decode cX9_chance 34 = .ok (.iconst 1, 1) := by decide +kernel
theorem dX9_chance_35 : decode cX9_chance 35 = .ok (.invokestatic 104, 3) := by decide +kernel
theorem dX9_chance_38 : decode cX9_chance 38 = .ok (.ifCond .eq 7, 3) := by decide +kernel
theorem dX9_chance_41 : decode cX9_chance 41 = .ok (.iconst 1, 1) := by decide +kernel
theorem dX9_chance_42 : decode cX9_chance 42 = .ok (.goto 4, 3) := by decide +kernel
theorem dX9_chance_45 : decode cX9_chance 45 = .ok (.iconst 0, 1) := by decide +kernel
theorem dX9_chance_46 : decode cX9_chance 46 = .ok (.istore 7, 2) := by decide +kernel
theorem dX9_chance_48 : decode cX9_chance 48 = .ok (.iload 7, 2) := by decide +kernel
theorem dX9_chance_50 : decode cX9_chance 50 = .ok (.ifCond .ne 6, 3) := by decide +kernel
theorem dX9_chance_53 : decode cX9_chance 53 = .ok (.bipush (-2), 2) := by decide +kernel
theorem dX9_chance_55 : decode cX9_chance 55 = .ok (.ireturn, 1) := by decide +kernel
theorem dX9_chance_56 : decode cX9_chance 56 = .ok (.iconst 0, 1) := by decide +kernel
theorem dX9_chance_57 : decode cX9_chance 57 = .ok (.istore 8, 2) := by decide +kernel
theorem dX9_chance_59 : decode cX9_chance 59 = .ok (.iconst 0, 1) := by decide +kernel
theorem dX9_chance_60 : decode cX9_chance 60 = .ok (.istore 9, 2) := by decide +kernel
theorem dX9_chance_62 : decode cX9_chance 62 = .ok (.iload 9, 2) := by decide +kernel
theorem dX9_chance_64 : decode cX9_chance 64 = .ok (.iload_n 3, 1) := by decide +kernel
theorem dX9_chance_65 : decode cX9_chance 65 = .ok (.if_icmp .ge 37, 3) := by decide +kernel
theorem dX9_chance_68 : decode cX9_chance 68 = .ok (.aload_n 0, 1) := by decide +kernel
theorem dX9_chance_69 : decode cX9_chance 69 = .ok (.iload_n 1, 1) := by decide +kernel
theorem dX9_chance_70 : decode cX9_chance 70 = .ok (.iload_n 2, 1) := by decide +kernel
theorem dX9_chance_71 : decode cX9_chance 71 = .ok (.iload 9, 2) := by decide +kernel
theorem dX9_chance_73 : decode cX9_chance 73 = .ok (.iadd, 1) := by decide +kernel
theorem dX9_chance_74 : decode cX9_chance 74 = .ok (.iconst 4, 1) := by decide +kernel
theorem dX9_chance_75 : decode cX9_chance 75 = .ok (.invokevirtual 238, 3) := by decide +kernel
theorem dX9_chance_78 : decode cX9_chance 78 = .ok (.aload_n 0, 1) := by decide +kernel
theorem dX9_chance_79 : decode cX9_chance 79 = .ok (.iload_n 1, 1) := by decide +kernel
theorem dX9_chance_80 : decode cX9_chance 80 = .ok (.iload 4, 2) := by decide +kernel
theorem dX9_chance_82 : decode cX9_chance 82 = .ok (.iload 5, 2) := by decide +kernel
theorem dX9_chance_84 : decode cX9_chance 84 = .ok (.invokestatic 121, 3) := by decide +kernel
theorem dX9_chance_87 : decode cX9_chance 87 = .ok (.invokevirtual 241, 3) := by decide +kernel
theorem dX9_chance_90 : decode cX9_chance 90 = .ok (.ifCond .eq 6, 3) := by decide +kernel
theorem dX9_chance_93 : decode cX9_chance 93 = .ok (.iinc 8 1, 3) := by decide +kernel
theorem dX9_chance_96 : decode cX9_chance 96 = .ok (.iinc 9 1, 3) := by decide +kernel
theorem dX9_chance_99 : decode cX9_chance 99 = .ok (.goto (-37), 3) := by decide +kernel
theorem dX9_chance_102 : decode cX9_chance 102 = .ok (.iload 6, 2) := by decide +kernel
theorem dX9_chance_104 : decode cX9_chance 104 = .ok (.ifCond .ne 12, 3) := by decide +kernel
theorem dX9_chance_107 : decode cX9_chance 107 = .ok (.iload 8, 2) := by decide +kernel
theorem dX9_chance_109 : decode cX9_chance 109 = .ok (.iload_n 3, 1) := by decide +kernel
theorem dX9_chance_110 : decode cX9_chance 110 = .ok (.invokestatic 244, 3) := by decide +kernel
theorem dX9_chance_113 : decode cX9_chance 113 = .ok (.goto 9, 3) := by decide +kernel
theorem dX9_chance_116 : decode cX9_chance 116 = .ok (.iload_n 3, 1) := by decide +kernel
theorem dX9_chance_117 : decode cX9_chance 117 = .ok (.iload 8, 2) := by decide +kernel
theorem dX9_chance_119 : decode cX9_chance 119 = .ok (.invokestatic 244, 3) := by decide +kernel
theorem dX9_chance_122 : decode cX9_chance 122 = .ok (.ireturn, 1) := by decide +kernel
theorem dX9_tells_0 : decode cX9_tells 0 = .ok (.iload_n 1, 1) := by decide +kernel
theorem dX9_tells_1 : decode cX9_tells 1 = .ok (.invokestatic 247, 3) := by decide +kernel
theorem dX9_tells_4 : decode cX9_tells 4 = .ok (.ifCond .eq 27, 3) := by decide +kernel
theorem dX9_tells_7 : decode cX9_tells 7 = .ok (.iload_n 2, 1) := by decide +kernel
theorem dX9_tells_8 : decode cX9_tells 8 = .ok (.invokestatic 217, 3) := by decide +kernel
theorem dX9_tells_11 : decode cX9_tells 11 = .ok (.ifCond .eq 20, 3) := by decide +kernel
theorem dX9_tells_14 : decode cX9_tells 14 = .ok (.iload_n 3, 1) := by decide +kernel
theorem dX9_tells_15 : decode cX9_tells 15 = .ok (.iconst 0, 1) := by decide +kernel
theorem dX9_tells_16 : decode cX9_tells 16 = .ok (.aload_n 0, 1) := by decide +kernel
theorem dX9_tells_17 : decode cX9_tells 17 = .ok (.getfield 10, 3) := by decide +kernel
theorem dX9_tells_20 : decode cX9_tells 20 = .ok (.getfield 59, 3) := by decide +kernel
theorem dX9_tells_23 : decode cX9_tells 23 = .ok (.iconst 1, 1) := by decide +kernel
theorem dX9_tells_24 : decode cX9_tells 24 = .ok (.iadd, 1) := by decide +kernel
theorem dX9_tells_25 : decode cX9_tells 25 = .ok (.invokestatic 104, 3) := by decide +kernel
theorem dX9_tells_28 : decode cX9_tells 28 = .ok (.ifCond .ne 6, 3) := by decide +kernel
theorem dX9_tells_31 : decode cX9_tells 31 = .ok (.bipush (-2), 2) := by decide +kernel
theorem dX9_tells_33 : decode cX9_tells 33 = .ok (.ireturn, 1) := by decide +kernel
theorem dX9_tells_34 : decode cX9_tells 34 = .ok (.aload_n 0, 1) := by decide +kernel
theorem dX9_tells_35 : decode cX9_tells 35 = .ok (.getfield 32, 3) := by decide +kernel
theorem dX9_tells_38 : decode cX9_tells 38 = .ok (.iload_n 1, 1) := by decide +kernel
theorem dX9_tells_39 : decode cX9_tells 39 = .ok (.aaload, 1) := by decide +kernel
theorem dX9_tells_40 : decode cX9_tells 40 = .ok (.astore 4, 2) := by decide +kernel
theorem dX9_tells_42 : decode cX9_tells 42 = .ok (.aload 4, 2) := by decide +kernel
theorem dX9_tells_44 : decode cX9_tells 44 = .ok (.invokevirtual 250, 3) := by decide +kernel
theorem dX9_tells_47 : decode cX9_tells 47 = .ok (.ifCond .eq 6, 3) := by decide +kernel
theorem dX9_tells_50 : decode cX9_tells 50 = .ok (.bipush (-11), 2) := by decide +kernel
theorem dX9_tells_52 : decode cX9_tells 52 = .ok (.ireturn, 1) := by decide +kernel
theorem dX9_tells_53 : decode cX9_tells 53 = .ok (.aload 4, 2) := by decide +kernel
theorem dX9_tells_55 : decode cX9_tells 55 = .ok (.getfield 254, 3) := by decide +kernel
theorem dX9_tells_58 : decode cX9_tells 58 = .ok (.bipush 16, 2) := by decide +kernel
theorem dX9_tells_60 : decode cX9_tells 60 = .ok (.if_icmp .le 6, 3) := by decide +kernel
theorem dX9_tells_63 : decode cX9_tells 63 = .ok (.bipush (-2), 2) := by decide +kernel
theorem dX9_tells_65 : decode cX9_tells 65 = .ok (.ireturn, 1) := by decide +kernel
theorem dX9_tells_66 : decode cX9_tells 66 = .ok (.iload_n 3, 1) := by decide +kernel
theorem dX9_tells_67 : decode cX9_tells 67 = .ok (.ifCond .ne 19, 3) := by decide +kernel
theorem dX9_tells_70 : decode cX9_tells 70 = .ok (.aload_n 0, 1) := by decide +kernel
theorem dX9_tells_71 : decode cX9_tells 71 = .ok (.aload 4, 2) := by decide +kernel
theorem dX9_tells_73 : decode cX9_tells 73 = .ok (.iload_n 2, 1) := by decide +kernel
theorem dX9_tells_74 : decode cX9_tells 74 = .ok (.aload_n 0, 1) := by decide +kernel
theorem dX9_tells_75 : decode cX9_tells 75 = .ok (.getfield 10, 3) := by decide +kernel
theorem dX9_tells_78 : decode cX9_tells 78 = .ok (.getfield 255, 3) := by decide +kernel
theorem dX9_tells_81 : decode cX9_tells 81 = .ok (.iconst (-1), 1) := by decide +kernel
theorem dX9_tells_82 : decode cX9_tells 82 = .ok (.invokevirtual 258, 3) := by decide +kernel
theorem dX9_tells_85 : decode cX9_tells 85 = .ok (.ireturn, 1) := by decide +kernel
theorem dX9_tells_86 : decode cX9_tells 86 = .ok (.iload_n 3, 1) := by decide +kernel
theorem dX9_tells_87 : decode cX9_tells 87 = .ok (.iconst 1, 1) := by decide +kernel
theorem dX9_tells_88 : decode cX9_tells 88 = .ok (.if_icmp .ne 13, 3) := by decide +kernel
theorem dX9_tells_91 : decode cX9_tells 91 = .ok (.aload_n 0, 1) := by decide +kernel
theorem dX9_tells_92 : decode cX9_tells 92 = .ok (.aload 4, 2) := by decide +kernel
theorem dX9_tells_94 : decode cX9_tells 94 = .ok (.iload_n 2, 1) := by decide +kernel
theorem dX9_tells_95 : decode cX9_tells 95 = .ok (.invokevirtual 262, 3) := by decide +kernel
theorem dX9_tells_98 : decode cX9_tells 98 = .ok (.goto 13, 3) := by decide +kernel
theorem dX9_tells_101 : decode cX9_tells 101 = .ok (.aload_n 0, 1) := by decide +kernel
theorem dX9_tells_102 : decode cX9_tells 102 = .ok (.aload 4, 2) := by decide +kernel
theorem dX9_tells_104 : decode cX9_tells 104 = .ok (.iload_n 2, 1) := by decide +kernel
theorem dX9_tells_105 : decode cX9_tells 105 = .ok (.iload_n 3, 1) := by decide +kernel
theorem dX9_tells_106 : decode cX9_tells 106 = .ok (.iconst 2, 1) := by decide +kernel
theorem dX9_tells_107 : decode cX9_tells 107 = .ok (.isub, 1) := by decide +kernel
theorem dX9_tells_108 : decode cX9_tells 108 = .ok (.invokevirtual 266, 3) := by decide +kernel
theorem dX9_tells_111 : decode cX9_tells 111 = .ok (.ireturn, 1) := by decide +kernel
theorem dX9_film_0 : decode cX9_film 0 = .ok (.iload_n 1, 1) := by decide +kernel
theorem dX9_film_1 : decode cX9_film 1 = .ok (.invokestatic 247, 3) := by decide +kernel
theorem dX9_film_4 : decode cX9_film 4 = .ok (.ifCond .eq 10, 3) := by decide +kernel
theorem dX9_film_7 : decode cX9_film 7 = .ok (.iload_n 2, 1) := by decide +kernel
theorem dX9_film_8 : decode cX9_film 8 = .ok (.invokestatic 217, 3) := by decide +kernel
theorem dX9_film_11 : decode cX9_film 11 = .ok (.ifCond .ne 6, 3) := by decide +kernel
theorem dX9_film_14 : decode cX9_film 14 = .ok (.bipush (-2), 2) := by decide +kernel
theorem dX9_film_16 : decode cX9_film 16 = .ok (.ireturn, 1) := by decide +kernel
theorem dX9_film_17 : decode cX9_film 17 = .ok (.aload_n 0, 1) := by decide +kernel
theorem dX9_film_18 : decode cX9_film 18 = .ok (.getfield 32, 3) := by decide +kernel
theorem dX9_film_21 : decode cX9_film 21 = .ok (.iload_n 1, 1) := by decide +kernel
theorem dX9_film_22 : decode cX9_film 22 = .ok (.aaload, 1) := by decide +kernel
theorem dX9_film_23 : decode cX9_film 23 = .ok (.iconst 0, 1) := by decide +kernel
theorem dX9_film_24 : decode cX9_film 24 = .ok (.bipush 16, 2) := by decide +kernel
theorem dX9_film_26 : decode cX9_film 26 = .ok (.invokevirtual 270, 3) := by decide +kernel
theorem dX9_film_29 : decode cX9_film 29 = .ok (.iconst 0, 1) := by decide +kernel
theorem dX9_film_30 : decode cX9_film 30 = .ok (.istore_n 3, 1) := by decide +kernel
theorem dX9_film_31 : decode cX9_film 31 = .ok (.iload_n 3, 1) := by decide +kernel
theorem dX9_film_32 : decode cX9_film 32 = .ok (.bipush 16, 2) := by decide +kernel
theorem dX9_film_34 : decode cX9_film 34 = .ok (.if_icmp .ge 28, 3) := by decide +kernel
theorem dX9_film_37 : decode cX9_film 37 = .ok (.aload_n 0, 1) := by decide +kernel
theorem dX9_film_38 : decode cX9_film 38 = .ok (.getfield 32, 3) := by decide +kernel
theorem dX9_film_41 : decode cX9_film 41 = .ok (.iload_n 1, 1) := by decide +kernel
theorem dX9_film_42 : decode cX9_film 42 = .ok (.aaload, 1) := by decide +kernel
theorem dX9_film_43 : decode cX9_film 43 = .ok (.iload_n 3, 1) := by decide +kernel
theorem dX9_film_44 : decode cX9_film 44 = .ok (.aload_n 0, 1) := by decide +kernel
theorem dX9_film_45 : decode cX9_film 45 = .ok (.iload_n 3, 1) := by decide +kernel
theorem dX9_film_46 : decode cX9_film 46 = .ok (.iload_n 2, 1) := by decide +kernel
theorem dX9_film_47 : decode cX9_film 47 = .ok (.invokestatic 121, 3) := by decide +kernel
theorem dX9_film_50 : decode cX9_film 50 = .ok (.invokevirtual 124, 3) := by decide +kernel
theorem dX9_film_53 : decode cX9_film 53 = .ok (.invokevirtual 272, 3) := by decide +kernel
theorem dX9_film_56 : decode cX9_film 56 = .ok (.iinc 3 1, 3) := by decide +kernel
theorem dX9_film_59 : decode cX9_film 59 = .ok (.goto (-28), 3) := by decide +kernel
theorem dX9_film_62 : decode cX9_film 62 = .ok (.bipush 16, 2) := by decide +kernel
theorem dX9_film_64 : decode cX9_film 64 = .ok (.ireturn, 1) := by decide +kernel
theorem dX9_image_0 : decode cX9_image 0 = .ok (.aload_n 0, 1) := by decide +kernel
theorem dX9_image_1 : decode cX9_image 1 = .ok (.getfield 16, 3) := by decide +kernel
theorem dX9_image_4 : decode cX9_image 4 = .ok (.aload_n 0, 1) := by decide +kernel
theorem dX9_image_5 : decode cX9_image 5 = .ok (.getfield 10, 3) := by decide +kernel
theorem dX9_image_8 : decode cX9_image 8 = .ok (.invokevirtual 275, 3) := by decide +kernel
theorem dX9_image_11 : decode cX9_image 11 = .ok (.aload_n 0, 1) := by decide +kernel
theorem dX9_image_12 : decode cX9_image 12 = .ok (.iconst 1, 1) := by decide +kernel
theorem dX9_image_13 : decode cX9_image 13 = .ok (.putfield 19, 3) := by decide +kernel
theorem dX9_image_16 : decode cX9_image 16 = .ok (.aload_n 0, 1) := by decide +kernel
theorem dX9_image_17 : decode cX9_image 17 = .ok (.getfield 16, 3) := by decide +kernel
theorem dX9_image_20 : decode cX9_image 20 = .ok (.getfield 59, 3) := by decide +kernel
theorem dX9_image_23 : decode cX9_image 23 = .ok (.ireturn, 1) := by decide +kernel
theorem dX9_back_0 : decode cX9_back 0 = .ok (.aload_n 0, 1) := by decide +kernel
theorem dX9_back_1 : decode cX9_back 1 = .ok (.getfield 19, 3) := by decide +kernel
theorem dX9_back_4 : decode cX9_back 4 = .ok (.ifCond .ne 6, 3) := by decide +kernel
theorem dX9_back_7 : decode cX9_back 7 = .ok (.bipush (-3), 2) := by decide +kernel
theorem dX9_back_9 : decode cX9_back 9 = .ok (.ireturn, 1) := by decide +kernel
theorem dX9_back_10 : decode cX9_back 10 = .ok (.aload_n 0, 1) := by decide +kernel
theorem dX9_back_11 : decode cX9_back 11 = .ok (.getfield 10, 3) := by decide +kernel
theorem dX9_back_14 : decode cX9_back 14 = .ok (.aload_n 0, 1) := by decide +kernel
theorem dX9_back_15 : decode cX9_back 15 = .ok (.getfield 16, 3) := by decide +kernel
theorem dX9_back_18 : decode cX9_back 18 = .ok (.invokevirtual 275, 3) := by decide +kernel
theorem dX9_back_21 : decode cX9_back 21 = .ok (.aload_n 0, 1) := by decide +kernel
theorem dX9_back_22 : decode cX9_back 22 = .ok (.getfield 10, 3) := by decide +kernel
theorem dX9_back_25 : decode cX9_back 25 = .ok (.getfield 59, 3) := by decide +kernel
theorem dX9_back_28 : decode cX9_back 28 = .ok (.ireturn, 1) := by decide +kernel
theorem dX9_count_0 : decode cX9_count 0 = .ok (.iload_n 1, 1) := by decide +kernel
theorem dX9_count_1 : decode cX9_count 1 = .ok (.tableswitch 129 0 7 #[47, 55, 66, 77, 88, 99, 110, 121], 47) := by decide +kernel
theorem dX9_count_48 : decode cX9_count 48 = .ok (.aload_n 0, 1) := by decide +kernel
theorem dX9_count_49 : decode cX9_count 49 = .ok (.getfield 10, 3) := by decide +kernel
theorem dX9_count_52 : decode cX9_count 52 = .ok (.getfield 59, 3) := by decide +kernel
theorem dX9_count_55 : decode cX9_count 55 = .ok (.ireturn, 1) := by decide +kernel
theorem dX9_count_56 : decode cX9_count 56 = .ok (.aload_n 0, 1) := by decide +kernel
theorem dX9_count_57 : decode cX9_count 57 = .ok (.getfield 10, 3) := by decide +kernel
theorem dX9_count_60 : decode cX9_count 60 = .ok (.getfield 183, 3) := by decide +kernel
theorem dX9_count_63 : decode cX9_count 63 = .ok (.getfield 278, 3) := by decide +kernel
theorem dX9_count_66 : decode cX9_count 66 = .ok (.ireturn, 1) := by decide +kernel
theorem dX9_count_67 : decode cX9_count 67 = .ok (.aload_n 0, 1) := by decide +kernel
theorem dX9_count_68 : decode cX9_count 68 = .ok (.getfield 10, 3) := by decide +kernel
theorem dX9_count_71 : decode cX9_count 71 = .ok (.getfield 183, 3) := by decide +kernel
theorem dX9_count_74 : decode cX9_count 74 = .ok (.getfield 281, 3) := by decide +kernel
theorem dX9_count_77 : decode cX9_count 77 = .ok (.ireturn, 1) := by decide +kernel
theorem dX9_count_78 : decode cX9_count 78 = .ok (.aload_n 0, 1) := by decide +kernel
theorem dX9_count_79 : decode cX9_count 79 = .ok (.getfield 10, 3) := by decide +kernel
theorem dX9_count_82 : decode cX9_count 82 = .ok (.getfield 183, 3) := by decide +kernel
theorem dX9_count_85 : decode cX9_count 85 = .ok (.invokevirtual 284, 3) := by decide +kernel
theorem dX9_count_88 : decode cX9_count 88 = .ok (.ireturn, 1) := by decide +kernel
theorem dX9_count_89 : decode cX9_count 89 = .ok (.aload_n 0, 1) := by decide +kernel
theorem dX9_count_90 : decode cX9_count 90 = .ok (.getfield 10, 3) := by decide +kernel
theorem dX9_count_93 : decode cX9_count 93 = .ok (.getfield 196, 3) := by decide +kernel
theorem dX9_count_96 : decode cX9_count 96 = .ok (.getfield 206, 3) := by decide +kernel
theorem dX9_count_99 : decode cX9_count 99 = .ok (.ireturn, 1) := by decide +kernel
theorem dX9_count_100 : decode cX9_count 100 = .ok (.aload_n 0, 1) := by decide +kernel
theorem dX9_count_101 : decode cX9_count 101 = .ok (.getfield 10, 3) := by decide +kernel
theorem dX9_count_104 : decode cX9_count 104 = .ok (.getfield 133, 3) := by decide +kernel
theorem dX9_count_107 : decode cX9_count 107 = .ok (.getfield 287, 3) := by decide +kernel
theorem dX9_count_110 : decode cX9_count 110 = .ok (.ireturn, 1) := by decide +kernel
theorem dX9_count_111 : decode cX9_count 111 = .ok (.aload_n 0, 1) := by decide +kernel
theorem dX9_count_112 : decode cX9_count 112 = .ok (.getfield 10, 3) := by decide +kernel
theorem dX9_count_115 : decode cX9_count 115 = .ok (.getfield 133, 3) := by decide +kernel
theorem dX9_count_118 : decode cX9_count 118 = .ok (.getfield 290, 3) := by decide +kernel
theorem dX9_count_121 : decode cX9_count 121 = .ok (.ireturn, 1) := by decide +kernel
theorem dX9_count_122 : decode cX9_count 122 = .ok (.aload_n 0, 1) := by decide +kernel
theorem dX9_count_123 : decode cX9_count 123 = .ok (.getfield 26, 3) := by decide +kernel
theorem dX9_count_126 : decode cX9_count 126 = .ok (.getfield 152, 3) := by decide +kernel
theorem dX9_count_129 : decode cX9_count 129 = .ok (.ireturn, 1) := by decide +kernel
theorem dX9_count_130 : decode cX9_count 130 = .ok (.bipush (-2), 2) := by decide +kernel
theorem dX9_count_132 : decode cX9_count 132 = .ok (.ireturn, 1) := by decide +kernel
theorem dX9_sheet_0 : decode cX9_sheet 0 = .ok (.iload_n 1, 1) := by decide +kernel
theorem dX9_sheet_1 : decode cX9_sheet 1 = .ok (.invokestatic 247, 3) := by decide +kernel
theorem dX9_sheet_4 : decode cX9_sheet 4 = .ok (.ifCond .eq 12, 3) := by decide +kernel
theorem dX9_sheet_7 : decode cX9_sheet 7 = .ok (.iload_n 2, 1) := by decide +kernel
theorem dX9_sheet_8 : decode cX9_sheet 8 = .ok (.iconst (-1), 1) := by decide +kernel
theorem dX9_sheet_9 : decode cX9_sheet 9 = .ok (.iconst 1, 1) := by decide +kernel
theorem dX9_sheet_10 : decode cX9_sheet 10 = .ok (.invokestatic 104, 3) := by decide +kernel
theorem dX9_sheet_13 : decode cX9_sheet 13 = .ok (.ifCond .ne 6, 3) := by decide +kernel
theorem dX9_sheet_16 : decode cX9_sheet 16 = .ok (.bipush (-2), 2) := by decide +kernel
theorem dX9_sheet_18 : decode cX9_sheet 18 = .ok (.ireturn, 1) := by decide +kernel
theorem dX9_sheet_19 : decode cX9_sheet 19 = .ok (.iload_n 2, 1) := by decide +kernel
theorem dX9_sheet_20 : decode cX9_sheet 20 = .ok (.iconst (-1), 1) := by decide +kernel
theorem dX9_sheet_21 : decode cX9_sheet 21 = .ok (.if_icmp .ne 16, 3) := by decide +kernel
theorem dX9_sheet_24 : decode cX9_sheet 24 = .ok (.aload_n 0, 1) := by decide +kernel
theorem dX9_sheet_25 : decode cX9_sheet 25 = .ok (.getfield 32, 3) := by decide +kernel
theorem dX9_sheet_28 : decode cX9_sheet 28 = .ok (.iload_n 1, 1) := by decide +kernel
theorem dX9_sheet_29 : decode cX9_sheet 29 = .ok (.aaload, 1) := by decide +kernel
theorem dX9_sheet_30 : decode cX9_sheet 30 = .ok (.iconst (-1), 1) := by decide +kernel
theorem dX9_sheet_31 : decode cX9_sheet 31 = .ok (.iconst 0, 1) := by decide +kernel
theorem dX9_sheet_32 : decode cX9_sheet 32 = .ok (.invokevirtual 270, 3) := by decide +kernel
theorem dX9_sheet_35 : decode cX9_sheet 35 = .ok (.iconst 1, 1) := by decide +kernel
theorem dX9_sheet_36 : decode cX9_sheet 36 = .ok (.ireturn, 1) := by decide +kernel
theorem dX9_sheet_37 : decode cX9_sheet 37 = .ok (.iload_n 3, 1) := by decide +kernel
theorem dX9_sheet_38 : decode cX9_sheet 38 = .ok (.bipush 40, 2) := by decide +kernel
theorem dX9_sheet_40 : decode cX9_sheet 40 = .ok (.if_icmp .le 6, 3) := by decide +kernel
theorem dX9_sheet_43 : decode cX9_sheet 43 = .ok (.bipush (-2), 2) := by decide +kernel
theorem dX9_sheet_45 : decode cX9_sheet 45 = .ok (.ireturn, 1) := by decide +kernel
theorem dX9_sheet_46 : decode cX9_sheet 46 = .ok (.iload_n 3, 1) := by decide +kernel
theorem dX9_sheet_47 : decode cX9_sheet 47 = .ok (.ifCond .ge 6, 3) := by decide +kernel
theorem dX9_sheet_50 : decode cX9_sheet 50 = .ok (.bipush (-14), 2) := by decide +kernel
theorem dX9_sheet_52 : decode cX9_sheet 52 = .ok (.ireturn, 1) := by decide +kernel
theorem dX9_sheet_53 : decode cX9_sheet 53 = .ok (.aload_n 0, 1) := by decide +kernel
theorem dX9_sheet_54 : decode cX9_sheet 54 = .ok (.getfield 32, 3) := by decide +kernel
theorem dX9_sheet_57 : decode cX9_sheet 57 = .ok (.iload_n 1, 1) := by decide +kernel
theorem dX9_sheet_58 : decode cX9_sheet 58 = .ok (.aaload, 1) := by decide +kernel
theorem dX9_sheet_59 : decode cX9_sheet 59 = .ok (.iload_n 2, 1) := by decide +kernel
theorem dX9_sheet_60 : decode cX9_sheet 60 = .ok (.iload_n 3, 1) := by decide +kernel
theorem dX9_sheet_61 : decode cX9_sheet 61 = .ok (.invokevirtual 270, 3) := by decide +kernel
theorem dX9_sheet_64 : decode cX9_sheet 64 = .ok (.iconst 1, 1) := by decide +kernel
theorem dX9_sheet_65 : decode cX9_sheet 65 = .ok (.ireturn, 1) := by decide +kernel
theorem dX9_put_0 : decode cX9_put 0 = .ok (.iload_n 1, 1) := by decide +kernel
theorem dX9_put_1 : decode cX9_put 1 = .ok (.invokestatic 247, 3) := by decide +kernel
theorem dX9_put_4 : decode cX9_put 4 = .ok (.ifCond .ne 6, 3) := by decide +kernel
theorem dX9_put_7 : decode cX9_put 7 = .ok (.bipush (-2), 2) := by decide +kernel
theorem dX9_put_9 : decode cX9_put 9 = .ok (.ireturn, 1) := by decide +kernel
theorem dX9_put_10 : decode cX9_put 10 = .ok (.aload_n 0, 1) := by decide +kernel
theorem dX9_put_11 : decode cX9_put 11 = .ok (.getfield 32, 3) := by decide +kernel
theorem dX9_put_14 : decode cX9_put 14 = .ok (.iload_n 1, 1) := by decide +kernel
theorem dX9_put_15 : decode cX9_put 15 = .ok (.aaload, 1) := by decide +kernel
theorem dX9_put_16 : decode cX9_put 16 = .ok (.astore 4, 2) := by decide +kernel
theorem dX9_put_18 : decode cX9_put 18 = .ok (.aload 4, 2) := by decide +kernel
theorem dX9_put_20 : decode cX9_put 20 = .ok (.invokevirtual 250, 3) := by decide +kernel
theorem dX9_put_23 : decode cX9_put 23 = .ok (.ifCond .eq 6, 3) := by decide +kernel
theorem dX9_put_26 : decode cX9_put 26 = .ok (.bipush (-11), 2) := by decide +kernel
theorem dX9_put_28 : decode cX9_put 28 = .ok (.ireturn, 1) := by decide +kernel
theorem dX9_put_29 : decode cX9_put 29 = .ok (.iload_n 2, 1) := by decide +kernel
theorem dX9_put_30 : decode cX9_put 30 = .ok (.ifCond .lt 12, 3) := by decide +kernel
theorem dX9_put_33 : decode cX9_put 33 = .ok (.iload_n 2, 1) := by decide +kernel
theorem dX9_put_34 : decode cX9_put 34 = .ok (.aload 4, 2) := by decide +kernel
theorem dX9_put_36 : decode cX9_put 36 = .ok (.getfield 254, 3) := by decide +kernel
theorem dX9_put_39 : decode cX9_put 39 = .ok (.if_icmp .lt 6, 3) := by decide +kernel
theorem dX9_put_42 : decode cX9_put 42 = .ok (.bipush (-12), 2) := by decide +kernel
theorem dX9_put_44 : decode cX9_put 44 = .ok (.ireturn, 1) := by decide +kernel
theorem dX9_put_45 : decode cX9_put 45 = .ok (.aload 4, 2) := by decide +kernel
theorem dX9_put_47 : decode cX9_put 47 = .ok (.iload_n 2, 1) := by decide +kernel
theorem dX9_put_48 : decode cX9_put 48 = .ok (.iload_n 3, 1) := by decide +kernel
theorem dX9_put_49 : decode cX9_put 49 = .ok (.invokevirtual 272, 3) := by decide +kernel
theorem dX9_put_52 : decode cX9_put 52 = .ok (.iconst 1, 1) := by decide +kernel
theorem dX9_put_53 : decode cX9_put 53 = .ok (.ireturn, 1) := by decide +kernel
theorem dX9_copy_0 : decode cX9_copy 0 = .ok (.iload_n 1, 1) := by decide +kernel
theorem dX9_copy_1 : decode cX9_copy 1 = .ok (.invokestatic 247, 3) := by decide +kernel
theorem dX9_copy_4 : decode cX9_copy 4 = .ok (.ifCond .eq 10, 3) := by decide +kernel
theorem dX9_copy_7 : decode cX9_copy 7 = .ok (.iload_n 3, 1) := by decide +kernel
theorem dX9_copy_8 : decode cX9_copy 8 = .ok (.invokestatic 247, 3) := by decide +kernel
theorem dX9_copy_11 : decode cX9_copy 11 = .ok (.ifCond .ne 6, 3) := by decide +kernel
theorem dX9_copy_14 : decode cX9_copy 14 = .ok (.bipush (-2), 2) := by decide +kernel
theorem dX9_copy_16 : decode cX9_copy 16 = .ok (.ireturn, 1) := by decide +kernel
theorem dX9_copy_17 : decode cX9_copy 17 = .ok (.aload_n 0, 1) := by decide +kernel
theorem dX9_copy_18 : decode cX9_copy 18 = .ok (.getfield 32, 3) := by decide +kernel
theorem dX9_copy_21 : decode cX9_copy 21 = .ok (.iload_n 1, 1) := by decide +kernel
theorem dX9_copy_22 : decode cX9_copy 22 = .ok (.aaload, 1) := by decide +kernel
theorem dX9_copy_23 : decode cX9_copy 23 = .ok (.astore 6, 2) := by decide +kernel
theorem dX9_copy_25 : decode cX9_copy 25 = .ok (.aload_n 0, 1) := by decide +kernel
theorem dX9_copy_26 : decode cX9_copy 26 = .ok (.getfield 32, 3) := by decide +kernel
theorem dX9_copy_29 : decode cX9_copy 29 = .ok (.iload_n 3, 1) := by decide +kernel
theorem dX9_copy_30 : decode cX9_copy 30 = .ok (.aaload, 1) := by decide +kernel
theorem dX9_copy_31 : decode cX9_copy 31 = .ok (.astore 7, 2) := by decide +kernel
theorem dX9_copy_33 : decode cX9_copy 33 = .ok (.aload 6, 2) := by decide +kernel
theorem dX9_copy_35 : decode cX9_copy 35 = .ok (.invokevirtual 250, 3) := by decide +kernel
theorem dX9_copy_38 : decode cX9_copy 38 = .ok (.ifCond .ne 11, 3) := by decide +kernel
theorem dX9_copy_41 : decode cX9_copy 41 = .ok (.aload 7, 2) := by decide +kernel
theorem dX9_copy_43 : decode cX9_copy 43 = .ok (.invokevirtual 250, 3) := by decide +kernel
theorem dX9_copy_46 : decode cX9_copy 46 = .ok (.ifCond .eq 6, 3) := by decide +kernel
theorem dX9_copy_49 : decode cX9_copy 49 = .ok (.bipush (-11), 2) := by decide +kernel
theorem dX9_copy_51 : decode cX9_copy 51 = .ok (.ireturn, 1) := by decide +kernel
theorem dX9_copy_52 : decode cX9_copy 52 = .ok (.aload 6, 2) := by decide +kernel
theorem dX9_copy_54 : decode cX9_copy 54 = .ok (.getfield 293, 3) := by decide +kernel
theorem dX9_copy_57 : decode cX9_copy 57 = .ok (.aload 7, 2) := by decide +kernel
theorem dX9_copy_59 : decode cX9_copy 59 = .ok (.getfield 293, 3) := by decide +kernel
theorem dX9_copy_62 : decode cX9_copy 62 = .ok (.if_icmp .eq 6, 3) := by decide +kernel
theorem dX9_copy_65 : decode cX9_copy 65 = .ok (.bipush (-13), 2) := by decide +kernel
theorem dX9_copy_67 : decode cX9_copy 67 = .ok (.ireturn, 1) := by decide +kernel
theorem dX9_copy_68 : decode cX9_copy 68 = .ok (.aload 6, 2) := by decide +kernel
theorem dX9_copy_70 : decode cX9_copy 70 = .ok (.iload_n 2, 1) := by decide +kernel
theorem dX9_copy_71 : decode cX9_copy 71 = .ok (.iload 5, 2) := by decide +kernel
theorem dX9_copy_73 : decode cX9_copy 73 = .ok (.invokevirtual 296, 3) := by decide +kernel
theorem dX9_copy_76 : decode cX9_copy 76 = .ok (.ifCond .eq 15, 3) := by decide +kernel
theorem dX9_copy_79 : decode cX9_copy 79 = .ok (.aload 7, 2) := by decide +kernel
theorem dX9_copy_81 : decode cX9_copy 81 = .ok (.iload 4, 2) := by decide +kernel
theorem dX9_copy_83 : decode cX9_copy 83 = .ok (.iload 5, 2) := by decide +kernel
theorem dX9_copy_85 : decode cX9_copy 85 = .ok (.invokevirtual 296, 3) := by decide +kernel
theorem dX9_copy_88 : decode cX9_copy 88 = .ok (.ifCond .ne 6, 3) := by decide +kernel
theorem dX9_copy_91 : decode cX9_copy 91 = .ok (.bipush (-12), 2) := by decide +kernel
theorem dX9_copy_93 : decode cX9_copy 93 = .ok (.ireturn, 1) := by decide +kernel
theorem dX9_copy_94 : decode cX9_copy 94 = .ok (.aload 6, 2) := by decide +kernel
theorem dX9_copy_96 : decode cX9_copy 96 = .ok (.getfield 299, 3) := by decide +kernel
theorem dX9_copy_99 : decode cX9_copy 99 = .ok (.iload_n 2, 1) := by decide +kernel
theorem dX9_copy_100 : decode cX9_copy 100 = .ok (.aload 7, 2) := by decide +kernel
theorem dX9_copy_102 : decode cX9_copy 102 = .ok (.getfield 299, 3) := by decide +kernel
theorem dX9_copy_105 : decode cX9_copy 105 = .ok (.iload 4, 2) := by decide +kernel
theorem dX9_copy_107 : decode cX9_copy 107 = .ok (.iload 5, 2) := by decide +kernel
theorem dX9_copy_109 : decode cX9_copy 109 = .ok (.invokestatic 302, 3) := by decide +kernel
theorem dX9_copy_112 : decode cX9_copy 112 = .ok (.iload 5, 2) := by decide +kernel
theorem dX9_copy_114 : decode cX9_copy 114 = .ok (.ireturn, 1) := by decide +kernel
theorem dX9_isWithin_0 : decode cX9_isWithin 0 = .ok (.iload_n 0, 1) := by decide +kernel
theorem dX9_isWithin_1 : decode cX9_isWithin 1 = .ok (.iload_n 1, 1) := by decide +kernel
theorem dX9_isWithin_2 : decode cX9_isWithin 2 = .ok (.if_icmp .lt 12, 3) := by decide +kernel
theorem dX9_isWithin_5 : decode cX9_isWithin 5 = .ok (.iload_n 0, 1) := by decide +kernel
theorem dX9_isWithin_6 : decode cX9_isWithin 6 = .ok (.iload_n 2, 1) := by decide +kernel
theorem dX9_isWithin_7 : decode cX9_isWithin 7 = .ok (.if_icmp .gt 7, 3) := by decide +kernel
theorem dX9_isWithin_10 : decode cX9_isWithin 10 = .ok (.iconst 1, 1) := by decide +kernel
theorem dX9_isWithin_11 : decode cX9_isWithin 11 = .ok (.goto 4, 3) := by decide +kernel
theorem dX9_isWithin_14 : decode cX9_isWithin 14 = .ok (.iconst 0, 1) := by decide +kernel
theorem dX9_isWithin_15 : decode cX9_isWithin 15 = .ok (.ireturn, 1) := by decide +kernel
theorem dX9_isByte_0 : decode cX9_isByte 0 = .ok (.iload_n 0, 1) := by decide +kernel
theorem dX9_isByte_1 : decode cX9_isByte 1 = .ok (.iconst 0, 1) := by decide +kernel
theorem dX9_isByte_2 : decode cX9_isByte 2 = .ok (.sipush 255, 3) := by decide +kernel
theorem dX9_isByte_5 : decode cX9_isByte 5 = .ok (.invokestatic 104, 3) := by decide +kernel
theorem dX9_isByte_8 : decode cX9_isByte 8 = .ok (.ireturn, 1) := by decide +kernel
theorem dX9_isRow_0 : decode cX9_isRow 0 = .ok (.iload_n 0, 1) := by decide +kernel
theorem dX9_isRow_1 : decode cX9_isRow 1 = .ok (.iconst 0, 1) := by decide +kernel
theorem dX9_isRow_2 : decode cX9_isRow 2 = .ok (.bipush 11, 2) := by decide +kernel
theorem dX9_isRow_4 : decode cX9_isRow 4 = .ok (.invokestatic 104, 3) := by decide +kernel
theorem dX9_isRow_7 : decode cX9_isRow 7 = .ok (.ireturn, 1) := by decide +kernel
theorem dX9_isDot_0 : decode cX9_isDot 0 = .ok (.iload_n 0, 1) := by decide +kernel
theorem dX9_isDot_1 : decode cX9_isDot 1 = .ok (.iconst 0, 1) := by decide +kernel
theorem dX9_isDot_2 : decode cX9_isDot 2 = .ok (.bipush 15, 2) := by decide +kernel
theorem dX9_isDot_4 : decode cX9_isDot 4 = .ok (.invokestatic 104, 3) := by decide +kernel
theorem dX9_isDot_7 : decode cX9_isDot 7 = .ok (.ifCond .eq 14, 3) := by decide +kernel
theorem dX9_isDot_10 : decode cX9_isDot 10 = .ok (.iload_n 1, 1) := by decide +kernel
theorem dX9_isDot_11 : decode cX9_isDot 11 = .ok (.invokestatic 217, 3) := by decide +kernel
theorem dX9_isDot_14 : decode cX9_isDot 14 = .ok (.ifCond .eq 7, 3) := by decide +kernel
theorem dX9_isDot_17 : decode cX9_isDot 17 = .ok (.iconst 1, 1) := by decide +kernel
theorem dX9_isDot_18 : decode cX9_isDot 18 = .ok (.goto 4, 3) := by decide +kernel
theorem dX9_isDot_21 : decode cX9_isDot 21 = .ok (.iconst 0, 1) := by decide +kernel
theorem dX9_isDot_22 : decode cX9_isDot 22 = .ok (.ireturn, 1) := by decide +kernel
theorem dX9_isSheet_0 : decode cX9_isSheet 0 = .ok (.iload_n 0, 1) := by decide +kernel
theorem dX9_isSheet_1 : decode cX9_isSheet 1 = .ok (.iconst 0, 1) := by decide +kernel
theorem dX9_isSheet_2 : decode cX9_isSheet 2 = .ok (.iconst 3, 1) := by decide +kernel
theorem dX9_isSheet_3 : decode cX9_isSheet 3 = .ok (.invokestatic 104, 3) := by decide +kernel
theorem dX9_isSheet_6 : decode cX9_isSheet 6 = .ok (.ireturn, 1) := by decide +kernel
theorem dX9_isDress_0 : decode cX9_isDress 0 = .ok (.iload_n 0, 1) := by decide +kernel
theorem dX9_isDress_1 : decode cX9_isDress 1 = .ok (.iconst 0, 1) := by decide +kernel
theorem dX9_isDress_2 : decode cX9_isDress 2 = .ok (.iconst 5, 1) := by decide +kernel
theorem dX9_isDress_3 : decode cX9_isDress 3 = .ok (.invokestatic 104, 3) := by decide +kernel
theorem dX9_isDress_6 : decode cX9_isDress 6 = .ok (.ifCond .eq 24, 3) := by decide +kernel
theorem dX9_isDress_9 : decode cX9_isDress 9 = .ok (.iload_n 1, 1) := by decide +kernel
theorem dX9_isDress_10 : decode cX9_isDress 10 = .ok (.iconst 0, 1) := by decide +kernel
theorem dX9_isDress_11 : decode cX9_isDress 11 = .ok (.bipush 99, 2) := by decide +kernel
theorem dX9_isDress_13 : decode cX9_isDress 13 = .ok (.invokestatic 104, 3) := by decide +kernel
theorem dX9_isDress_16 : decode cX9_isDress 16 = .ok (.ifCond .eq 14, 3) := by decide +kernel
theorem dX9_isDress_19 : decode cX9_isDress 19 = .ok (.iload_n 2, 1) := by decide +kernel
theorem dX9_isDress_20 : decode cX9_isDress 20 = .ok (.invokestatic 107, 3) := by decide +kernel
theorem dX9_isDress_23 : decode cX9_isDress 23 = .ok (.ifCond .eq 7, 3) := by decide +kernel
theorem dX9_isDress_26 : decode cX9_isDress 26 = .ok (.iconst 1, 1) := by decide +kernel
theorem dX9_isDress_27 : decode cX9_isDress 27 = .ok (.goto 4, 3) := by decide +kernel
theorem dX9_isDress_30 : decode cX9_isDress 30 = .ok (.iconst 0, 1) := by decide +kernel
theorem dX9_isDress_31 : decode cX9_isDress 31 = .ok (.ireturn, 1) := by decide +kernel
theorem dX9_isUnder_0 : decode cX9_isUnder 0 = .ok (.iload_n 0, 1) := by decide +kernel
theorem dX9_isUnder_1 : decode cX9_isUnder 1 = .ok (.istore_n 2, 1) := by decide +kernel
theorem dX9_isUnder_2 : decode cX9_isUnder 2 = .ok (.iconst 0, 1) := by decide +kernel
theorem dX9_isUnder_3 : decode cX9_isUnder 3 = .ok (.istore_n 3, 1) := by decide +kernel
theorem dX9_isUnder_4 : decode cX9_isUnder 4 = .ok (.iload_n 3, 1) := by decide +kernel
theorem dX9_isUnder_5 : decode cX9_isUnder 5 = .ok (.bipush 6, 2) := by decide +kernel
theorem dX9_isUnder_7 : decode cX9_isUnder 7 = .ok (.if_icmp .ge 31, 3) := by decide +kernel
theorem dX9_isUnder_10 : decode cX9_isUnder 10 = .ok (.iload_n 2, 1) := by decide +kernel
theorem dX9_isUnder_11 : decode cX9_isUnder 11 = .ok (.iconst 0, 1) := by decide +kernel
theorem dX9_isUnder_12 : decode cX9_isUnder 12 = .ok (.iconst 5, 1) := by decide +kernel
theorem dX9_isUnder_13 : decode cX9_isUnder 13 = .ok (.invokestatic 104, 3) := by decide +kernel
theorem dX9_isUnder_16 : decode cX9_isUnder 16 = .ok (.ifCond .eq 22, 3) := by decide +kernel
theorem dX9_isUnder_19 : decode cX9_isUnder 19 = .ok (.iload_n 2, 1) := by decide +kernel
theorem dX9_isUnder_20 : decode cX9_isUnder 20 = .ok (.iload_n 1, 1) := by decide +kernel
theorem dX9_isUnder_21 : decode cX9_isUnder 21 = .ok (.if_icmp .ne 5, 3) := by decide +kernel
theorem dX9_isUnder_24 : decode cX9_isUnder 24 = .ok (.iconst 1, 1) := by decide +kernel
theorem dX9_isUnder_25 : decode cX9_isUnder 25 = .ok (.ireturn, 1) := by decide +kernel
theorem dX9_isUnder_26 : decode cX9_isUnder 26 = .ok (.getstatic 308, 3) := by decide +kernel
theorem dX9_isUnder_29 : decode cX9_isUnder 29 = .ok (.iload_n 2, 1) := by decide +kernel
theorem dX9_isUnder_30 : decode cX9_isUnder 30 = .ok (.iaload, 1) := by decide +kernel
theorem dX9_isUnder_31 : decode cX9_isUnder 31 = .ok (.istore_n 2, 1) := by decide +kernel
theorem dX9_isUnder_32 : decode cX9_isUnder 32 = .ok (.iinc 3 1, 3) := by decide +kernel
theorem dX9_isUnder_35 : decode cX9_isUnder 35 = .ok (.goto (-31), 3) := by decide +kernel
theorem dX9_isUnder_38 : decode cX9_isUnder 38 = .ok (.iconst 0, 1) := by decide +kernel
theorem dX9_isUnder_39 : decode cX9_isUnder 39 = .ok (.ireturn, 1) := by decide +kernel
theorem dX9_dotAt_0 : decode cX9_dotAt 0 = .ok (.iload_n 1, 1) := by decide +kernel
theorem dX9_dotAt_1 : decode cX9_dotAt 1 = .ok (.bipush 16, 2) := by decide +kernel
theorem dX9_dotAt_3 : decode cX9_dotAt 3 = .ok (.imul, 1) := by decide +kernel
theorem dX9_dotAt_4 : decode cX9_dotAt 4 = .ok (.iload_n 0, 1) := by decide +kernel
theorem dX9_dotAt_5 : decode cX9_dotAt 5 = .ok (.iadd, 1) := by decide +kernel
theorem dX9_dotAt_6 : decode cX9_dotAt 6 = .ok (.ireturn, 1) := by decide +kernel
theorem dX9_inLowestTerms_0 : decode cX9_inLowestTerms 0 = .ok (.bipush 10, 2) := by decide +kernel
theorem dX9_inLowestTerms_2 : decode cX9_inLowestTerms 2 = .ok (.istore_n 2, 1) := by decide +kernel
theorem dX9_inLowestTerms_3 : decode cX9_inLowestTerms 3 = .ok (.iload_n 2, 1) := by decide +kernel
theorem dX9_inLowestTerms_4 : decode cX9_inLowestTerms 4 = .ok (.iconst 1, 1) := by decide +kernel
theorem dX9_inLowestTerms_5 : decode cX9_inLowestTerms 5 = .ok (.if_icmp .le 25, 3) := by decide +kernel
theorem dX9_inLowestTerms_8 : decode cX9_inLowestTerms 8 = .ok (.iload_n 0, 1) := by decide +kernel
theorem dX9_inLowestTerms_9 : decode cX9_inLowestTerms 9 = .ok (.iload_n 2, 1) := by decide +kernel
theorem dX9_inLowestTerms_10 : decode cX9_inLowestTerms 10 = .ok (.irem, 1) := by decide +kernel
theorem dX9_inLowestTerms_11 : decode cX9_inLowestTerms 11 = .ok (.ifCond .ne 13, 3) := by decide +kernel
theorem dX9_inLowestTerms_14 : decode cX9_inLowestTerms 14 = .ok (.iload_n 1, 1) := by decide +kernel
theorem dX9_inLowestTerms_15 : decode cX9_inLowestTerms 15 = .ok (.iload_n 2, 1) := by decide +kernel
theorem dX9_inLowestTerms_16 : decode cX9_inLowestTerms 16 = .ok (.irem, 1) := by decide +kernel
theorem dX9_inLowestTerms_17 : decode cX9_inLowestTerms 17 = .ok (.ifCond .ne 7, 3) := by decide +kernel
theorem dX9_inLowestTerms_20 : decode cX9_inLowestTerms 20 = .ok (.iload_n 0, 1) := by decide +kernel
theorem dX9_inLowestTerms_21 : decode cX9_inLowestTerms 21 = .ok (.iload_n 2, 1) := by decide +kernel
theorem dX9_inLowestTerms_22 : decode cX9_inLowestTerms 22 = .ok (.idiv, 1) := by decide +kernel
theorem dX9_inLowestTerms_23 : decode cX9_inLowestTerms 23 = .ok (.ireturn, 1) := by decide +kernel
theorem dX9_inLowestTerms_24 : decode cX9_inLowestTerms 24 = .ok (.iinc 2 (-1), 3) := by decide +kernel
theorem dX9_inLowestTerms_27 : decode cX9_inLowestTerms 27 = .ok (.goto (-24), 3) := by decide +kernel
theorem dX9_inLowestTerms_30 : decode cX9_inLowestTerms 30 = .ok (.iload_n 0, 1) := by decide +kernel
theorem dX9_inLowestTerms_31 : decode cX9_inLowestTerms 31 = .ok (.ireturn, 1) := by decide +kernel
theorem dX9_dressPaper_0 : decode cX9_dressPaper 0 = .ok (.iload_n 1, 1) := by decide +kernel
theorem dX9_dressPaper_1 : decode cX9_dressPaper 1 = .ok (.invokestatic 107, 3) := by decide +kernel
theorem dX9_dressPaper_4 : decode cX9_dressPaper 4 = .ok (.ifCond .ne 6, 3) := by decide +kernel
theorem dX9_dressPaper_7 : decode cX9_dressPaper 7 = .ok (.bipush (-2), 2) := by decide +kernel
theorem dX9_dressPaper_9 : decode cX9_dressPaper 9 = .ok (.ireturn, 1) := by decide +kernel
theorem dX9_dressPaper_10 : decode cX9_dressPaper 10 = .ok (.aload_n 0, 1) := by decide +kernel
theorem dX9_dressPaper_11 : decode cX9_dressPaper 11 = .ok (.getfield 10, 3) := by decide +kernel
theorem dX9_dressPaper_14 : decode cX9_dressPaper 14 = .ok (.getfield 255, 3) := by decide +kernel
theorem dX9_dressPaper_17 : decode cX9_dressPaper 17 = .ok (.istore_n 2, 1) := by decide +kernel
theorem dX9_dressPaper_18 : decode cX9_dressPaper 18 = .ok (.aload_n 0, 1) := by decide +kernel
theorem dX9_dressPaper_19 : decode cX9_dressPaper 19 = .ok (.getfield 10, 3) := by decide +kernel
theorem dX9_dressPaper_22 : decode cX9_dressPaper 22 = .ok (.iload_n 1, 1) := by decide +kernel
theorem dX9_dressPaper_23 : decode cX9_dressPaper 23 = .ok (.putfield 255, 3) := by decide +kernel
theorem dX9_dressPaper_26 : decode cX9_dressPaper 26 = .ok (.iload_n 2, 1) := by decide +kernel
theorem dX9_dressPaper_27 : decode cX9_dressPaper 27 = .ok (.ireturn, 1) := by decide +kernel
theorem dX9_seenAt_0 : decode cX9_seenAt 0 = .ok (.aload_n 0, 1) := by decide +kernel
theorem dX9_seenAt_1 : decode cX9_seenAt 1 = .ok (.getfield 10, 3) := by decide +kernel
theorem dX9_seenAt_4 : decode cX9_seenAt 4 = .ok (.iload_n 1, 1) := by decide +kernel
theorem dX9_seenAt_5 : decode cX9_seenAt 5 = .ok (.aload_n 0, 1) := by decide +kernel
theorem dX9_seenAt_6 : decode cX9_seenAt 6 = .ok (.getfield 10, 3) := by decide +kernel
theorem dX9_seenAt_9 : decode cX9_seenAt 9 = .ok (.getfield 255, 3) := by decide +kernel
theorem dX9_seenAt_12 : decode cX9_seenAt 12 = .ok (.iconst (-1), 1) := by decide +kernel
theorem dX9_seenAt_13 : decode cX9_seenAt 13 = .ok (.aload_n 0, 1) := by decide +kernel
theorem dX9_seenAt_14 : decode cX9_seenAt 14 = .ok (.getfield 47, 3) := by decide +kernel
theorem dX9_seenAt_17 : decode cX9_seenAt 17 = .ok (.invokevirtual 311, 3) := by decide +kernel
theorem dX9_seenAt_20 : decode cX9_seenAt 20 = .ok (.ireturn, 1) := by decide +kernel
theorem dX9_spreadDither_0 : decode cX9_spreadDither 0 = .ok (.aload_n 0, 1) := by decide +kernel
theorem dX9_spreadDither_1 : decode cX9_spreadDither 1 = .ok (.getfield 51, 3) := by decide +kernel
theorem dX9_spreadDither_4 : decode cX9_spreadDither 4 = .ok (.iconst 0, 1) := by decide +kernel
theorem dX9_spreadDither_5 : decode cX9_spreadDither 5 = .ok (.invokestatic 315, 3) := by decide +kernel
theorem dX9_spreadDither_8 : decode cX9_spreadDither 8 = .ok (.iconst 0, 1) := by decide +kernel
theorem dX9_spreadDither_9 : decode cX9_spreadDither 9 = .ok (.istore_n 2, 1) := by decide +kernel
theorem dX9_spreadDither_10 : decode cX9_spreadDither 10 = .ok (.iconst 0, 1) := by decide +kernel
theorem dX9_spreadDither_11 : decode cX9_spreadDither 11 = .ok (.istore_n 3, 1) := by decide +kernel
theorem dX9_spreadDither_12 : decode cX9_spreadDither 12 = .ok (.iload_n 3, 1) := by decide +kernel
theorem dX9_spreadDither_13 : decode cX9_spreadDither 13 = .ok (.iload_n 1, 1) := by decide +kernel
theorem dX9_spreadDither_14 : decode cX9_spreadDither 14 = .ok (.if_icmp .gt 101, 3) := by decide +kernel
theorem dX9_spreadDither_17 : decode cX9_spreadDither 17 = .ok (.iconst 0, 1) := by decide +kernel
theorem dX9_spreadDither_18 : decode cX9_spreadDither 18 = .ok (.istore_n 2, 1) := by decide +kernel
theorem dX9_spreadDither_19 : decode cX9_spreadDither 19 = .ok (.iconst 0, 1) := by decide +kernel
theorem dX9_spreadDither_20 : decode cX9_spreadDither 20 = .ok (.istore 4, 2) := by decide +kernel
theorem dX9_spreadDither_22 : decode cX9_spreadDither 22 = .ok (.iload 4, 2) := by decide +kernel
theorem dX9_spreadDither_24 : decode cX9_spreadDither 24 = .ok (.bipush 16, 2) := by decide +kernel
theorem dX9_spreadDither_26 : decode cX9_spreadDither 26 = .ok (.if_icmp .ge 83, 3) := by decide +kernel
theorem dX9_spreadDither_29 : decode cX9_spreadDither 29 = .ok (.aload_n 0, 1) := by decide +kernel
theorem dX9_spreadDither_30 : decode cX9_spreadDither 30 = .ok (.iload 4, 2) := by decide +kernel
theorem dX9_spreadDither_32 : decode cX9_spreadDither 32 = .ok (.iload_n 3, 1) := by decide +kernel
theorem dX9_spreadDither_33 : decode cX9_spreadDither 33 = .ok (.invokestatic 121, 3) := by decide +kernel
theorem dX9_spreadDither_36 : decode cX9_spreadDither 36 = .ok (.invokevirtual 124, 3) := by decide +kernel
theorem dX9_spreadDither_39 : decode cX9_spreadDither 39 = .ok (.aload_n 0, 1) := by decide +kernel
theorem dX9_spreadDither_40 : decode cX9_spreadDither 40 = .ok (.getfield 51, 3) := by decide +kernel
theorem dX9_spreadDither_43 : decode cX9_spreadDither 43 = .ok (.iload 4, 2) := by decide +kernel
theorem dX9_spreadDither_45 : decode cX9_spreadDither 45 = .ok (.iload_n 3, 1) := by decide +kernel
theorem dX9_spreadDither_46 : decode cX9_spreadDither 46 = .ok (.invokestatic 121, 3) := by decide +kernel
theorem dX9_spreadDither_49 : decode cX9_spreadDither 49 = .ok (.iaload, 1) := by decide +kernel
theorem dX9_spreadDither_50 : decode cX9_spreadDither 50 = .ok (.iadd, 1) := by decide +kernel
theorem dX9_spreadDither_51 : decode cX9_spreadDither 51 = .ok (.istore 5, 2) := by decide +kernel
theorem dX9_spreadDither_53 : decode cX9_spreadDither 53 = .ok (.iload 5, 2) := by decide +kernel
theorem dX9_spreadDither_55 : decode cX9_spreadDither 55 = .ok (.sipush 128, 3) := by decide +kernel
theorem dX9_spreadDither_58 : decode cX9_spreadDither 58 = .ok (.if_icmp .lt 7, 3) := by decide +kernel
theorem dX9_spreadDither_61 : decode cX9_spreadDither 61 = .ok (.iconst 1, 1) := by decide +kernel
theorem dX9_spreadDither_62 : decode cX9_spreadDither 62 = .ok (.goto 4, 3) := by decide +kernel
theorem dX9_spreadDither_65 : decode cX9_spreadDither 65 = .ok (.iconst 0, 1) := by decide +kernel
theorem dX9_spreadDither_66 : decode cX9_spreadDither 66 = .ok (.istore 6, 2) := by decide +kernel
theorem dX9_spreadDither_68 : decode cX9_spreadDither 68 = .ok (.iload 6, 2) := by decide +kernel
theorem dX9_spreadDither_70 : decode cX9_spreadDither 70 = .ok (.ifCond .eq 10, 3) := by decide +kernel
theorem dX9_spreadDither_73 : decode cX9_spreadDither 73 = .ok (.iload_n 2, 1) := by decide +kernel
theorem dX9_spreadDither_74 : decode cX9_spreadDither 74 = .ok (.iconst 1, 1) := by decide +kernel
theorem dX9_spreadDither_75 : decode cX9_spreadDither 75 = .ok (.iload 4, 2) := by decide +kernel
theorem dX9_spreadDither_77 : decode cX9_spreadDither 77 = .ok (.ishl, 1) := by decide +kernel
theorem dX9_spreadDither_78 : decode cX9_spreadDither 78 = .ok (.ior, 1) := by decide +kernel
theorem dX9_spreadDither_79 : decode cX9_spreadDither 79 = .ok (.istore_n 2, 1) := by decide +kernel
theorem dX9_spreadDither_80 : decode cX9_spreadDither 80 = .ok (.aload_n 0, 1) := by decide +kernel
theorem dX9_spreadDither_81 : decode cX9_spreadDither 81 = .ok (.iload 4, 2) := by decide +kernel
theorem dX9_spreadDither_83 : decode cX9_spreadDither 83 = .ok (.iload_n 3, 1) := by decide +kernel
theorem dX9_spreadDither_84 : decode cX9_spreadDither 84 = .ok (.iload 6, 2) := by decide +kernel
theorem dX9_spreadDither_86 : decode cX9_spreadDither 86 = .ok (.ifCond .eq 12, 3) := by decide +kernel
theorem dX9_spreadDither_89 : decode cX9_spreadDither 89 = .ok (.iload 5, 2) := by decide +kernel
theorem dX9_spreadDither_91 : decode cX9_spreadDither 91 = .ok (.sipush 255, 3) := by decide +kernel
theorem dX9_spreadDither_94 : decode cX9_spreadDither 94 = .ok (.isub, 1) := by decide +kernel
theorem dX9_spreadDither_95 : decode cX9_spreadDither 95 = .ok (.goto 5, 3) := by decide +kernel
theorem dX9_spreadDither_98 : decode cX9_spreadDither 98 = .ok (.iload 5, 2) := by decide +kernel
theorem dX9_spreadDither_100 : decode cX9_spreadDither 100 = .ok (.invokevirtual 321, 3) := by decide +kernel
theorem dX9_spreadDither_103 : decode cX9_spreadDither 103 = .ok (.iinc 4 1, 3) := by decide +kernel
theorem dX9_spreadDither_106 : decode cX9_spreadDither 106 = .ok (.goto (-84), 3) := by decide +kernel
theorem dX9_spreadDither_109 : decode cX9_spreadDither 109 = .ok (.iinc 3 1, 3) := by decide +kernel
theorem dX9_spreadDither_112 : decode cX9_spreadDither 112 = .ok (.goto (-100), 3) := by decide +kernel
theorem dX9_spreadDither_115 : decode cX9_spreadDither 115 = .ok (.iload_n 2, 1) := by decide +kernel
theorem dX9_spreadDither_116 : decode cX9_spreadDither 116 = .ok (.ireturn, 1) := by decide +kernel
theorem dX9_spreadLeft_0 : decode cX9_spreadLeft 0 = .ok (.aload_n 0, 1) := by decide +kernel
theorem dX9_spreadLeft_1 : decode cX9_spreadLeft 1 = .ok (.iload_n 1, 1) := by decide +kernel
theorem dX9_spreadLeft_2 : decode cX9_spreadLeft 2 = .ok (.iconst 1, 1) := by decide +kernel
theorem dX9_spreadLeft_3 : decode cX9_spreadLeft 3 = .ok (.iadd, 1) := by decide +kernel
theorem dX9_spreadLeft_4 : decode cX9_spreadLeft 4 = .ok (.iload_n 2, 1) := by decide +kernel
theorem dX9_spreadLeft_5 : decode cX9_spreadLeft 5 = .ok (.bipush 7, 2) := by decide +kernel
theorem dX9_spreadLeft_7 : decode cX9_spreadLeft 7 = .ok (.iload_n 3, 1) := by decide +kernel
theorem dX9_spreadLeft_8 : decode cX9_spreadLeft 8 = .ok (.imul, 1) := by decide +kernel
theorem dX9_spreadLeft_9 : decode cX9_spreadLeft 9 = .ok (.bipush 16, 2) := by decide +kernel
theorem dX9_spreadLeft_11 : decode cX9_spreadLeft 11 = .ok (.idiv, 1) := by decide +kernel
theorem dX9_spreadLeft_12 : decode cX9_spreadLeft 12 = .ok (.invokevirtual 324, 3) := by decide +kernel
theorem dX9_spreadLeft_15 : decode cX9_spreadLeft 15 = .ok (.aload_n 0, 1) := by decide +kernel
theorem dX9_spreadLeft_16 : decode cX9_spreadLeft 16 = .ok (.iload_n 1, 1) := by decide +kernel
theorem dX9_spreadLeft_17 : decode cX9_spreadLeft 17 = .ok (.iconst 1, 1) := by decide +kernel
theorem dX9_spreadLeft_18 : decode cX9_spreadLeft 18 = .ok (.isub, 1) := by decide +kernel
theorem dX9_spreadLeft_19 : decode cX9_spreadLeft 19 = .ok (.iload_n 2, 1) := by decide +kernel
theorem dX9_spreadLeft_20 : decode cX9_spreadLeft 20 = .ok (.iconst 1, 1) := by decide +kernel
theorem dX9_spreadLeft_21 : decode cX9_spreadLeft 21 = .ok (.iadd, 1) := by decide +kernel
theorem dX9_spreadLeft_22 : decode cX9_spreadLeft 22 = .ok (.iconst 3, 1) := by decide +kernel
theorem dX9_spreadLeft_23 : decode cX9_spreadLeft 23 = .ok (.iload_n 3, 1) := by decide +kernel
theorem dX9_spreadLeft_24 : decode cX9_spreadLeft 24 = .ok (.imul, 1) := by decide +kernel
theorem dX9_spreadLeft_25 : decode cX9_spreadLeft 25 = .ok (.bipush 16, 2) := by decide +kernel
theorem dX9_spreadLeft_27 : decode cX9_spreadLeft 27 = .ok (.idiv, 1) := by decide +kernel
theorem dX9_spreadLeft_28 : decode cX9_spreadLeft 28 = .ok (.invokevirtual 324, 3) := by decide +kernel
theorem dX9_spreadLeft_31 : decode cX9_spreadLeft 31 = .ok (.aload_n 0, 1) := by decide +kernel
theorem dX9_spreadLeft_32 : decode cX9_spreadLeft 32 = .ok (.iload_n 1, 1) := by decide +kernel
theorem dX9_spreadLeft_33 : decode cX9_spreadLeft 33 = .ok (.iload_n 2, 1) := by decide +kernel
theorem dX9_spreadLeft_34 : decode cX9_spreadLeft 34 = .ok (.iconst 1, 1) := by decide +kernel
theorem dX9_spreadLeft_35 : decode cX9_spreadLeft 35 = .ok (.iadd, 1) := by decide +kernel
theorem dX9_spreadLeft_36 : decode cX9_spreadLeft 36 = .ok (.iconst 5, 1) := by decide +kernel
theorem dX9_spreadLeft_37 : decode cX9_spreadLeft 37 = .ok (.iload_n 3, 1) := by decide +kernel
theorem dX9_spreadLeft_38 : decode cX9_spreadLeft 38 = .ok (.imul, 1) := by decide +kernel
theorem dX9_spreadLeft_39 : decode cX9_spreadLeft 39 = .ok (.bipush 16, 2) := by decide +kernel
theorem dX9_spreadLeft_41 : decode cX9_spreadLeft 41 = .ok (.idiv, 1) := by decide +kernel
theorem dX9_spreadLeft_42 : decode cX9_spreadLeft 42 = .ok (.invokevirtual 324, 3) := by decide +kernel
theorem dX9_spreadLeft_45 : decode cX9_spreadLeft 45 = .ok (.aload_n 0, 1) := by decide +kernel
theorem dX9_spreadLeft_46 : decode cX9_spreadLeft 46 = .ok (.iload_n 1, 1) := by decide +kernel
theorem dX9_spreadLeft_47 : decode cX9_spreadLeft 47 = .ok (.iconst 1, 1) := by decide +kernel
theorem dX9_spreadLeft_48 : decode cX9_spreadLeft 48 = .ok (.iadd, 1) := by decide +kernel
theorem dX9_spreadLeft_49 : decode cX9_spreadLeft 49 = .ok (.iload_n 2, 1) := by decide +kernel
theorem dX9_spreadLeft_50 : decode cX9_spreadLeft 50 = .ok (.iconst 1, 1) := by decide +kernel
theorem dX9_spreadLeft_51 : decode cX9_spreadLeft 51 = .ok (.iadd, 1) := by decide +kernel
theorem dX9_spreadLeft_52 : decode cX9_spreadLeft 52 = .ok (.iload_n 3, 1) := by decide +kernel
theorem dX9_spreadLeft_53 : decode cX9_spreadLeft 53 = .ok (.bipush 16, 2) := by decide +kernel
theorem dX9_spreadLeft_55 : decode cX9_spreadLeft 55 = .ok (.idiv, 1) := by decide +kernel
theorem dX9_spreadLeft_56 : decode cX9_spreadLeft 56 = .ok (.invokevirtual 324, 3) := by decide +kernel
theorem dX9_spreadLeft_59 : decode cX9_spreadLeft 59 = .ok (.return_, 1) := by decide +kernel
theorem dX9_leave_0 : decode cX9_leave 0 = .ok (.iload_n 1, 1) := by decide +kernel
theorem dX9_leave_1 : decode cX9_leave 1 = .ok (.iload_n 2, 1) := by decide +kernel
theorem dX9_leave_2 : decode cX9_leave 2 = .ok (.invokestatic 118, 3) := by decide +kernel
theorem dX9_leave_5 : decode cX9_leave 5 = .ok (.ifCond .eq 17, 3) := by decide +kernel
theorem dX9_leave_8 : decode cX9_leave 8 = .ok (.aload_n 0, 1) := by decide +kernel
theorem dX9_leave_9 : decode cX9_leave 9 = .ok (.getfield 51, 3) := by decide +kernel
theorem dX9_leave_12 : decode cX9_leave 12 = .ok (.iload_n 1, 1) := by decide +kernel
theorem dX9_leave_13 : decode cX9_leave 13 = .ok (.iload_n 2, 1) := by decide +kernel
theorem dX9_leave_14 : decode cX9_leave 14 = .ok (.invokestatic 121, 3) := by decide +kernel
theorem dX9_leave_17 : decode cX9_leave 17 = .ok (.dup2, 1) := by decide +kernel
theorem dX9_leave_18 : decode cX9_leave 18 = .ok (.iaload, 1) := by decide +kernel
theorem dX9_leave_19 : decode cX9_leave 19 = .ok (.iload_n 3, 1) := by decide +kernel
theorem dX9_leave_20 : decode cX9_leave 20 = .ok (.iadd, 1) := by decide +kernel
theorem dX9_leave_21 : decode cX9_leave 21 = .ok (.iastore, 1) := by decide +kernel
theorem dX9_leave_22 : decode cX9_leave 22 = .ok (.return_, 1) := by decide +kernel
theorem dX9_patternDither_0 : decode cX9_patternDither 0 = .ok (.iconst 0, 1) := by decide +kernel
theorem dX9_patternDither_1 : decode cX9_patternDither 1 = .ok (.istore_n 2, 1) := by decide +kernel
theorem dX9_patternDither_2 : decode cX9_patternDither 2 = .ok (.iconst 0, 1) := by decide +kernel
theorem dX9_patternDither_3 : decode cX9_patternDither 3 = .ok (.istore_n 3, 1) := by decide +kernel
theorem dX9_patternDither_4 : decode cX9_patternDither 4 = .ok (.iload_n 3, 1) := by decide +kernel
theorem dX9_patternDither_5 : decode cX9_patternDither 5 = .ok (.bipush 16, 2) := by decide +kernel
theorem dX9_patternDither_7 : decode cX9_patternDither 7 = .ok (.if_icmp .ge 50, 3) := by decide +kernel
theorem dX9_patternDither_10 : decode cX9_patternDither 10 = .ok (.getstatic 327, 3) := by decide +kernel
theorem dX9_patternDither_13 : decode cX9_patternDither 13 = .ok (.iload_n 1, 1) := by decide +kernel
theorem dX9_patternDither_14 : decode cX9_patternDither 14 = .ok (.iconst 4, 1) := by decide +kernel
theorem dX9_patternDither_15 : decode cX9_patternDither 15 = .ok (.irem, 1) := by decide +kernel
theorem dX9_patternDither_16 : decode cX9_patternDither 16 = .ok (.iconst 4, 1) := by decide +kernel
theorem dX9_patternDither_17 : decode cX9_patternDither 17 = .ok (.imul, 1) := by decide +kernel
theorem dX9_patternDither_18 : decode cX9_patternDither 18 = .ok (.iload_n 3, 1) := by decide +kernel
theorem dX9_patternDither_19 : decode cX9_patternDither 19 = .ok (.iconst 4, 1) := by decide +kernel
theorem dX9_patternDither_20 : decode cX9_patternDither 20 = .ok (.irem, 1) := by decide +kernel
theorem dX9_patternDither_21 : decode cX9_patternDither 21 = .ok (.iadd, 1) := by decide +kernel
theorem dX9_patternDither_22 : decode cX9_patternDither 22 = .ok (.iaload, 1) := by decide +kernel
theorem dX9_patternDither_23 : decode cX9_patternDither 23 = .ok (.istore 4, 2) := by decide +kernel
theorem dX9_patternDither_25 : decode cX9_patternDither 25 = .ok (.aload_n 0, 1) := by decide +kernel
theorem dX9_patternDither_26 : decode cX9_patternDither 26 = .ok (.iload_n 3, 1) := by decide +kernel
theorem dX9_patternDither_27 : decode cX9_patternDither 27 = .ok (.iload_n 1, 1) := by decide +kernel
theorem dX9_patternDither_28 : decode cX9_patternDither 28 = .ok (.invokestatic 121, 3) := by decide +kernel
theorem dX9_patternDither_31 : decode cX9_patternDither 31 = .ok (.invokevirtual 124, 3) := by decide +kernel
theorem dX9_patternDither_34 : decode cX9_patternDither 34 = .ok (.bipush 16, 2) := by decide +kernel
theorem dX9_patternDither_36 : decode cX9_patternDither 36 = .ok (.iload 4, 2) := by decide +kernel
theorem dX9_patternDither_38 : decode cX9_patternDither 38 = .ok (.imul, 1) := by decide +kernel
theorem dX9_patternDither_39 : decode cX9_patternDither 39 = .ok (.bipush 7, 2) := by decide +kernel
theorem dX9_patternDither_41 : decode cX9_patternDither 41 = .ok (.iadd, 1) := by decide +kernel
theorem dX9_patternDither_42 : decode cX9_patternDither 42 = .ok (.if_icmp .le 9, 3) := by decide +kernel
theorem dX9_patternDither_45 : decode cX9_patternDither 45 = .ok (.iload_n 2, 1) := by decide +kernel
theorem dX9_patternDither_46 : decode cX9_patternDither 46 = .ok (.iconst 1, 1) := by decide +kernel
theorem dX9_patternDither_47 : decode cX9_patternDither 47 = .ok (.iload_n 3, 1) := by decide +kernel
theorem dX9_patternDither_48 : decode cX9_patternDither 48 = .ok (.ishl, 1) := by decide +kernel
theorem dX9_patternDither_49 : decode cX9_patternDither 49 = .ok (.ior, 1) := by decide +kernel
theorem dX9_patternDither_50 : decode cX9_patternDither 50 = .ok (.istore_n 2, 1) := by decide +kernel
theorem dX9_patternDither_51 : decode cX9_patternDither 51 = .ok (.iinc 3 1, 3) := by decide +kernel
theorem dX9_patternDither_54 : decode cX9_patternDither 54 = .ok (.goto (-50), 3) := by decide +kernel
theorem dX9_patternDither_57 : decode cX9_patternDither 57 = .ok (.iload_n 2, 1) := by decide +kernel
theorem dX9_patternDither_58 : decode cX9_patternDither 58 = .ok (.ireturn, 1) := by decide +kernel
theorem dX9_sprayThought_0 : decode cX9_sprayThought 0 = .ok (.aload_n 0, 1) := by decide +kernel
theorem dX9_sprayThought_1 : decode cX9_sprayThought 1 = .ok (.getfield 47, 3) := by decide +kernel
theorem dX9_sprayThought_4 : decode cX9_sprayThought 4 = .ok (.aload_n 0, 1) := by decide +kernel
theorem dX9_sprayThought_5 : decode cX9_sprayThought 5 = .ok (.getfield 10, 3) := by decide +kernel
theorem dX9_sprayThought_8 : decode cX9_sprayThought 8 = .ok (.getfield 83, 3) := by decide +kernel
theorem dX9_sprayThought_11 : decode cX9_sprayThought 11 = .ok (.iload_n 1, 1) := by decide +kernel
theorem dX9_sprayThought_12 : decode cX9_sprayThought 12 = .ok (.aaload, 1) := by decide +kernel
theorem dX9_sprayThought_13 : decode cX9_sprayThought 13 = .ok (.invokevirtual 330, 3) := by decide +kernel
theorem dX9_sprayThought_16 : decode cX9_sprayThought 16 = .ok (.iload_n 2, 1) := by decide +kernel
theorem dX9_sprayThought_17 : decode cX9_sprayThought 17 = .ok (.istore 4, 2) := by decide +kernel
theorem dX9_sprayThought_19 : decode cX9_sprayThought 19 = .ok (.iconst 0, 1) := by decide +kernel
theorem dX9_sprayThought_20 : decode cX9_sprayThought 20 = .ok (.istore 5, 2) := by decide +kernel
theorem dX9_sprayThought_22 : decode cX9_sprayThought 22 = .ok (.iload 5, 2) := by decide +kernel
theorem dX9_sprayThought_24 : decode cX9_sprayThought 24 = .ok (.iload_n 3, 1) := by decide +kernel
theorem dX9_sprayThought_25 : decode cX9_sprayThought 25 = .ok (.if_icmp .ge 58, 3) := by decide +kernel
theorem dX9_sprayThought_28 : decode cX9_sprayThought 28 = .ok (.iload 4, 2) := by decide +kernel
theorem dX9_sprayThought_30 : decode cX9_sprayThought 30 = .ok (.invokestatic 333, 3) := by decide +kernel
theorem dX9_sprayThought_33 : decode cX9_sprayThought 33 = .ok (.istore 4, 2) := by decide +kernel
theorem dX9_sprayThought_35 : decode cX9_sprayThought 35 = .ok (.iload 4, 2) := by decide +kernel
theorem dX9_sprayThought_37 : decode cX9_sprayThought 37 = .ok (.bipush 9, 2) := by decide +kernel
theorem dX9_sprayThought_39 : decode cX9_sprayThought 39 = .ok (.iushr, 1) := by decide +kernel
theorem dX9_sprayThought_40 : decode cX9_sprayThought 40 = .ok (.bipush 16, 2) := by decide +kernel
theorem dX9_sprayThought_42 : decode cX9_sprayThought 42 = .ok (.irem, 1) := by decide +kernel
theorem dX9_sprayThought_43 : decode cX9_sprayThought 43 = .ok (.istore 6, 2) := by decide +kernel
theorem dX9_sprayThought_45 : decode cX9_sprayThought 45 = .ok (.iload 4, 2) := by decide +kernel
theorem dX9_sprayThought_47 : decode cX9_sprayThought 47 = .ok (.invokestatic 333, 3) := by decide +kernel
theorem dX9_sprayThought_50 : decode cX9_sprayThought 50 = .ok (.istore 4, 2) := by decide +kernel
theorem dX9_sprayThought_52 : decode cX9_sprayThought 52 = .ok (.iload 4, 2) := by decide +kernel
theorem dX9_sprayThought_54 : decode cX9_sprayThought 54 = .ok (.bipush 9, 2) := by decide +kernel
theorem dX9_sprayThought_56 : decode cX9_sprayThought 56 = .ok (.iushr, 1) := by decide +kernel
theorem dX9_sprayThought_57 : decode cX9_sprayThought 57 = .ok (.bipush 12, 2) := by decide +kernel
theorem dX9_sprayThought_59 : decode cX9_sprayThought 59 = .ok (.irem, 1) := by decide +kernel
theorem dX9_sprayThought_60 : decode cX9_sprayThought 60 = .ok (.istore 7, 2) := by decide +kernel
theorem dX9_sprayThought_62 : decode cX9_sprayThought 62 = .ok (.aload_n 0, 1) := by decide +kernel
theorem dX9_sprayThought_63 : decode cX9_sprayThought 63 = .ok (.getfield 10, 3) := by decide +kernel
theorem dX9_sprayThought_66 : decode cX9_sprayThought 66 = .ok (.aload_n 0, 1) := by decide +kernel
theorem dX9_sprayThought_67 : decode cX9_sprayThought 67 = .ok (.getfield 47, 3) := by decide +kernel
theorem dX9_sprayThought_70 : decode cX9_sprayThought 70 = .ok (.iload 6, 2) := by decide +kernel
theorem dX9_sprayThought_72 : decode cX9_sprayThought 72 = .ok (.iload 7, 2) := by decide +kernel
theorem dX9_sprayThought_74 : decode cX9_sprayThought 74 = .ok (.invokevirtual 336, 3) := by decide +kernel
theorem dX9_sprayThought_77 : decode cX9_sprayThought 77 = .ok (.iinc 5 1, 3) := by decide +kernel
theorem dX9_sprayThought_80 : decode cX9_sprayThought 80 = .ok (.goto (-58), 3) := by decide +kernel
theorem dX9_sprayThought_83 : decode cX9_sprayThought 83 = .ok (.return_, 1) := by decide +kernel
theorem dX9_drawnAfter_0 : decode cX9_drawnAfter 0 = .ok (.iload_n 0, 1) := by decide +kernel
theorem dX9_drawnAfter_1 : decode cX9_drawnAfter 1 = .ok (.ldc_w 339, 3) := by decide +kernel
theorem dX9_drawnAfter_4 : decode cX9_drawnAfter 4 = .ok (.imul, 1) := by decide +kernel
theorem dX9_drawnAfter_5 : decode cX9_drawnAfter 5 = .ok (.sipush 12345, 3) := by decide +kernel
theorem dX9_drawnAfter_8 : decode cX9_drawnAfter 8 = .ok (.iadd, 1) := by decide +kernel
theorem dX9_drawnAfter_9 : decode cX9_drawnAfter 9 = .ok (.ireturn, 1) := by decide +kernel
theorem dX9_isOtherwiseInThought_0 : decode cX9_isOtherwiseInThought 0 = .ok (.aload_n 0, 1) := by decide +kernel
theorem dX9_isOtherwiseInThought_1 : decode cX9_isOtherwiseInThought 1 = .ok (.iload_n 2, 1) := by decide +kernel
theorem dX9_isOtherwiseInThought_2 : decode cX9_isOtherwiseInThought 2 = .ok (.invokevirtual 124, 3) := by decide +kernel
theorem dX9_isOtherwiseInThought_5 : decode cX9_isOtherwiseInThought 5 = .ok (.aload_n 0, 1) := by decide +kernel
theorem dX9_isOtherwiseInThought_6 : decode cX9_isOtherwiseInThought 6 = .ok (.getfield 10, 3) := by decide +kernel
theorem dX9_isOtherwiseInThought_9 : decode cX9_isOtherwiseInThought 9 = .ok (.iload_n 2, 1) := by decide +kernel
theorem dX9_isOtherwiseInThought_10 : decode cX9_isOtherwiseInThought 10 = .ok (.aload_n 0, 1) := by decide +kernel
theorem dX9_isOtherwiseInThought_11 : decode cX9_isOtherwiseInThought 11 = .ok (.getfield 10, 3) := by decide +kernel
theorem dX9_isOtherwiseInThought_14 : decode cX9_isOtherwiseInThought 14 = .ok (.getfield 255, 3) := by decide +kernel
theorem dX9_isOtherwiseInThought_17 : decode cX9_isOtherwiseInThought 17 = .ok (.iload_n 1, 1) := by decide +kernel
theorem dX9_isOtherwiseInThought_18 : decode cX9_isOtherwiseInThought 18 = .ok (.aload_n 0, 1) := by decide +kernel
theorem dX9_isOtherwiseInThought_19 : decode cX9_isOtherwiseInThought 19 = .ok (.getfield 47, 3) := by decide +kernel
theorem dX9_isOtherwiseInThought_22 : decode cX9_isOtherwiseInThought 22 = .ok (.invokevirtual 311, 3) := by decide +kernel
theorem dX9_isOtherwiseInThought_25 : decode cX9_isOtherwiseInThought 25 = .ok (.if_icmp .eq 7, 3) := by decide +kernel
theorem dX9_isOtherwiseInThought_28 : decode cX9_isOtherwiseInThought 28 = .ok (.iconst 1, 1) := by decide +kernel
theorem dX9_isOtherwiseInThought_29 : decode cX9_isOtherwiseInThought 29 = .ok (.goto 4, 3) := by decide +kernel
theorem dX9_isOtherwiseInThought_32 : decode cX9_isOtherwiseInThought 32 = .ok (.iconst 0, 1) := by decide +kernel
theorem dX9_isOtherwiseInThought_33 : decode cX9_isOtherwiseInThought 33 = .ok (.ireturn, 1) := by decide +kernel
theorem dX9_firstOtherwise_0 : decode cX9_firstOtherwise 0 = .ok (.iconst 0, 1) := by decide +kernel
theorem dX9_firstOtherwise_1 : decode cX9_firstOtherwise 1 = .ok (.istore 5, 2) := by decide +kernel
theorem dX9_firstOtherwise_3 : decode cX9_firstOtherwise 3 = .ok (.iload 5, 2) := by decide +kernel
theorem dX9_firstOtherwise_5 : decode cX9_firstOtherwise 5 = .ok (.bipush 16, 2) := by decide +kernel
theorem dX9_firstOtherwise_7 : decode cX9_firstOtherwise 7 = .ok (.if_icmp .ge 51, 3) := by decide +kernel
theorem dX9_firstOtherwise_10 : decode cX9_firstOtherwise 10 = .ok (.iload 5, 2) := by decide +kernel
theorem dX9_firstOtherwise_12 : decode cX9_firstOtherwise 12 = .ok (.aload_n 1, 1) := by decide +kernel
theorem dX9_firstOtherwise_13 : decode cX9_firstOtherwise 13 = .ok (.getfield 254, 3) := by decide +kernel
theorem dX9_firstOtherwise_16 : decode cX9_firstOtherwise 16 = .ok (.if_icmp .ge 42, 3) := by decide +kernel
theorem dX9_firstOtherwise_19 : decode cX9_firstOtherwise 19 = .ok (.aload_n 1, 1) := by decide +kernel
theorem dX9_firstOtherwise_20 : decode cX9_firstOtherwise 20 = .ok (.getfield 299, 3) := by decide +kernel
theorem dX9_firstOtherwise_23 : decode cX9_firstOtherwise 23 = .ok (.iload 5, 2) := by decide +kernel
theorem dX9_firstOtherwise_25 : decode cX9_firstOtherwise 25 = .ok (.iaload, 1) := by decide +kernel
theorem dX9_firstOtherwise_26 : decode cX9_firstOtherwise 26 = .ok (.aload_n 0, 1) := by decide +kernel
theorem dX9_firstOtherwise_27 : decode cX9_firstOtherwise 27 = .ok (.getfield 10, 3) := by decide +kernel
theorem dX9_firstOtherwise_30 : decode cX9_firstOtherwise 30 = .ok (.iload 5, 2) := by decide +kernel
theorem dX9_firstOtherwise_32 : decode cX9_firstOtherwise 32 = .ok (.iload_n 2, 1) := by decide +kernel
theorem dX9_firstOtherwise_33 : decode cX9_firstOtherwise 33 = .ok (.invokestatic 121, 3) := by decide +kernel
theorem dX9_firstOtherwise_36 : decode cX9_firstOtherwise 36 = .ok (.iload_n 3, 1) := by decide +kernel
theorem dX9_firstOtherwise_37 : decode cX9_firstOtherwise 37 = .ok (.iload 4, 2) := by decide +kernel
theorem dX9_firstOtherwise_39 : decode cX9_firstOtherwise 39 = .ok (.aload_n 0, 1) := by decide +kernel
theorem dX9_firstOtherwise_40 : decode cX9_firstOtherwise 40 = .ok (.getfield 47, 3) := by decide +kernel
theorem dX9_firstOtherwise_43 : decode cX9_firstOtherwise 43 = .ok (.invokevirtual 311, 3) := by decide +kernel
theorem dX9_firstOtherwise_46 : decode cX9_firstOtherwise 46 = .ok (.if_icmp .eq 6, 3) := by decide +kernel
theorem dX9_firstOtherwise_49 : decode cX9_firstOtherwise 49 = .ok (.iload 5, 2) := by decide +kernel
theorem dX9_firstOtherwise_51 : decode cX9_firstOtherwise 51 = .ok (.ireturn, 1) := by decide +kernel
theorem dX9_firstOtherwise_52 : decode cX9_firstOtherwise 52 = .ok (.iinc 5 1, 3) := by decide +kernel
theorem dX9_firstOtherwise_55 : decode cX9_firstOtherwise 55 = .ok (.goto (-52), 3) := by decide +kernel
theorem dX9_firstOtherwise_58 : decode cX9_firstOtherwise 58 = .ok (.iconst (-1), 1) := by decide +kernel
theorem dX9_firstOtherwise_59 : decode cX9_firstOtherwise 59 = .ok (.ireturn, 1) := by decide +kernel
theorem dX9_papersTold_0 : decode cX9_papersTold 0 = .ok (.iconst 0, 1) := by decide +kernel
theorem dX9_papersTold_1 : decode cX9_papersTold 1 = .ok (.istore_n 3, 1) := by decide +kernel
theorem dX9_papersTold_2 : decode cX9_papersTold 2 = .ok (.iconst 0, 1) := by decide +kernel
theorem dX9_papersTold_3 : decode cX9_papersTold 3 = .ok (.istore 4, 2) := by decide +kernel
theorem dX9_papersTold_5 : decode cX9_papersTold 5 = .ok (.iload 4, 2) := by decide +kernel
theorem dX9_papersTold_7 : decode cX9_papersTold 7 = .ok (.sipush 255, 3) := by decide +kernel
theorem dX9_papersTold_10 : decode cX9_papersTold 10 = .ok (.if_icmp .gt 25, 3) := by decide +kernel
theorem dX9_papersTold_13 : decode cX9_papersTold 13 = .ok (.aload_n 0, 1) := by decide +kernel
theorem dX9_papersTold_14 : decode cX9_papersTold 14 = .ok (.aload_n 1, 1) := by decide +kernel
theorem dX9_papersTold_15 : decode cX9_papersTold 15 = .ok (.iload_n 2, 1) := by decide +kernel
theorem dX9_papersTold_16 : decode cX9_papersTold 16 = .ok (.iload 4, 2) := by decide +kernel
theorem dX9_papersTold_18 : decode cX9_papersTold 18 = .ok (.iconst (-1), 1) := by decide +kernel
theorem dX9_papersTold_19 : decode cX9_papersTold 19 = .ok (.invokevirtual 258, 3) := by decide +kernel
theorem dX9_papersTold_22 : decode cX9_papersTold 22 = .ok (.iconst (-1), 1) := by decide +kernel
theorem dX9_papersTold_23 : decode cX9_papersTold 23 = .ok (.if_icmp .ne 6, 3) := by decide +kernel
theorem dX9_papersTold_26 : decode cX9_papersTold 26 = .ok (.iinc 3 1, 3) := by decide +kernel
theorem dX9_papersTold_29 : decode cX9_papersTold 29 = .ok (.iinc 4 1, 3) := by decide +kernel
theorem dX9_papersTold_32 : decode cX9_papersTold 32 = .ok (.goto (-27), 3) := by decide +kernel
theorem dX9_papersTold_35 : decode cX9_papersTold 35 = .ok (.iload_n 3, 1) := by decide +kernel
theorem dX9_papersTold_36 : decode cX9_papersTold 36 = .ok (.ireturn, 1) := by decide +kernel
theorem dX9_modesTold_0 : decode cX9_modesTold 0 = .ok (.aload_n 0, 1) := by decide +kernel
theorem dX9_modesTold_1 : decode cX9_modesTold 1 = .ok (.getfield 47, 3) := by decide +kernel
theorem dX9_modesTold_4 : decode cX9_modesTold 4 = .ok (.aload_n 0, 1) := by decide +kernel
theorem dX9_modesTold_5 : decode cX9_modesTold 5 = .ok (.getfield 10, 3) := by decide +kernel
theorem dX9_modesTold_8 : decode cX9_modesTold 8 = .ok (.getfield 83, 3) := by decide +kernel
theorem dX9_modesTold_11 : decode cX9_modesTold 11 = .ok (.iload_n 3, 1) := by decide +kernel
theorem dX9_modesTold_12 : decode cX9_modesTold 12 = .ok (.aaload, 1) := by decide +kernel
theorem dX9_modesTold_13 : decode cX9_modesTold 13 = .ok (.invokevirtual 330, 3) := by decide +kernel
theorem dX9_modesTold_16 : decode cX9_modesTold 16 = .ok (.iconst 0, 1) := by decide +kernel
theorem dX9_modesTold_17 : decode cX9_modesTold 17 = .ok (.istore 4, 2) := by decide +kernel
theorem dX9_modesTold_19 : decode cX9_modesTold 19 = .ok (.iconst 0, 1) := by decide +kernel
theorem dX9_modesTold_20 : decode cX9_modesTold 20 = .ok (.istore 5, 2) := by decide +kernel
theorem dX9_modesTold_22 : decode cX9_modesTold 22 = .ok (.iload 5, 2) := by decide +kernel
theorem dX9_modesTold_24 : decode cX9_modesTold 24 = .ok (.bipush 6, 2) := by decide +kernel
theorem dX9_modesTold_26 : decode cX9_modesTold 26 = .ok (.if_icmp .ge 45, 3) := by decide +kernel
theorem dX9_modesTold_29 : decode cX9_modesTold 29 = .ok (.aload_n 0, 1) := by decide +kernel
theorem dX9_modesTold_30 : decode cX9_modesTold 30 = .ok (.getfield 47, 3) := by decide +kernel
theorem dX9_modesTold_33 : decode cX9_modesTold 33 = .ok (.iload 5, 2) := by decide +kernel
theorem dX9_modesTold_35 : decode cX9_modesTold 35 = .ok (.putfield 94, 3) := by decide +kernel
theorem dX9_modesTold_38 : decode cX9_modesTold 38 = .ok (.aload_n 0, 1) := by decide +kernel
theorem dX9_modesTold_39 : decode cX9_modesTold 39 = .ok (.aload_n 1, 1) := by decide +kernel
theorem dX9_modesTold_40 : decode cX9_modesTold 40 = .ok (.iload_n 2, 1) := by decide +kernel
theorem dX9_modesTold_41 : decode cX9_modesTold 41 = .ok (.aload_n 0, 1) := by decide +kernel
theorem dX9_modesTold_42 : decode cX9_modesTold 42 = .ok (.getfield 10, 3) := by decide +kernel
theorem dX9_modesTold_45 : decode cX9_modesTold 45 = .ok (.getfield 255, 3) := by decide +kernel
theorem dX9_modesTold_48 : decode cX9_modesTold 48 = .ok (.iload_n 3, 1) := by decide +kernel
theorem dX9_modesTold_49 : decode cX9_modesTold 49 = .ok (.invokevirtual 258, 3) := by decide +kernel
theorem dX9_modesTold_52 : decode cX9_modesTold 52 = .ok (.iconst (-1), 1) := by decide +kernel
theorem dX9_modesTold_53 : decode cX9_modesTold 53 = .ok (.if_icmp .ne 12, 3) := by decide +kernel
theorem dX9_modesTold_56 : decode cX9_modesTold 56 = .ok (.iload 4, 2) := by decide +kernel
theorem dX9_modesTold_58 : decode cX9_modesTold 58 = .ok (.iconst 1, 1) := by decide +kernel
theorem dX9_modesTold_59 : decode cX9_modesTold 59 = .ok (.iload 5, 2) := by decide +kernel
theorem dX9_modesTold_61 : decode cX9_modesTold 61 = .ok (.ishl, 1) := by decide +kernel
theorem dX9_modesTold_62 : decode cX9_modesTold 62 = .ok (.ior, 1) := by decide +kernel
theorem dX9_modesTold_63 : decode cX9_modesTold 63 = .ok (.istore 4, 2) := by decide +kernel
theorem dX9_modesTold_65 : decode cX9_modesTold 65 = .ok (.iinc 5 1, 3) := by decide +kernel
theorem dX9_modesTold_68 : decode cX9_modesTold 68 = .ok (.goto (-46), 3) := by decide +kernel
theorem dX9_modesTold_71 : decode cX9_modesTold 71 = .ok (.iload 4, 2) := by decide +kernel
theorem dX9_modesTold_73 : decode cX9_modesTold 73 = .ok (.ireturn, 1) := by decide +kernel
theorem dX10_init_0 : decode cX10_init 0 = .ok (.aload_n 0, 1) := by decide +kernel
theorem dX10_init_1 : decode cX10_init 1 = .ok (.invokespecial 3, 3) := by decide +kernel
theorem dX10_init_4 : decode cX10_init 4 = .ok (.aload_n 0, 1) := by decide +kernel
theorem dX10_init_5 : decode cX10_init 5 = .ok (.sipush 5608, 3) := by decide +kernel
theorem dX10_init_8 : decode cX10_init 8 = .ok (.newarray .int, 2) := by decide +kernel
theorem dX10_init_10 : decode cX10_init 10 = .ok (.putfield 9, 3) := by decide +kernel
theorem dX10_init_13 : decode cX10_init 13 = .ok (.aload_n 0, 1) := by decide +kernel
theorem dX10_init_14 : decode cX10_init 14 = .ok (.sipush 5608, 3) := by decide +kernel
theorem dX10_init_17 : decode cX10_init 17 = .ok (.newarray .int, 2) := by decide +kernel
theorem dX10_init_19 : decode cX10_init 19 = .ok (.putfield 13, 3) := by decide +kernel
theorem dX10_init_22 : decode cX10_init 22 = .ok (.aload_n 0, 1) := by decide +kernel
theorem dX10_init_23 : decode cX10_init 23 = .ok (.bipush 60, 2) := by decide +kernel
theorem dX10_init_25 : decode cX10_init 25 = .ok (.newarray .int, 2) := by decide +kernel
theorem dX10_init_27 : decode cX10_init 27 = .ok (.putfield 16, 3) := by decide +kernel
theorem dX10_init_30 : decode cX10_init 30 = .ok (.aload_n 0, 1) := by decide +kernel
theorem dX10_init_31 : decode cX10_init 31 = .ok (.sipush 384, 3) := by decide +kernel
theorem dX10_init_34 : decode cX10_init 34 = .ok (.newarray .int, 2) := by decide +kernel
theorem dX10_init_36 : decode cX10_init 36 = .ok (.putfield 19, 3) := by decide +kernel
theorem dX10_init_39 : decode cX10_init 39 = .ok (.aload_n 0, 1) := by decide +kernel
theorem dX10_init_40 : decode cX10_init 40 = .ok (.sipush 192, 3) := by decide +kernel
theorem dX10_init_43 : decode cX10_init 43 = .ok (.newarray .int, 2) := by decide +kernel
theorem dX10_init_45 : decode cX10_init 45 = .ok (.putfield 22, 3) := by decide +kernel
theorem dX10_init_48 : decode cX10_init 48 = .ok (.aload_n 0, 1) := by decide +kernel
theorem dX10_init_49 : decode cX10_init 49 = .ok (.sipush 192, 3) := by decide +kernel
theorem dX10_init_52 : decode cX10_init 52 = .ok (.newarray .int, 2) := by decide +kernel
theorem dX10_init_54 : decode cX10_init 54 = .ok (.putfield 25, 3) := by decide +kernel
theorem dX10_init_57 : decode cX10_init 57 = .ok (.aload_n 0, 1) := by decide +kernel
theorem dX10_init_58 : decode cX10_init 58 = .ok (.sipush 192, 3) := by decide +kernel
theorem dX10_init_61 : decode cX10_init 61 = .ok (.newarray .int, 2) := by decide +kernel
theorem dX10_init_63 : decode cX10_init 63 = .ok (.putfield 28, 3) := by decide +kernel
theorem dX10_init_66 : decode cX10_init 66 = .ok (.aload_n 0, 1) := by decide +kernel
theorem dX10_init_67 : decode cX10_init 67 = .ok (.sipush 192, 3) := by decide +kernel
theorem dX10_init_70 : decode cX10_init 70 = .ok (.newarray .int, 2) := by decide +kernel
theorem dX10_init_72 : decode cX10_init 72 = .ok (.putfield 31, 3) := by decide +kernel
theorem dX10_init_75 : decode cX10_init 75 = .ok (.aload_n 0, 1) := by decide +kernel
theorem dX10_init_76 : decode cX10_init 76 = .ok (.iconst 4, 1) := by decide +kernel
theorem dX10_init_77 : decode cX10_init 77 = .ok (.newarray .int, 2) := by decide +kernel
theorem dX10_init_79 : decode cX10_init 79 = .ok (.putfield 34, 3) := by decide +kernel
theorem dX10_init_82 : decode cX10_init 82 = .ok (.aload_n 0, 1) := by decide +kernel
theorem dX10_init_83 : decode cX10_init 83 = .ok (.iconst 4, 1) := by decide +kernel
theorem dX10_init_84 : decode cX10_init 84 = .ok (.newarray .int, 2) := by decide +kernel
theorem dX10_init_86 : decode cX10_init 86 = .ok (.putfield 37, 3) := by decide +kernel
theorem dX10_init_89 : decode cX10_init 89 = .ok (.aload_n 0, 1) := by decide +kernel
theorem dX10_init_90 : decode cX10_init 90 = .ok (.sipush 160, 3) := by decide +kernel
theorem dX10_init_93 : decode cX10_init 93 = .ok (.newarray .int, 2) := by decide +kernel
theorem dX10_init_95 : decode cX10_init 95 = .ok (.putfield 40, 3) := by decide +kernel
theorem dX10_init_98 : decode cX10_init 98 = .ok (.aload_n 0, 1) := by decide +kernel
theorem dX10_init_99 : decode cX10_init 99 = .ok (.getfield 9, 3) := by decide +kernel
theorem dX10_init_102 : decode cX10_init 102 = .ok (.iconst 1, 1) := by decide +kernel
theorem dX10_init_103 : decode cX10_init 103 = .ok (.sipush 255, 3) := by decide +kernel
theorem dX10_init_106 : decode cX10_init 106 = .ok (.iastore, 1) := by decide +kernel
theorem dX10_init_107 : decode cX10_init 107 = .ok (.aload_n 0, 1) := by decide +kernel
theorem dX10_init_108 : decode cX10_init 108 = .ok (.getfield 9, 3) := by decide +kernel
theorem dX10_init_111 : decode cX10_init 111 = .ok (.iconst 3, 1) := by decide +kernel
theorem dX10_init_112 : decode cX10_init 112 = .ok (.iconst 1, 1) := by decide +kernel
theorem dX10_init_113 : decode cX10_init 113 = .ok (.iastore, 1) := by decide +kernel
theorem dX10_init_114 : decode cX10_init 114 = .ok (.aload_n 0, 1) := by decide +kernel
theorem dX10_init_115 : decode cX10_init 115 = .ok (.getfield 9, 3) := by decide +kernel
theorem dX10_init_118 : decode cX10_init 118 = .ok (.iconst 5, 1) := by decide +kernel
theorem dX10_init_119 : decode cX10_init 119 = .ok (.bipush 9, 2) := by decide +kernel
theorem dX10_init_121 : decode cX10_init 121 = .ok (.iastore, 1) := by decide +kernel
theorem dX10_init_122 : decode cX10_init 122 = .ok (.iconst 0, 1) := by decide +kernel
theorem dX10_init_123 : decode cX10_init 123 = .ok (.istore_n 1, 1) := by decide +kernel
theorem dX10_init_124 : decode cX10_init 124 = .ok (.iload_n 1, 1) := by decide +kernel
theorem dX10_init_125 : decode cX10_init 125 = .ok (.iconst 4, 1) := by decide +kernel
theorem dX10_init_126 : decode cX10_init 126 = .ok (.if_icmp .ge 16, 3) := by decide +kernel
theorem dX10_init_129 : decode cX10_init 129 = .ok (.aload_n 0, 1) := by decide +kernel
theorem dX10_init_130 : decode cX10_init 130 = .ok (.getfield 34, 3) := by decide +kernel
theorem dX10_init_133 : decode cX10_init 133 = .ok (.iload_n 1, 1) := by decide +kernel
theorem dX10_init_134 : decode cX10_init 134 = .ok (.iconst (-1), 1) := by decide +kernel
theorem dX10_init_135 : decode cX10_init 135 = .ok (.iastore, 1) := by decide +kernel
theorem dX10_init_136 : decode cX10_init 136 = .ok (.iinc 1 1, 3) := by decide +kernel
theorem dX10_init_139 : decode cX10_init 139 = .ok (.goto (-15), 3) := by decide +kernel
theorem dX10_init_142 : decode cX10_init 142 = .ok (.return_, 1) := by decide +kernel
theorem dX10_isIn_0 : decode cX10_isIn 0 = .ok (.iload_n 0, 1) := by decide +kernel
theorem dX10_isIn_1 : decode cX10_isIn 1 = .ok (.iload_n 1, 1) := by decide +kernel
theorem dX10_isIn_2 : decode cX10_isIn 2 = .ok (.if_icmp .lt 12, 3) := by decide +kernel
theorem dX10_isIn_5 : decode cX10_isIn 5 = .ok (.iload_n 0, 1) := by decide +kernel
theorem dX10_isIn_6 : decode cX10_isIn 6 = .ok (.iload_n 2, 1) := by decide +kernel
theorem dX10_isIn_7 : decode cX10_isIn 7 = .ok (.if_icmp .gt 7, 3) := by decide +kernel
theorem dX10_isIn_10 : decode cX10_isIn 10 = .ok (.iconst 1, 1) := by decide +kernel
theorem dX10_isIn_11 : decode cX10_isIn 11 = .ok (.goto 4, 3) := by decide +kernel
theorem dX10_isIn_14 : decode cX10_isIn 14 = .ok (.iconst 0, 1) := by decide +kernel
theorem dX10_isIn_15 : decode cX10_isIn 15 = .ok (.ireturn, 1) := by decide +kernel
theorem dX10_isByte_0 : decode cX10_isByte 0 = .ok (.iload_n 0, 1) := by decide +kernel
theorem dX10_isByte_1 : decode cX10_isByte 1 = .ok (.iconst 0, 1) := by decide +kernel
theorem dX10_isByte_2 : decode cX10_isByte 2 = .ok (.sipush 255, 3) := by decide +kernel
theorem dX10_isByte_5 : decode cX10_isByte 5 = .ok (.invokestatic 43, 3) := by decide +kernel
theorem dX10_isByte_8 : decode cX10_isByte 8 = .ok (.ireturn, 1) := by decide +kernel
theorem dX10_isLayer_0 : decode cX10_isLayer 0 = .ok (.iload_n 1, 1) := by decide +kernel
theorem dX10_isLayer_1 : decode cX10_isLayer 1 = .ok (.iconst 0, 1) := by decide +kernel
theorem dX10_isLayer_2 : decode cX10_isLayer 2 = .ok (.aload_n 0, 1) := by decide +kernel
theorem dX10_isLayer_3 : decode cX10_isLayer 3 = .ok (.getfield 9, 3) := by decide +kernel
theorem dX10_isLayer_6 : decode cX10_isLayer 6 = .ok (.iconst 0, 1) := by decide +kernel
theorem dX10_isLayer_7 : decode cX10_isLayer 7 = .ok (.iaload, 1) := by decide +kernel
theorem dX10_isLayer_8 : decode cX10_isLayer 8 = .ok (.iconst 1, 1) := by decide +kernel
theorem dX10_isLayer_9 : decode cX10_isLayer 9 = .ok (.isub, 1) := by decide +kernel
theorem dX10_isLayer_10 : decode cX10_isLayer 10 = .ok (.invokestatic 43, 3) := by decide +kernel
theorem dX10_isLayer_13 : decode cX10_isLayer 13 = .ok (.ireturn, 1) := by decide +kernel
theorem dX10_isDot_0 : decode cX10_isDot 0 = .ok (.iload_n 0, 1) := by decide +kernel
theorem dX10_isDot_1 : decode cX10_isDot 1 = .ok (.iconst 0, 1) := by decide +kernel
theorem dX10_isDot_2 : decode cX10_isDot 2 = .ok (.bipush 15, 2) := by decide +kernel
theorem dX10_isDot_4 : decode cX10_isDot 4 = .ok (.invokestatic 43, 3) := by decide +kernel
theorem dX10_isDot_7 : decode cX10_isDot 7 = .ok (.ifCond .eq 17, 3) := by decide +kernel
theorem dX10_isDot_10 : decode cX10_isDot 10 = .ok (.iload_n 1, 1) := by decide +kernel
theorem dX10_isDot_11 : decode cX10_isDot 11 = .ok (.iconst 0, 1) := by decide +kernel
theorem dX10_isDot_12 : decode cX10_isDot 12 = .ok (.bipush 11, 2) := by decide +kernel
theorem dX10_isDot_14 : decode cX10_isDot 14 = .ok (.invokestatic 43, 3) := by decide +kernel
theorem dX10_isDot_17 : decode cX10_isDot 17 = .ok (.ifCond .eq 7, 3) := by decide +kernel
theorem dX10_isDot_20 : decode cX10_isDot 20 = .ok (.iconst 1, 1) := by decide +kernel
theorem dX10_isDot_21 : decode cX10_isDot 21 = .ok (.goto 4, 3) := by decide +kernel
theorem dX10_isDot_24 : decode cX10_isDot 24 = .ok (.iconst 0, 1) := by decide +kernel
theorem dX10_isDot_25 : decode cX10_isDot 25 = .ok (.ireturn, 1) := by decide +kernel
theorem dX10_dotOf_0 : decode cX10_dotOf 0 = .ok (.bipush 16, 2) := by decide +kernel
theorem dX10_dotOf_2 : decode cX10_dotOf 2 = .ok (.iload_n 1, 1) := by decide +kernel
theorem dX10_dotOf_3 : decode cX10_dotOf 3 = .ok (.imul, 1) := by decide +kernel
theorem dX10_dotOf_4 : decode cX10_dotOf 4 = .ok (.iload_n 0, 1) := by decide +kernel
theorem dX10_dotOf_5 : decode cX10_dotOf 5 = .ok (.iadd, 1) := by decide +kernel
theorem dX10_dotOf_6 : decode cX10_dotOf 6 = .ok (.ireturn, 1) := by decide +kernel
theorem dX10_blended_0 : decode cX10_blended 0 = .ok (.iload_n 0, 1) := by decide +kernel
theorem dX10_blended_1 : decode cX10_blended 1 = .ok (.tableswitch 120 1 5 #[35, 43, 63, 77, 105], 35) := by decide +kernel
theorem dX10_blended_36 : decode cX10_blended 36 = .ok (.iload_n 2, 1) := by decide +kernel
theorem dX10_blended_37 : decode cX10_blended 37 = .ok (.iload_n 3, 1) := by decide +kernel
theorem dX10_blended_38 : decode cX10_blended 38 = .ok (.imul, 1) := by decide +kernel
theorem dX10_blended_39 : decode cX10_blended 39 = .ok (.sipush 255, 3) := by decide +kernel
theorem dX10_blended_42 : decode cX10_blended 42 = .ok (.idiv, 1) := by decide +kernel
theorem dX10_blended_43 : decode cX10_blended 43 = .ok (.ireturn, 1) := by decide +kernel
theorem dX10_blended_44 : decode cX10_blended 44 = .ok (.sipush 255, 3) := by decide +kernel
theorem dX10_blended_47 : decode cX10_blended 47 = .ok (.sipush 255, 3) := by decide +kernel
theorem dX10_blended_50 : decode cX10_blended 50 = .ok (.iload_n 2, 1) := by decide +kernel
theorem dX10_blended_51 : decode cX10_blended 51 = .ok (.isub, 1) := by decide +kernel
theorem dX10_blended_52 : decode cX10_blended 52 = .ok (.sipush 255, 3) := by decide +kernel
theorem dX10_blended_55 : decode cX10_blended 55 = .ok (.iload_n 3, 1) := by decide +kernel
theorem dX10_blended_56 : decode cX10_blended 56 = .ok (.isub, 1) := by decide +kernel
theorem dX10_blended_57 : decode cX10_blended 57 = .ok (.imul, 1) := by decide +kernel
theorem dX10_blended_58 : decode cX10_blended 58 = .ok (.sipush 255, 3) := by decide +kernel
theorem dX10_blended_61 : decode cX10_blended 61 = .ok (.idiv, 1) := by decide +kernel
theorem dX10_blended_62 : decode cX10_blended 62 = .ok (.isub, 1) := by decide +kernel
theorem dX10_blended_63 : decode cX10_blended 63 = .ok (.ireturn, 1) := by decide +kernel
theorem dX10_blended_64 : decode cX10_blended 64 = .ok (.iconst 0, 1) := by decide +kernel
theorem dX10_blended_65 : decode cX10_blended 65 = .ok (.iload_n 2, 1) := by decide +kernel
theorem dX10_blended_66 : decode cX10_blended 66 = .ok (.iload_n 3, 1) := by decide +kernel
theorem dX10_blended_67 : decode cX10_blended 67 = .ok (.imul, 1) := by decide +kernel
theorem dX10_blended_68 : decode cX10_blended 68 = .ok (.sipush 255, 3) := by decide +kernel
theorem dX10_blended_71 : decode cX10_blended 71 = .ok (.idiv, 1) := by decide +kernel
theorem dX10_blended_72 : decode cX10_blended 72 = .ok (.iload_n 1, 1) := by decide +kernel
theorem dX10_blended_73 : decode cX10_blended 73 = .ok (.isub, 1) := by decide +kernel
theorem dX10_blended_74 : decode cX10_blended 74 = .ok (.invokestatic 47, 3) := by decide +kernel
theorem dX10_blended_77 : decode cX10_blended 77 = .ok (.ireturn, 1) := by decide +kernel
theorem dX10_blended_78 : decode cX10_blended 78 = .ok (.sipush 255, 3) := by decide +kernel
theorem dX10_blended_81 : decode cX10_blended 81 = .ok (.sipush 255, 3) := by decide +kernel
theorem dX10_blended_84 : decode cX10_blended 84 = .ok (.sipush 255, 3) := by decide +kernel
theorem dX10_blended_87 : decode cX10_blended 87 = .ok (.iload_n 2, 1) := by decide +kernel
theorem dX10_blended_88 : decode cX10_blended 88 = .ok (.isub, 1) := by decide +kernel
theorem dX10_blended_89 : decode cX10_blended 89 = .ok (.sipush 255, 3) := by decide +kernel
theorem dX10_blended_92 : decode cX10_blended 92 = .ok (.iload_n 3, 1) := by decide +kernel
theorem dX10_blended_93 : decode cX10_blended 93 = .ok (.isub, 1) := by decide +kernel
theorem dX10_blended_94 : decode cX10_blended 94 = .ok (.imul, 1) := by decide +kernel
theorem dX10_blended_95 : decode cX10_blended 95 = .ok (.sipush 255, 3) := by decide +kernel
theorem dX10_blended_98 : decode cX10_blended 98 = .ok (.idiv, 1) := by decide +kernel
theorem dX10_blended_99 : decode cX10_blended 99 = .ok (.isub, 1) := by decide +kernel
theorem dX10_blended_100 : decode cX10_blended 100 = .ok (.iload_n 1, 1) := by decide +kernel
theorem dX10_blended_101 : decode cX10_blended 101 = .ok (.iadd, 1) := by decide +kernel
theorem dX10_blended_102 : decode cX10_blended 102 = .ok (.invokestatic 53, 3) := by decide +kernel
theorem dX10_blended_105 : decode cX10_blended 105 = .ok (.ireturn, 1) := by decide +kernel
theorem dX10_blended_106 : decode cX10_blended 106 = .ok (.iload_n 2, 1) := by decide +kernel
theorem dX10_blended_107 : decode cX10_blended 107 = .ok (.iload_n 3, 1) := by decide +kernel
theorem dX10_blended_108 : decode cX10_blended 108 = .ok (.if_icmp .ge 9, 3) := by decide +kernel
theorem dX10_blended_111 : decode cX10_blended 111 = .ok (.iload_n 3, 1) := by decide +kernel
theorem dX10_blended_112 : decode cX10_blended 112 = .ok (.iload_n 2, 1) := by decide +kernel
theorem dX10_blended_113 : decode cX10_blended 113 = .ok (.isub, 1) := by decide +kernel
theorem dX10_blended_114 : decode cX10_blended 114 = .ok (.goto 6, 3) := by decide +kernel
theorem dX10_blended_117 : decode cX10_blended 117 = .ok (.iload_n 2, 1) := by decide +kernel
theorem dX10_blended_118 : decode cX10_blended 118 = .ok (.iload_n 3, 1) := by decide +kernel
theorem dX10_blended_119 : decode cX10_blended 119 = .ok (.isub, 1) := by decide +kernel
theorem dX10_blended_120 : decode cX10_blended 120 = .ok (.ireturn, 1) := by decide +kernel
theorem dX10_blended_121 : decode cX10_blended 121 = .ok (.iload_n 3, 1) := by decide +kernel
theorem dX10_blended_122 : decode cX10_blended 122 = .ok (.ireturn, 1) := by decide +kernel
theorem dX10_seen_0 : decode cX10_seen 0 = .ok (.iload_n 2, 1) := by decide +kernel
theorem dX10_seen_1 : decode cX10_seen 1 = .ok (.istore 5, 2) := by decide +kernel
theorem dX10_seen_3 : decode cX10_seen 3 = .ok (.iconst 0, 1) := by decide +kernel
theorem dX10_seen_4 : decode cX10_seen 4 = .ok (.istore 6, 2) := by decide +kernel
theorem dX10_seen_6 : decode cX10_seen 6 = .ok (.iload 6, 2) := by decide +kernel
theorem dX10_seen_8 : decode cX10_seen 8 = .ok (.aload_n 0, 1) := by decide +kernel
theorem dX10_seen_9 : decode cX10_seen 9 = .ok (.getfield 9, 3) := by decide +kernel
theorem dX10_seen_12 : decode cX10_seen 12 = .ok (.iconst 0, 1) := by decide +kernel
theorem dX10_seen_13 : decode cX10_seen 13 = .ok (.iaload, 1) := by decide +kernel
theorem dX10_seen_14 : decode cX10_seen 14 = .ok (.if_icmp .ge 114, 3) := by decide +kernel
theorem dX10_seen_17 : decode cX10_seen 17 = .ok (.aload_n 0, 1) := by decide +kernel
theorem dX10_seen_18 : decode cX10_seen 18 = .ok (.getfield 9, 3) := by decide +kernel
theorem dX10_seen_21 : decode cX10_seen 21 = .ok (.sipush 788, 3) := by decide +kernel
theorem dX10_seen_24 : decode cX10_seen 24 = .ok (.sipush 192, 3) := by decide +kernel
theorem dX10_seen_27 : decode cX10_seen 27 = .ok (.iload 6, 2) := by decide +kernel
theorem dX10_seen_29 : decode cX10_seen 29 = .ok (.imul, 1) := by decide +kernel
theorem dX10_seen_30 : decode cX10_seen 30 = .ok (.iadd, 1) := by decide +kernel
theorem dX10_seen_31 : decode cX10_seen 31 = .ok (.iload_n 1, 1) := by decide +kernel
theorem dX10_seen_32 : decode cX10_seen 32 = .ok (.iadd, 1) := by decide +kernel
theorem dX10_seen_33 : decode cX10_seen 33 = .ok (.iaload, 1) := by decide +kernel
theorem dX10_seen_34 : decode cX10_seen 34 = .ok (.aload_n 0, 1) := by decide +kernel
theorem dX10_seen_35 : decode cX10_seen 35 = .ok (.getfield 9, 3) := by decide +kernel
theorem dX10_seen_38 : decode cX10_seen 38 = .ok (.bipush 16, 2) := by decide +kernel
theorem dX10_seen_40 : decode cX10_seen 40 = .ok (.iload 6, 2) := by decide +kernel
theorem dX10_seen_42 : decode cX10_seen 42 = .ok (.iadd, 1) := by decide +kernel
theorem dX10_seen_43 : decode cX10_seen 43 = .ok (.iaload, 1) := by decide +kernel
theorem dX10_seen_44 : decode cX10_seen 44 = .ok (.imul, 1) := by decide +kernel
theorem dX10_seen_45 : decode cX10_seen 45 = .ok (.sipush 255, 3) := by decide +kernel
theorem dX10_seen_48 : decode cX10_seen 48 = .ok (.idiv, 1) := by decide +kernel
theorem dX10_seen_49 : decode cX10_seen 49 = .ok (.istore 7, 2) := by decide +kernel
theorem dX10_seen_51 : decode cX10_seen 51 = .ok (.iload 6, 2) := by decide +kernel
theorem dX10_seen_53 : decode cX10_seen 53 = .ok (.iload_n 3, 1) := by decide +kernel
theorem dX10_seen_54 : decode cX10_seen 54 = .ok (.if_icmp .ne 8, 3) := by decide +kernel
theorem dX10_seen_57 : decode cX10_seen 57 = .ok (.iload 4, 2) := by decide +kernel
theorem dX10_seen_59 : decode cX10_seen 59 = .ok (.goto 13, 3) := by decide +kernel
theorem dX10_seen_62 : decode cX10_seen 62 = .ok (.aload_n 0, 1) := by decide +kernel
theorem dX10_seen_63 : decode cX10_seen 63 = .ok (.getfield 9, 3) := by decide +kernel
theorem dX10_seen_66 : decode cX10_seen 66 = .ok (.bipush 8, 2) := by decide +kernel
theorem dX10_seen_68 : decode cX10_seen 68 = .ok (.iload 6, 2) := by decide +kernel
theorem dX10_seen_70 : decode cX10_seen 70 = .ok (.iadd, 1) := by decide +kernel
theorem dX10_seen_71 : decode cX10_seen 71 = .ok (.iaload, 1) := by decide +kernel
theorem dX10_seen_72 : decode cX10_seen 72 = .ok (.aload_n 0, 1) := by decide +kernel
theorem dX10_seen_73 : decode cX10_seen 73 = .ok (.getfield 9, 3) := by decide +kernel
theorem dX10_seen_76 : decode cX10_seen 76 = .ok (.bipush 12, 2) := by decide +kernel
theorem dX10_seen_78 : decode cX10_seen 78 = .ok (.iload 6, 2) := by decide +kernel
theorem dX10_seen_80 : decode cX10_seen 80 = .ok (.iadd, 1) := by decide +kernel
theorem dX10_seen_81 : decode cX10_seen 81 = .ok (.iaload, 1) := by decide +kernel
theorem dX10_seen_82 : decode cX10_seen 82 = .ok (.iload 5, 2) := by decide +kernel
theorem dX10_seen_84 : decode cX10_seen 84 = .ok (.aload_n 0, 1) := by decide +kernel
theorem dX10_seen_85 : decode cX10_seen 85 = .ok (.getfield 9, 3) := by decide +kernel
theorem dX10_seen_88 : decode cX10_seen 88 = .ok (.bipush 20, 2) := by decide +kernel
theorem dX10_seen_90 : decode cX10_seen 90 = .ok (.sipush 192, 3) := by decide +kernel
theorem dX10_seen_93 : decode cX10_seen 93 = .ok (.iload 6, 2) := by decide +kernel
theorem dX10_seen_95 : decode cX10_seen 95 = .ok (.imul, 1) := by decide +kernel
theorem dX10_seen_96 : decode cX10_seen 96 = .ok (.iadd, 1) := by decide +kernel
theorem dX10_seen_97 : decode cX10_seen 97 = .ok (.iload_n 1, 1) := by decide +kernel
theorem dX10_seen_98 : decode cX10_seen 98 = .ok (.iadd, 1) := by decide +kernel
theorem dX10_seen_99 : decode cX10_seen 99 = .ok (.iaload, 1) := by decide +kernel
theorem dX10_seen_100 : decode cX10_seen 100 = .ok (.invokestatic 56, 3) := by decide +kernel
theorem dX10_seen_103 : decode cX10_seen 103 = .ok (.istore 8, 2) := by decide +kernel
theorem dX10_seen_105 : decode cX10_seen 105 = .ok (.iload 5, 2) := by decide +kernel
theorem dX10_seen_107 : decode cX10_seen 107 = .ok (.iload 8, 2) := by decide +kernel
theorem dX10_seen_109 : decode cX10_seen 109 = .ok (.iload 5, 2) := by decide +kernel
theorem dX10_seen_111 : decode cX10_seen 111 = .ok (.isub, 1) := by decide +kernel
theorem dX10_seen_112 : decode cX10_seen 112 = .ok (.iload 7, 2) := by decide +kernel
theorem dX10_seen_114 : decode cX10_seen 114 = .ok (.imul, 1) := by decide +kernel
theorem dX10_seen_115 : decode cX10_seen 115 = .ok (.sipush 255, 3) := by decide +kernel
theorem dX10_seen_118 : decode cX10_seen 118 = .ok (.idiv, 1) := by decide +kernel
theorem dX10_seen_119 : decode cX10_seen 119 = .ok (.iadd, 1) := by decide +kernel
theorem dX10_seen_120 : decode cX10_seen 120 = .ok (.istore 5, 2) := by decide +kernel
theorem dX10_seen_122 : decode cX10_seen 122 = .ok (.iinc 6 1, 3) := by decide +kernel
theorem dX10_seen_125 : decode cX10_seen 125 = .ok (.goto (-119), 3) := by decide +kernel
theorem dX10_seen_128 : decode cX10_seen 128 = .ok (.iload 5, 2) := by decide +kernel
theorem dX10_seen_130 : decode cX10_seen 130 = .ok (.ireturn, 1) := by decide +kernel
theorem dX10_seen__0 : decode cX10_seen_ 0 = .ok (.aload_n 0, 1) := by decide +kernel
theorem dX10_seen__1 : decode cX10_seen_ 1 = .ok (.iload_n 1, 1) := by decide +kernel
theorem dX10_seen__2 : decode cX10_seen_ 2 = .ok (.aload_n 0, 1) := by decide +kernel
theorem dX10_seen__3 : decode cX10_seen_ 3 = .ok (.getfield 9, 3) := by decide +kernel
theorem dX10_seen__6 : decode cX10_seen_ 6 = .ok (.iconst 1, 1) := by decide +kernel
theorem dX10_seen__7 : decode cX10_seen_ 7 = .ok (.iaload, 1) := by decide +kernel
theorem dX10_seen__8 : decode cX10_seen_ 8 = .ok (.iconst (-1), 1) := by decide +kernel
theorem dX10_seen__9 : decode cX10_seen_ 9 = .ok (.iconst 0, 1) := by decide +kernel
theorem dX10_seen__10 : decode cX10_seen_ 10 = .ok (.invokevirtual 60, 3) := by decide +kernel
theorem dX10_seen__13 : decode cX10_seen_ 13 = .ok (.ireturn, 1) := by decide +kernel
theorem dX10_isDress_0 : decode cX10_isDress 0 = .ok (.iload_n 0, 1) := by decide +kernel
theorem dX10_isDress_1 : decode cX10_isDress 1 = .ok (.iconst 0, 1) := by decide +kernel
theorem dX10_isDress_2 : decode cX10_isDress 2 = .ok (.iconst 5, 1) := by decide +kernel
theorem dX10_isDress_3 : decode cX10_isDress 3 = .ok (.invokestatic 43, 3) := by decide +kernel
theorem dX10_isDress_6 : decode cX10_isDress 6 = .ok (.ifCond .eq 24, 3) := by decide +kernel
theorem dX10_isDress_9 : decode cX10_isDress 9 = .ok (.iload_n 1, 1) := by decide +kernel
theorem dX10_isDress_10 : decode cX10_isDress 10 = .ok (.iconst 0, 1) := by decide +kernel
theorem dX10_isDress_11 : decode cX10_isDress 11 = .ok (.bipush 99, 2) := by decide +kernel
theorem dX10_isDress_13 : decode cX10_isDress 13 = .ok (.invokestatic 43, 3) := by decide +kernel
theorem dX10_isDress_16 : decode cX10_isDress 16 = .ok (.ifCond .eq 14, 3) := by decide +kernel
theorem dX10_isDress_19 : decode cX10_isDress 19 = .ok (.iload_n 2, 1) := by decide +kernel
theorem dX10_isDress_20 : decode cX10_isDress 20 = .ok (.invokestatic 63, 3) := by decide +kernel
theorem dX10_isDress_23 : decode cX10_isDress 23 = .ok (.ifCond .eq 7, 3) := by decide +kernel
theorem dX10_isDress_26 : decode cX10_isDress 26 = .ok (.iconst 1, 1) := by decide +kernel
theorem dX10_isDress_27 : decode cX10_isDress 27 = .ok (.goto 4, 3) := by decide +kernel
theorem dX10_isDress_30 : decode cX10_isDress 30 = .ok (.iconst 0, 1) := by decide +kernel
theorem dX10_isDress_31 : decode cX10_isDress 31 = .ok (.ireturn, 1) := by decide +kernel
theorem dX10_noActs_0 : decode cX10_noActs 0 = .ok (.aload_n 0, 1) := by decide +kernel
theorem dX10_noActs_1 : decode cX10_noActs 1 = .ok (.getfield 9, 3) := by decide +kernel
theorem dX10_noActs_4 : decode cX10_noActs 4 = .ok (.bipush 6, 2) := by decide +kernel
theorem dX10_noActs_6 : decode cX10_noActs 6 = .ok (.iconst 0, 1) := by decide +kernel
theorem dX10_noActs_7 : decode cX10_noActs 7 = .ok (.iastore, 1) := by decide +kernel
theorem dX10_noActs_8 : decode cX10_noActs 8 = .ok (.aload_n 0, 1) := by decide +kernel
theorem dX10_noActs_9 : decode cX10_noActs 9 = .ok (.getfield 9, 3) := by decide +kernel
theorem dX10_noActs_12 : decode cX10_noActs 12 = .ok (.bipush 7, 2) := by decide +kernel
theorem dX10_noActs_14 : decode cX10_noActs 14 = .ok (.iconst 0, 1) := by decide +kernel
theorem dX10_noActs_15 : decode cX10_noActs 15 = .ok (.iastore, 1) := by decide +kernel
theorem dX10_noActs_16 : decode cX10_noActs 16 = .ok (.return_, 1) := by decide +kernel
theorem dX10_layer_0 : decode cX10_layer 0 = .ok (.iload_n 1, 1) := by decide +kernel
theorem dX10_layer_1 : decode cX10_layer 1 = .ok (.iload_n 2, 1) := by decide +kernel
theorem dX10_layer_2 : decode cX10_layer 2 = .ok (.iload_n 3, 1) := by decide +kernel
theorem dX10_layer_3 : decode cX10_layer 3 = .ok (.invokestatic 67, 3) := by decide +kernel
theorem dX10_layer_6 : decode cX10_layer 6 = .ok (.ifCond .ne 6, 3) := by decide +kernel
theorem dX10_layer_9 : decode cX10_layer 9 = .ok (.bipush (-2), 2) := by decide +kernel
theorem dX10_layer_11 : decode cX10_layer 11 = .ok (.ireturn, 1) := by decide +kernel
theorem dX10_layer_12 : decode cX10_layer 12 = .ok (.aload_n 0, 1) := by decide +kernel
theorem dX10_layer_13 : decode cX10_layer 13 = .ok (.getfield 9, 3) := by decide +kernel
theorem dX10_layer_16 : decode cX10_layer 16 = .ok (.iconst 0, 1) := by decide +kernel
theorem dX10_layer_17 : decode cX10_layer 17 = .ok (.iaload, 1) := by decide +kernel
theorem dX10_layer_18 : decode cX10_layer 18 = .ok (.istore 4, 2) := by decide +kernel
theorem dX10_layer_20 : decode cX10_layer 20 = .ok (.iload 4, 2) := by decide +kernel
theorem dX10_layer_22 : decode cX10_layer 22 = .ok (.iconst 4, 1) := by decide +kernel
theorem dX10_layer_23 : decode cX10_layer 23 = .ok (.if_icmp .ne 6, 3) := by decide +kernel
theorem dX10_layer_26 : decode cX10_layer 26 = .ok (.bipush (-4), 2) := by decide +kernel
theorem dX10_layer_28 : decode cX10_layer 28 = .ok (.ireturn, 1) := by decide +kernel
theorem dX10_layer_29 : decode cX10_layer 29 = .ok (.aload_n 0, 1) := by decide +kernel
theorem dX10_layer_30 : decode cX10_layer 30 = .ok (.getfield 9, 3) := by decide +kernel
theorem dX10_layer_33 : decode cX10_layer 33 = .ok (.bipush 8, 2) := by decide +kernel
theorem dX10_layer_35 : decode cX10_layer 35 = .ok (.iload 4, 2) := by decide +kernel
theorem dX10_layer_37 : decode cX10_layer 37 = .ok (.iadd, 1) := by decide +kernel
theorem dX10_layer_38 : decode cX10_layer 38 = .ok (.iload_n 1, 1) := by decide +kernel
theorem dX10_layer_39 : decode cX10_layer 39 = .ok (.iastore, 1) := by decide +kernel
theorem dX10_layer_40 : decode cX10_layer 40 = .ok (.aload_n 0, 1) := by decide +kernel
theorem dX10_layer_41 : decode cX10_layer 41 = .ok (.getfield 9, 3) := by decide +kernel
theorem dX10_layer_44 : decode cX10_layer 44 = .ok (.bipush 12, 2) := by decide +kernel
theorem dX10_layer_46 : decode cX10_layer 46 = .ok (.iload 4, 2) := by decide +kernel
theorem dX10_layer_48 : decode cX10_layer 48 = .ok (.iadd, 1) := by decide +kernel
theorem dX10_layer_49 : decode cX10_layer 49 = .ok (.iload_n 2, 1) := by decide +kernel
theorem dX10_layer_50 : decode cX10_layer 50 = .ok (.iastore, 1) := by decide +kernel
theorem dX10_layer_51 : decode cX10_layer 51 = .ok (.aload_n 0, 1) := by decide +kernel
theorem dX10_layer_52 : decode cX10_layer 52 = .ok (.getfield 9, 3) := by decide +kernel
theorem dX10_layer_55 : decode cX10_layer 55 = .ok (.bipush 16, 2) := by decide +kernel
theorem dX10_layer_57 : decode cX10_layer 57 = .ok (.iload 4, 2) := by decide +kernel
theorem dX10_layer_59 : decode cX10_layer 59 = .ok (.iadd, 1) := by decide +kernel
theorem dX10_layer_60 : decode cX10_layer 60 = .ok (.iload_n 3, 1) := by decide +kernel
theorem dX10_layer_61 : decode cX10_layer 61 = .ok (.iastore, 1) := by decide +kernel
theorem dX10_layer_62 : decode cX10_layer 62 = .ok (.iconst 0, 1) := by decide +kernel
theorem dX10_layer_63 : decode cX10_layer 63 = .ok (.istore 5, 2) := by decide +kernel
theorem dX10_layer_65 : decode cX10_layer 65 = .ok (.iload 5, 2) := by decide +kernel
theorem dX10_layer_67 : decode cX10_layer 67 = .ok (.sipush 192, 3) := by decide +kernel
theorem dX10_layer_70 : decode cX10_layer 70 = .ok (.if_icmp .ge 46, 3) := by decide +kernel
theorem dX10_layer_73 : decode cX10_layer 73 = .ok (.aload_n 0, 1) := by decide +kernel
theorem dX10_layer_74 : decode cX10_layer 74 = .ok (.getfield 9, 3) := by decide +kernel
theorem dX10_layer_77 : decode cX10_layer 77 = .ok (.bipush 20, 2) := by decide +kernel
theorem dX10_layer_79 : decode cX10_layer 79 = .ok (.sipush 192, 3) := by decide +kernel
theorem dX10_layer_82 : decode cX10_layer 82 = .ok (.iload 4, 2) := by decide +kernel
theorem dX10_layer_84 : decode cX10_layer 84 = .ok (.imul, 1) := by decide +kernel
theorem dX10_layer_85 : decode cX10_layer 85 = .ok (.iadd, 1) := by decide +kernel
theorem dX10_layer_86 : decode cX10_layer 86 = .ok (.iload 5, 2) := by decide +kernel
theorem dX10_layer_88 : decode cX10_layer 88 = .ok (.iadd, 1) := by decide +kernel
theorem dX10_layer_89 : decode cX10_layer 89 = .ok (.iconst 0, 1) := by decide +kernel
theorem dX10_layer_90 : decode cX10_layer 90 = .ok (.iastore, 1) := by decide +kernel
theorem dX10_layer_91 : decode cX10_layer 91 = .ok (.aload_n 0, 1) := by decide +kernel
theorem dX10_layer_92 : decode cX10_layer 92 = .ok (.getfield 9, 3) := by decide +kernel
theorem dX10_layer_95 : decode cX10_layer 95 = .ok (.sipush 788, 3) := by decide +kernel
theorem dX10_layer_98 : decode cX10_layer 98 = .ok (.sipush 192, 3) := by decide +kernel
theorem dX10_layer_101 : decode cX10_layer 101 = .ok (.iload 4, 2) := by decide +kernel
theorem dX10_layer_103 : decode cX10_layer 103 = .ok (.imul, 1) := by decide +kernel
theorem dX10_layer_104 : decode cX10_layer 104 = .ok (.iadd, 1) := by decide +kernel
theorem dX10_layer_105 : decode cX10_layer 105 = .ok (.iload 5, 2) := by decide +kernel
theorem dX10_layer_107 : decode cX10_layer 107 = .ok (.iadd, 1) := by decide +kernel
theorem dX10_layer_108 : decode cX10_layer 108 = .ok (.iconst 0, 1) := by decide +kernel
theorem dX10_layer_109 : decode cX10_layer 109 = .ok (.iastore, 1) := by decide +kernel
theorem dX10_layer_110 : decode cX10_layer 110 = .ok (.iinc 5 1, 3) := by decide +kernel
theorem dX10_layer_113 : decode cX10_layer 113 = .ok (.goto (-48), 3) := by decide +kernel
theorem dX10_layer_116 : decode cX10_layer 116 = .ok (.aload_n 0, 1) := by decide +kernel
theorem dX10_layer_117 : decode cX10_layer 117 = .ok (.getfield 9, 3) := by decide +kernel
theorem dX10_layer_120 : decode cX10_layer 120 = .ok (.iconst 0, 1) := by decide +kernel
theorem dX10_layer_121 : decode cX10_layer 121 = .ok (.dup2, 1) := by decide +kernel
theorem dX10_layer_122 : decode cX10_layer 122 = .ok (.iaload, 1) := by decide +kernel
theorem dX10_layer_123 : decode cX10_layer 123 = .ok (.iconst 1, 1) := by decide +kernel
theorem dX10_layer_124 : decode cX10_layer 124 = .ok (.iadd, 1) := by decide +kernel
theorem dX10_layer_125 : decode cX10_layer 125 = .ok (.iastore, 1) := by decide +kernel
theorem dX10_layer_126 : decode cX10_layer 126 = .ok (.aload_n 0, 1) := by decide +kernel
theorem dX10_layer_127 : decode cX10_layer 127 = .ok (.invokevirtual 70, 3) := by decide +kernel
theorem dX10_layer_130 : decode cX10_layer 130 = .ok (.iload 4, 2) := by decide +kernel
theorem dX10_layer_132 : decode cX10_layer 132 = .ok (.ireturn, 1) := by decide +kernel
theorem dX10_swapsOne_0 : decode cX10_swapsOne 0 = .ok (.aload_n 0, 1) := by decide +kernel
theorem dX10_swapsOne_1 : decode cX10_swapsOne 1 = .ok (.getfield 9, 3) := by decide +kernel
theorem dX10_swapsOne_4 : decode cX10_swapsOne 4 = .ok (.iload_n 1, 1) := by decide +kernel
theorem dX10_swapsOne_5 : decode cX10_swapsOne 5 = .ok (.iaload, 1) := by decide +kernel
theorem dX10_swapsOne_6 : decode cX10_swapsOne 6 = .ok (.istore_n 3, 1) := by decide +kernel
theorem dX10_swapsOne_7 : decode cX10_swapsOne 7 = .ok (.aload_n 0, 1) := by decide +kernel
theorem dX10_swapsOne_8 : decode cX10_swapsOne 8 = .ok (.getfield 9, 3) := by decide +kernel
theorem dX10_swapsOne_11 : decode cX10_swapsOne 11 = .ok (.iload_n 1, 1) := by decide +kernel
theorem dX10_swapsOne_12 : decode cX10_swapsOne 12 = .ok (.aload_n 0, 1) := by decide +kernel
theorem dX10_swapsOne_13 : decode cX10_swapsOne 13 = .ok (.getfield 9, 3) := by decide +kernel
theorem dX10_swapsOne_16 : decode cX10_swapsOne 16 = .ok (.iload_n 2, 1) := by decide +kernel
theorem dX10_swapsOne_17 : decode cX10_swapsOne 17 = .ok (.iaload, 1) := by decide +kernel
theorem dX10_swapsOne_18 : decode cX10_swapsOne 18 = .ok (.iastore, 1) := by decide +kernel
theorem dX10_swapsOne_19 : decode cX10_swapsOne 19 = .ok (.aload_n 0, 1) := by decide +kernel
theorem dX10_swapsOne_20 : decode cX10_swapsOne 20 = .ok (.getfield 9, 3) := by decide +kernel
theorem dX10_swapsOne_23 : decode cX10_swapsOne 23 = .ok (.iload_n 2, 1) := by decide +kernel
theorem dX10_swapsOne_24 : decode cX10_swapsOne 24 = .ok (.iload_n 3, 1) := by decide +kernel
theorem dX10_swapsOne_25 : decode cX10_swapsOne 25 = .ok (.iastore, 1) := by decide +kernel
theorem dX10_swapsOne_26 : decode cX10_swapsOne 26 = .ok (.return_, 1) := by decide +kernel
theorem dX10_swaps_0 : decode cX10_swaps 0 = .ok (.aload_n 0, 1) := by decide +kernel
theorem dX10_swaps_1 : decode cX10_swaps 1 = .ok (.bipush 8, 2) := by decide +kernel
theorem dX10_swaps_3 : decode cX10_swaps 3 = .ok (.iload_n 1, 1) := by decide +kernel
theorem dX10_swaps_4 : decode cX10_swaps 4 = .ok (.iadd, 1) := by decide +kernel
theorem dX10_swaps_5 : decode cX10_swaps 5 = .ok (.bipush 8, 2) := by decide +kernel
theorem dX10_swaps_7 : decode cX10_swaps 7 = .ok (.iload_n 2, 1) := by decide +kernel
theorem dX10_swaps_8 : decode cX10_swaps 8 = .ok (.iadd, 1) := by decide +kernel
theorem dX10_swaps_9 : decode cX10_swaps 9 = .ok (.invokevirtual 73, 3) := by decide +kernel
theorem dX10_swaps_12 : decode cX10_swaps 12 = .ok (.aload_n 0, 1) := by decide +kernel
theorem dX10_swaps_13 : decode cX10_swaps 13 = .ok (.bipush 12, 2) := by decide +kernel
theorem dX10_swaps_15 : decode cX10_swaps 15 = .ok (.iload_n 1, 1) := by decide +kernel
theorem dX10_swaps_16 : decode cX10_swaps 16 = .ok (.iadd, 1) := by decide +kernel
theorem dX10_swaps_17 : decode cX10_swaps 17 = .ok (.bipush 12, 2) := by decide +kernel
theorem dX10_swaps_19 : decode cX10_swaps 19 = .ok (.iload_n 2, 1) := by decide +kernel
theorem dX10_swaps_20 : decode cX10_swaps 20 = .ok (.iadd, 1) := by decide +kernel
theorem dX10_swaps_21 : decode cX10_swaps 21 = .ok (.invokevirtual 73, 3) := by decide +kernel
theorem dX10_swaps_24 : decode cX10_swaps 24 = .ok (.aload_n 0, 1) := by decide +kernel
theorem dX10_swaps_25 : decode cX10_swaps 25 = .ok (.bipush 16, 2) := by decide +kernel
theorem dX10_swaps_27 : decode cX10_swaps 27 = .ok (.iload_n 1, 1) := by decide +kernel
theorem dX10_swaps_28 : decode cX10_swaps 28 = .ok (.iadd, 1) := by decide +kernel
theorem dX10_swaps_29 : decode cX10_swaps 29 = .ok (.bipush 16, 2) := by decide +kernel
theorem dX10_swaps_31 : decode cX10_swaps 31 = .ok (.iload_n 2, 1) := by decide +kernel
theorem dX10_swaps_32 : decode cX10_swaps 32 = .ok (.iadd, 1) := by decide +kernel
theorem dX10_swaps_33 : decode cX10_swaps 33 = .ok (.invokevirtual 73, 3) := by decide +kernel
theorem dX10_swaps_36 : decode cX10_swaps 36 = .ok (.iconst 0, 1) := by decide +kernel
theorem dX10_swaps_37 : decode cX10_swaps 37 = .ok (.istore_n 3, 1) := by decide +kernel
theorem dX10_swaps_38 : decode cX10_swaps 38 = .ok (.iload_n 3, 1) := by decide +kernel
theorem dX10_swaps_39 : decode cX10_swaps 39 = .ok (.sipush 192, 3) := by decide +kernel
theorem dX10_swaps_42 : decode cX10_swaps 42 = .ok (.if_icmp .ge 59, 3) := by decide +kernel
theorem dX10_swaps_45 : decode cX10_swaps 45 = .ok (.aload_n 0, 1) := by decide +kernel
theorem dX10_swaps_46 : decode cX10_swaps 46 = .ok (.bipush 20, 2) := by decide +kernel
theorem dX10_swaps_48 : decode cX10_swaps 48 = .ok (.sipush 192, 3) := by decide +kernel
theorem dX10_swaps_51 : decode cX10_swaps 51 = .ok (.iload_n 1, 1) := by decide +kernel
theorem dX10_swaps_52 : decode cX10_swaps 52 = .ok (.imul, 1) := by decide +kernel
theorem dX10_swaps_53 : decode cX10_swaps 53 = .ok (.iadd, 1) := by decide +kernel
theorem dX10_swaps_54 : decode cX10_swaps 54 = .ok (.iload_n 3, 1) := by decide +kernel
theorem dX10_swaps_55 : decode cX10_swaps 55 = .ok (.iadd, 1) := by decide +kernel
theorem dX10_swaps_56 : decode cX10_swaps 56 = .ok (.bipush 20, 2) := by decide +kernel
theorem dX10_swaps_58 : decode cX10_swaps 58 = .ok (.sipush 192, 3) := by decide +kernel
theorem dX10_swaps_61 : decode cX10_swaps 61 = .ok (.iload_n 2, 1) := by decide +kernel
theorem dX10_swaps_62 : decode cX10_swaps 62 = .ok (.imul, 1) := by decide +kernel
theorem dX10_swaps_63 : decode cX10_swaps 63 = .ok (.iadd, 1) := by decide +kernel
theorem dX10_swaps_64 : decode cX10_swaps 64 = .ok (.iload_n 3, 1) := by decide +kernel
theorem dX10_swaps_65 : decode cX10_swaps 65 = .ok (.iadd, 1) := by decide +kernel
theorem dX10_swaps_66 : decode cX10_swaps 66 = .ok (.invokevirtual 73, 3) := by decide +kernel
theorem dX10_swaps_69 : decode cX10_swaps 69 = .ok (.aload_n 0, 1) := by decide +kernel
theorem dX10_swaps_70 : decode cX10_swaps 70 = .ok (.sipush 788, 3) := by decide +kernel
theorem dX10_swaps_73 : decode cX10_swaps 73 = .ok (.sipush 192, 3) := by decide +kernel
theorem dX10_swaps_76 : decode cX10_swaps 76 = .ok (.iload_n 1, 1) := by decide +kernel
theorem dX10_swaps_77 : decode cX10_swaps 77 = .ok (.imul, 1) := by decide +kernel
theorem dX10_swaps_78 : decode cX10_swaps 78 = .ok (.iadd, 1) := by decide +kernel
theorem dX10_swaps_79 : decode cX10_swaps 79 = .ok (.iload_n 3, 1) := by decide +kernel
theorem dX10_swaps_80 : decode cX10_swaps 80 = .ok (.iadd, 1) := by decide +kernel
theorem dX10_swaps_81 : decode cX10_swaps 81 = .ok (.sipush 788, 3) := by decide +kernel
theorem dX10_swaps_84 : decode cX10_swaps 84 = .ok (.sipush 192, 3) := by decide +kernel
theorem dX10_swaps_87 : decode cX10_swaps 87 = .ok (.iload_n 2, 1) := by decide +kernel
theorem dX10_swaps_88 : decode cX10_swaps 88 = .ok (.imul, 1) := by decide +kernel
theorem dX10_swaps_89 : decode cX10_swaps 89 = .ok (.iadd, 1) := by decide +kernel
theorem dX10_swaps_90 : decode cX10_swaps 90 = .ok (.iload_n 3, 1) := by decide +kernel
theorem dX10_swaps_91 : decode cX10_swaps 91 = .ok (.iadd, 1) := by decide +kernel
theorem dX10_swaps_92 : decode cX10_swaps 92 = .ok (.invokevirtual 73, 3) := by decide +kernel
theorem dX10_swaps_95 : decode cX10_swaps 95 = .ok (.iinc 3 1, 3) := by decide +kernel
theorem dX10_swaps_98 : decode cX10_swaps 98 = .ok (.goto (-60), 3) := by decide +kernel
theorem dX10_swaps_101 : decode cX10_swaps 101 = .ok (.return_, 1) := by decide +kernel
theorem dX10_goesTo_0 : decode cX10_goesTo 0 = .ok (.iload_n 1, 1) := by decide +kernel
theorem dX10_goesTo_1 : decode cX10_goesTo 1 = .ok (.istore_n 3, 1) := by decide +kernel
theorem dX10_goesTo_2 : decode cX10_goesTo 2 = .ok (.iload_n 3, 1) := by decide +kernel
theorem dX10_goesTo_3 : decode cX10_goesTo 3 = .ok (.iload_n 2, 1) := by decide +kernel
theorem dX10_goesTo_4 : decode cX10_goesTo 4 = .ok (.if_icmp .ge 17, 3) := by decide +kernel
theorem dX10_goesTo_7 : decode cX10_goesTo 7 = .ok (.aload_n 0, 1) := by decide +kernel
theorem dX10_goesTo_8 : decode cX10_goesTo 8 = .ok (.iload_n 3, 1) := by decide +kernel
theorem dX10_goesTo_9 : decode cX10_goesTo 9 = .ok (.iload_n 3, 1) := by decide +kernel
theorem dX10_goesTo_10 : decode cX10_goesTo 10 = .ok (.iconst 1, 1) := by decide +kernel
theorem dX10_goesTo_11 : decode cX10_goesTo 11 = .ok (.iadd, 1) := by decide +kernel
theorem dX10_goesTo_12 : decode cX10_goesTo 12 = .ok (.invokevirtual 77, 3) := by decide +kernel
theorem dX10_goesTo_15 : decode cX10_goesTo 15 = .ok (.iinc 3 1, 3) := by decide +kernel
theorem dX10_goesTo_18 : decode cX10_goesTo 18 = .ok (.goto (-16), 3) := by decide +kernel
theorem dX10_goesTo_21 : decode cX10_goesTo 21 = .ok (.iload_n 1, 1) := by decide +kernel
theorem dX10_goesTo_22 : decode cX10_goesTo 22 = .ok (.istore_n 3, 1) := by decide +kernel
theorem dX10_goesTo_23 : decode cX10_goesTo 23 = .ok (.iload_n 3, 1) := by decide +kernel
theorem dX10_goesTo_24 : decode cX10_goesTo 24 = .ok (.iload_n 2, 1) := by decide +kernel
theorem dX10_goesTo_25 : decode cX10_goesTo 25 = .ok (.if_icmp .le 17, 3) := by decide +kernel
theorem dX10_goesTo_28 : decode cX10_goesTo 28 = .ok (.aload_n 0, 1) := by decide +kernel
theorem dX10_goesTo_29 : decode cX10_goesTo 29 = .ok (.iload_n 3, 1) := by decide +kernel
theorem dX10_goesTo_30 : decode cX10_goesTo 30 = .ok (.iload_n 3, 1) := by decide +kernel
theorem dX10_goesTo_31 : decode cX10_goesTo 31 = .ok (.iconst 1, 1) := by decide +kernel
theorem dX10_goesTo_32 : decode cX10_goesTo 32 = .ok (.isub, 1) := by decide +kernel
theorem dX10_goesTo_33 : decode cX10_goesTo 33 = .ok (.invokevirtual 77, 3) := by decide +kernel
theorem dX10_goesTo_36 : decode cX10_goesTo 36 = .ok (.iinc 3 (-1), 3) := by decide +kernel
theorem dX10_goesTo_39 : decode cX10_goesTo 39 = .ok (.goto (-16), 3) := by decide +kernel
theorem dX10_goesTo_42 : decode cX10_goesTo 42 = .ok (.aload_n 0, 1) := by decide +kernel
theorem dX10_goesTo_43 : decode cX10_goesTo 43 = .ok (.invokevirtual 70, 3) := by decide +kernel
theorem dX10_goesTo_46 : decode cX10_goesTo 46 = .ok (.return_, 1) := by decide +kernel
theorem dX10_drop_0 : decode cX10_drop 0 = .ok (.aload_n 0, 1) := by decide +kernel
theorem dX10_drop_1 : decode cX10_drop 1 = .ok (.iload_n 1, 1) := by decide +kernel
theorem dX10_drop_2 : decode cX10_drop 2 = .ok (.invokevirtual 80, 3) := by decide +kernel
theorem dX10_drop_5 : decode cX10_drop 5 = .ok (.ifCond .ne 6, 3) := by decide +kernel
theorem dX10_drop_8 : decode cX10_drop 8 = .ok (.bipush (-2), 2) := by decide +kernel
theorem dX10_drop_10 : decode cX10_drop 10 = .ok (.ireturn, 1) := by decide +kernel
theorem dX10_drop_11 : decode cX10_drop 11 = .ok (.aload_n 0, 1) := by decide +kernel
theorem dX10_drop_12 : decode cX10_drop 12 = .ok (.iload_n 1, 1) := by decide +kernel
theorem dX10_drop_13 : decode cX10_drop 13 = .ok (.aload_n 0, 1) := by decide +kernel
theorem dX10_drop_14 : decode cX10_drop 14 = .ok (.getfield 9, 3) := by decide +kernel
theorem dX10_drop_17 : decode cX10_drop 17 = .ok (.iconst 0, 1) := by decide +kernel
theorem dX10_drop_18 : decode cX10_drop 18 = .ok (.iaload, 1) := by decide +kernel
theorem dX10_drop_19 : decode cX10_drop 19 = .ok (.iconst 1, 1) := by decide +kernel
theorem dX10_drop_20 : decode cX10_drop 20 = .ok (.isub, 1) := by decide +kernel
theorem dX10_drop_21 : decode cX10_drop 21 = .ok (.invokevirtual 83, 3) := by decide +kernel
theorem dX10_drop_24 : decode cX10_drop 24 = .ok (.aload_n 0, 1) := by decide +kernel
theorem dX10_drop_25 : decode cX10_drop 25 = .ok (.getfield 9, 3) := by decide +kernel
theorem dX10_drop_28 : decode cX10_drop 28 = .ok (.iconst 0, 1) := by decide +kernel
theorem dX10_drop_29 : decode cX10_drop 29 = .ok (.dup2, 1) := by decide +kernel
theorem dX10_drop_30 : decode cX10_drop 30 = .ok (.iaload, 1) := by decide +kernel
theorem dX10_drop_31 : decode cX10_drop 31 = .ok (.iconst 1, 1) := by decide +kernel
theorem dX10_drop_32 : decode cX10_drop 32 = .ok (.isub, 1) := by decide +kernel
theorem dX10_drop_33 : decode cX10_drop 33 = .ok (.iastore, 1) := by decide +kernel
theorem dX10_drop_34 : decode cX10_drop 34 = .ok (.aload_n 0, 1) := by decide +kernel
theorem dX10_drop_35 : decode cX10_drop 35 = .ok (.getfield 9, 3) := by decide +kernel
theorem dX10_drop_38 : decode cX10_drop 38 = .ok (.iconst 0, 1) := by decide +kernel
theorem dX10_drop_39 : decode cX10_drop 39 = .ok (.iaload, 1) := by decide +kernel
theorem dX10_drop_40 : decode cX10_drop 40 = .ok (.ireturn, 1) := by decide +kernel
theorem dX10_move_0 : decode cX10_move 0 = .ok (.aload_n 0, 1) := by decide +kernel
theorem dX10_move_1 : decode cX10_move 1 = .ok (.iload_n 1, 1) := by decide +kernel
theorem dX10_move_2 : decode cX10_move 2 = .ok (.invokevirtual 80, 3) := by decide +kernel
theorem dX10_move_5 : decode cX10_move 5 = .ok (.ifCond .eq 11, 3) := by decide +kernel
theorem dX10_move_8 : decode cX10_move 8 = .ok (.aload_n 0, 1) := by decide +kernel
theorem dX10_move_9 : decode cX10_move 9 = .ok (.iload_n 2, 1) := by decide +kernel
theorem dX10_move_10 : decode cX10_move 10 = .ok (.invokevirtual 80, 3) := by decide +kernel
theorem dX10_move_13 : decode cX10_move 13 = .ok (.ifCond .ne 6, 3) := by decide +kernel
theorem dX10_move_16 : decode cX10_move 16 = .ok (.bipush (-2), 2) := by decide +kernel
theorem dX10_move_18 : decode cX10_move 18 = .ok (.ireturn, 1) := by decide +kernel
theorem dX10_move_19 : decode cX10_move 19 = .ok (.aload_n 0, 1) := by decide +kernel
theorem dX10_move_20 : decode cX10_move 20 = .ok (.iload_n 1, 1) := by decide +kernel
theorem dX10_move_21 : decode cX10_move 21 = .ok (.iload_n 2, 1) := by decide +kernel
theorem dX10_move_22 : decode cX10_move 22 = .ok (.invokevirtual 83, 3) := by decide +kernel
theorem dX10_move_25 : decode cX10_move 25 = .ok (.iload_n 2, 1) := by decide +kernel
theorem dX10_move_26 : decode cX10_move 26 = .ok (.ireturn, 1) := by decide +kernel
theorem dX10_dress_0 : decode cX10_dress 0 = .ok (.iload_n 1, 1) := by decide +kernel
theorem dX10_dress_1 : decode cX10_dress 1 = .ok (.iconst (-1), 1) := by decide +kernel
theorem dX10_dress_2 : decode cX10_dress 2 = .ok (.if_icmp .ne 33, 3) := by decide +kernel
theorem dX10_dress_5 : decode cX10_dress 5 = .ok (.iload 4, 2) := by decide +kernel
theorem dX10_dress_7 : decode cX10_dress 7 = .ok (.invokestatic 63, 3) := by decide +kernel
theorem dX10_dress_10 : decode cX10_dress 10 = .ok (.ifCond .ne 6, 3) := by decide +kernel
theorem dX10_dress_13 : decode cX10_dress 13 = .ok (.bipush (-2), 2) := by decide +kernel
theorem dX10_dress_15 : decode cX10_dress 15 = .ok (.ireturn, 1) := by decide +kernel
theorem dX10_dress_16 : decode cX10_dress 16 = .ok (.aload_n 0, 1) := by decide +kernel
theorem dX10_dress_17 : decode cX10_dress 17 = .ok (.getfield 9, 3) := by decide +kernel
theorem dX10_dress_20 : decode cX10_dress 20 = .ok (.iconst 1, 1) := by decide +kernel
theorem dX10_dress_21 : decode cX10_dress 21 = .ok (.iaload, 1) := by decide +kernel
theorem dX10_dress_22 : decode cX10_dress 22 = .ok (.istore 5, 2) := by decide +kernel
theorem dX10_dress_24 : decode cX10_dress 24 = .ok (.aload_n 0, 1) := by decide +kernel
theorem dX10_dress_25 : decode cX10_dress 25 = .ok (.getfield 9, 3) := by decide +kernel
theorem dX10_dress_28 : decode cX10_dress 28 = .ok (.iconst 1, 1) := by decide +kernel
theorem dX10_dress_29 : decode cX10_dress 29 = .ok (.iload 4, 2) := by decide +kernel
theorem dX10_dress_31 : decode cX10_dress 31 = .ok (.iastore, 1) := by decide +kernel
theorem dX10_dress_32 : decode cX10_dress 32 = .ok (.iload 5, 2) := by decide +kernel
theorem dX10_dress_34 : decode cX10_dress 34 = .ok (.ireturn, 1) := by decide +kernel
theorem dX10_dress_35 : decode cX10_dress 35 = .ok (.aload_n 0, 1) := by decide +kernel
theorem dX10_dress_36 : decode cX10_dress 36 = .ok (.iload_n 1, 1) := by decide +kernel
theorem dX10_dress_37 : decode cX10_dress 37 = .ok (.invokevirtual 80, 3) := by decide +kernel
theorem dX10_dress_40 : decode cX10_dress 40 = .ok (.ifCond .eq 13, 3) := by decide +kernel
theorem dX10_dress_43 : decode cX10_dress 43 = .ok (.iload_n 2, 1) := by decide +kernel
theorem dX10_dress_44 : decode cX10_dress 44 = .ok (.iload_n 3, 1) := by decide +kernel
theorem dX10_dress_45 : decode cX10_dress 45 = .ok (.iload 4, 2) := by decide +kernel
theorem dX10_dress_47 : decode cX10_dress 47 = .ok (.invokestatic 67, 3) := by decide +kernel
theorem dX10_dress_50 : decode cX10_dress 50 = .ok (.ifCond .ne 6, 3) := by decide +kernel
theorem dX10_dress_53 : decode cX10_dress 53 = .ok (.bipush (-2), 2) := by decide +kernel
theorem dX10_dress_55 : decode cX10_dress 55 = .ok (.ireturn, 1) := by decide +kernel
theorem dX10_dress_56 : decode cX10_dress 56 = .ok (.aload_n 0, 1) := by decide +kernel
theorem dX10_dress_57 : decode cX10_dress 57 = .ok (.getfield 9, 3) := by decide +kernel
theorem dX10_dress_60 : decode cX10_dress 60 = .ok (.bipush 16, 2) := by decide +kernel
theorem dX10_dress_62 : decode cX10_dress 62 = .ok (.iload_n 1, 1) := by decide +kernel
theorem dX10_dress_63 : decode cX10_dress 63 = .ok (.iadd, 1) := by decide +kernel
theorem dX10_dress_64 : decode cX10_dress 64 = .ok (.iaload, 1) := by decide +kernel
theorem dX10_dress_65 : decode cX10_dress 65 = .ok (.istore 5, 2) := by decide +kernel
theorem dX10_dress_67 : decode cX10_dress 67 = .ok (.aload_n 0, 1) := by decide +kernel
theorem dX10_dress_68 : decode cX10_dress 68 = .ok (.getfield 9, 3) := by decide +kernel
theorem dX10_dress_71 : decode cX10_dress 71 = .ok (.bipush 8, 2) := by decide +kernel
theorem dX10_dress_73 : decode cX10_dress 73 = .ok (.iload_n 1, 1) := by decide +kernel
theorem dX10_dress_74 : decode cX10_dress 74 = .ok (.iadd, 1) := by decide +kernel
theorem dX10_dress_75 : decode cX10_dress 75 = .ok (.iload_n 2, 1) := by decide +kernel
theorem dX10_dress_76 : decode cX10_dress 76 = .ok (.iastore, 1) := by decide +kernel
theorem dX10_dress_77 : decode cX10_dress 77 = .ok (.aload_n 0, 1) := by decide +kernel
theorem dX10_dress_78 : decode cX10_dress 78 = .ok (.getfield 9, 3) := by decide +kernel
theorem dX10_dress_81 : decode cX10_dress 81 = .ok (.bipush 12, 2) := by decide +kernel
theorem dX10_dress_83 : decode cX10_dress 83 = .ok (.iload_n 1, 1) := by decide +kernel
theorem dX10_dress_84 : decode cX10_dress 84 = .ok (.iadd, 1) := by decide +kernel
theorem dX10_dress_85 : decode cX10_dress 85 = .ok (.iload_n 3, 1) := by decide +kernel
theorem dX10_dress_86 : decode cX10_dress 86 = .ok (.iastore, 1) := by decide +kernel
theorem dX10_dress_87 : decode cX10_dress 87 = .ok (.aload_n 0, 1) := by decide +kernel
theorem dX10_dress_88 : decode cX10_dress 88 = .ok (.getfield 9, 3) := by decide +kernel
theorem dX10_dress_91 : decode cX10_dress 91 = .ok (.bipush 16, 2) := by decide +kernel
theorem dX10_dress_93 : decode cX10_dress 93 = .ok (.iload_n 1, 1) := by decide +kernel
theorem dX10_dress_94 : decode cX10_dress 94 = .ok (.iadd, 1) := by decide +kernel
theorem dX10_dress_95 : decode cX10_dress 95 = .ok (.iload 4, 2) := by decide +kernel
theorem dX10_dress_97 : decode cX10_dress 97 = .ok (.iastore, 1) := by decide +kernel
theorem dX10_dress_98 : decode cX10_dress 98 = .ok (.iload 5, 2) := by decide +kernel
theorem dX10_dress_100 : decode cX10_dress 100 = .ok (.ireturn, 1) := by decide +kernel
theorem dX10_covered_0 : decode cX10_covered 0 = .ok (.iconst 0, 1) := by decide +kernel
theorem dX10_covered_1 : decode cX10_covered 1 = .ok (.istore_n 2, 1) := by decide +kernel
theorem dX10_covered_2 : decode cX10_covered 2 = .ok (.iconst 0, 1) := by decide +kernel
theorem dX10_covered_3 : decode cX10_covered 3 = .ok (.istore_n 3, 1) := by decide +kernel
theorem dX10_covered_4 : decode cX10_covered 4 = .ok (.iload_n 3, 1) := by decide +kernel
theorem dX10_covered_5 : decode cX10_covered 5 = .ok (.sipush 192, 3) := by decide +kernel
theorem dX10_covered_8 : decode cX10_covered 8 = .ok (.if_icmp .ge 36, 3) := by decide +kernel
theorem dX10_covered_11 : decode cX10_covered 11 = .ok (.iload_n 2, 1) := by decide +kernel
theorem dX10_covered_12 : decode cX10_covered 12 = .ok (.aload_n 0, 1) := by decide +kernel
theorem dX10_covered_13 : decode cX10_covered 13 = .ok (.getfield 9, 3) := by decide +kernel
theorem dX10_covered_16 : decode cX10_covered 16 = .ok (.sipush 788, 3) := by decide +kernel
theorem dX10_covered_19 : decode cX10_covered 19 = .ok (.sipush 192, 3) := by decide +kernel
theorem dX10_covered_22 : decode cX10_covered 22 = .ok (.iload_n 1, 1) := by decide +kernel
theorem dX10_covered_23 : decode cX10_covered 23 = .ok (.imul, 1) := by decide +kernel
theorem dX10_covered_24 : decode cX10_covered 24 = .ok (.iadd, 1) := by decide +kernel
theorem dX10_covered_25 : decode cX10_covered 25 = .ok (.iload_n 3, 1) := by decide +kernel
theorem dX10_covered_26 : decode cX10_covered 26 = .ok (.iadd, 1) := by decide +kernel
theorem dX10_covered_27 : decode cX10_covered 27 = .ok (.iaload, 1) := by decide +kernel
theorem dX10_covered_28 : decode cX10_covered 28 = .ok (.ifCond .le 7, 3) := by decide +kernel
theorem dX10_covered_31 : decode cX10_covered 31 = .ok (.iconst 1, 1) := by decide +kernel
theorem dX10_covered_32 : decode cX10_covered 32 = .ok (.goto 4, 3) := by decide +kernel
theorem dX10_covered_35 : decode cX10_covered 35 = .ok (.iconst 0, 1) := by decide +kernel
theorem dX10_covered_36 : decode cX10_covered 36 = .ok (.iadd, 1) := by decide +kernel
theorem dX10_covered_37 : decode cX10_covered 37 = .ok (.istore_n 2, 1) := by decide +kernel
theorem dX10_covered_38 : decode cX10_covered 38 = .ok (.iinc 3 1, 3) := by decide +kernel
theorem dX10_covered_41 : decode cX10_covered 41 = .ok (.goto (-37), 3) := by decide +kernel
theorem dX10_covered_44 : decode cX10_covered 44 = .ok (.iload_n 2, 1) := by decide +kernel
theorem dX10_covered_45 : decode cX10_covered 45 = .ok (.ireturn, 1) := by decide +kernel
theorem dX10_told_0 : decode cX10_told 0 = .ok (.aload_n 0, 1) := by decide +kernel
theorem dX10_told_1 : decode cX10_told 1 = .ok (.iload_n 1, 1) := by decide +kernel
theorem dX10_told_2 : decode cX10_told 2 = .ok (.invokevirtual 80, 3) := by decide +kernel
theorem dX10_told_5 : decode cX10_told 5 = .ok (.ifCond .eq 12, 3) := by decide +kernel
theorem dX10_told_8 : decode cX10_told 8 = .ok (.iload_n 2, 1) := by decide +kernel
theorem dX10_told_9 : decode cX10_told 9 = .ok (.iconst 0, 1) := by decide +kernel
theorem dX10_told_10 : decode cX10_told 10 = .ok (.iconst 3, 1) := by decide +kernel
theorem dX10_told_11 : decode cX10_told 11 = .ok (.invokestatic 43, 3) := by decide +kernel
theorem dX10_told_14 : decode cX10_told 14 = .ok (.ifCond .ne 6, 3) := by decide +kernel
theorem dX10_told_17 : decode cX10_told 17 = .ok (.bipush (-2), 2) := by decide +kernel
theorem dX10_told_19 : decode cX10_told 19 = .ok (.ireturn, 1) := by decide +kernel
theorem dX10_told_20 : decode cX10_told 20 = .ok (.iload_n 2, 1) := by decide +kernel
theorem dX10_told_21 : decode cX10_told 21 = .ok (.ifCond .ne 15, 3) := by decide +kernel
theorem dX10_told_24 : decode cX10_told 24 = .ok (.aload_n 0, 1) := by decide +kernel
theorem dX10_told_25 : decode cX10_told 25 = .ok (.getfield 9, 3) := by decide +kernel
theorem dX10_told_28 : decode cX10_told 28 = .ok (.bipush 8, 2) := by decide +kernel
theorem dX10_told_30 : decode cX10_told 30 = .ok (.iload_n 1, 1) := by decide +kernel
theorem dX10_told_31 : decode cX10_told 31 = .ok (.iadd, 1) := by decide +kernel
theorem dX10_told_32 : decode cX10_told 32 = .ok (.iaload, 1) := by decide +kernel
theorem dX10_told_33 : decode cX10_told 33 = .ok (.goto 42, 3) := by decide +kernel
theorem dX10_told_36 : decode cX10_told 36 = .ok (.iload_n 2, 1) := by decide +kernel
theorem dX10_told_37 : decode cX10_told 37 = .ok (.iconst 1, 1) := by decide +kernel
theorem dX10_told_38 : decode cX10_told 38 = .ok (.if_icmp .ne 15, 3) := by decide +kernel
theorem dX10_told_41 : decode cX10_told 41 = .ok (.aload_n 0, 1) := by decide +kernel
theorem dX10_told_42 : decode cX10_told 42 = .ok (.getfield 9, 3) := by decide +kernel
theorem dX10_told_45 : decode cX10_told 45 = .ok (.bipush 12, 2) := by decide +kernel
theorem dX10_told_47 : decode cX10_told 47 = .ok (.iload_n 1, 1) := by decide +kernel
theorem dX10_told_48 : decode cX10_told 48 = .ok (.iadd, 1) := by decide +kernel
theorem dX10_told_49 : decode cX10_told 49 = .ok (.iaload, 1) := by decide +kernel
theorem dX10_told_50 : decode cX10_told 50 = .ok (.goto 25, 3) := by decide +kernel
theorem dX10_told_53 : decode cX10_told 53 = .ok (.iload_n 2, 1) := by decide +kernel
theorem dX10_told_54 : decode cX10_told 54 = .ok (.iconst 2, 1) := by decide +kernel
theorem dX10_told_55 : decode cX10_told 55 = .ok (.if_icmp .ne 15, 3) := by decide +kernel
theorem dX10_told_58 : decode cX10_told 58 = .ok (.aload_n 0, 1) := by decide +kernel
theorem dX10_told_59 : decode cX10_told 59 = .ok (.getfield 9, 3) := by decide +kernel
theorem dX10_told_62 : decode cX10_told 62 = .ok (.bipush 16, 2) := by decide +kernel
theorem dX10_told_64 : decode cX10_told 64 = .ok (.iload_n 1, 1) := by decide +kernel
theorem dX10_told_65 : decode cX10_told 65 = .ok (.iadd, 1) := by decide +kernel
theorem dX10_told_66 : decode cX10_told 66 = .ok (.iaload, 1) := by decide +kernel
theorem dX10_told_67 : decode cX10_told 67 = .ok (.goto 8, 3) := by decide +kernel
theorem dX10_told_70 : decode cX10_told 70 = .ok (.aload_n 0, 1) := by decide +kernel
theorem dX10_told_71 : decode cX10_told 71 = .ok (.iload_n 1, 1) := by decide +kernel
theorem dX10_told_72 : decode cX10_told 72 = .ok (.invokevirtual 86, 3) := by decide +kernel
theorem dX10_told_75 : decode cX10_told 75 = .ok (.ireturn, 1) := by decide +kernel
theorem dX10_above_0 : decode cX10_above 0 = .ok (.iload_n 0, 1) := by decide +kernel
theorem dX10_above_1 : decode cX10_above 1 = .ok (.iconst 3, 1) := by decide +kernel
theorem dX10_above_2 : decode cX10_above 2 = .ok (.if_icmp .ne 7, 3) := by decide +kernel
theorem dX10_above_5 : decode cX10_above 5 = .ok (.iconst 1, 1) := by decide +kernel
theorem dX10_above_6 : decode cX10_above 6 = .ok (.goto 21, 3) := by decide +kernel
theorem dX10_above_9 : decode cX10_above 9 = .ok (.iload_n 0, 1) := by decide +kernel
theorem dX10_above_10 : decode cX10_above 10 = .ok (.iconst 4, 1) := by decide +kernel
theorem dX10_above_11 : decode cX10_above 11 = .ok (.if_icmp .ne 7, 3) := by decide +kernel
theorem dX10_above_14 : decode cX10_above 14 = .ok (.iconst 2, 1) := by decide +kernel
theorem dX10_above_15 : decode cX10_above 15 = .ok (.goto 12, 3) := by decide +kernel
theorem dX10_above_18 : decode cX10_above 18 = .ok (.iload_n 0, 1) := by decide +kernel
theorem dX10_above_19 : decode cX10_above 19 = .ok (.ifCond .ne 7, 3) := by decide +kernel
theorem dX10_above_22 : decode cX10_above 22 = .ok (.iconst (-1), 1) := by decide +kernel
theorem dX10_above_23 : decode cX10_above 23 = .ok (.goto 4, 3) := by decide +kernel
theorem dX10_above_26 : decode cX10_above 26 = .ok (.iconst 0, 1) := by decide +kernel
theorem dX10_above_27 : decode cX10_above 27 = .ok (.ireturn, 1) := by decide +kernel
theorem dX10_taken_0 : decode cX10_taken 0 = .ok (.aload_n 0, 1) := by decide +kernel
theorem dX10_taken_1 : decode cX10_taken 1 = .ok (.iload_n 1, 1) := by decide +kernel
theorem dX10_taken_2 : decode cX10_taken 2 = .ok (.invokevirtual 80, 3) := by decide +kernel
theorem dX10_taken_5 : decode cX10_taken 5 = .ok (.ifCond .eq 19, 3) := by decide +kernel
theorem dX10_taken_8 : decode cX10_taken 8 = .ok (.iload_n 2, 1) := by decide +kernel
theorem dX10_taken_9 : decode cX10_taken 9 = .ok (.iconst 0, 1) := by decide +kernel
theorem dX10_taken_10 : decode cX10_taken 10 = .ok (.iconst 5, 1) := by decide +kernel
theorem dX10_taken_11 : decode cX10_taken 11 = .ok (.invokestatic 43, 3) := by decide +kernel
theorem dX10_taken_14 : decode cX10_taken 14 = .ok (.ifCond .eq 10, 3) := by decide +kernel
theorem dX10_taken_17 : decode cX10_taken 17 = .ok (.iload_n 3, 1) := by decide +kernel
theorem dX10_taken_18 : decode cX10_taken 18 = .ok (.invokestatic 63, 3) := by decide +kernel
theorem dX10_taken_21 : decode cX10_taken 21 = .ok (.ifCond .ne 6, 3) := by decide +kernel
theorem dX10_taken_24 : decode cX10_taken 24 = .ok (.bipush (-2), 2) := by decide +kernel
theorem dX10_taken_26 : decode cX10_taken 26 = .ok (.ireturn, 1) := by decide +kernel
theorem dX10_taken_27 : decode cX10_taken 27 = .ok (.aload_n 0, 1) := by decide +kernel
theorem dX10_taken_28 : decode cX10_taken 28 = .ok (.getfield 9, 3) := by decide +kernel
theorem dX10_taken_31 : decode cX10_taken 31 = .ok (.bipush 8, 2) := by decide +kernel
theorem dX10_taken_33 : decode cX10_taken 33 = .ok (.iload_n 1, 1) := by decide +kernel
theorem dX10_taken_34 : decode cX10_taken 34 = .ok (.iadd, 1) := by decide +kernel
theorem dX10_taken_35 : decode cX10_taken 35 = .ok (.iaload, 1) := by decide +kernel
theorem dX10_taken_36 : decode cX10_taken 36 = .ok (.istore 4, 2) := by decide +kernel
theorem dX10_taken_38 : decode cX10_taken 38 = .ok (.iload 4, 2) := by decide +kernel
theorem dX10_taken_40 : decode cX10_taken 40 = .ok (.iload_n 2, 1) := by decide +kernel
theorem dX10_taken_41 : decode cX10_taken 41 = .ok (.if_icmp .eq 19, 3) := by decide +kernel
theorem dX10_taken_44 : decode cX10_taken 44 = .ok (.iload 4, 2) := by decide +kernel
theorem dX10_taken_46 : decode cX10_taken 46 = .ok (.iconst (-1), 1) := by decide +kernel
theorem dX10_taken_47 : decode cX10_taken 47 = .ok (.if_icmp .eq 13, 3) := by decide +kernel
theorem dX10_taken_50 : decode cX10_taken 50 = .ok (.iload 4, 2) := by decide +kernel
theorem dX10_taken_52 : decode cX10_taken 52 = .ok (.invokestatic 90, 3) := by decide +kernel
theorem dX10_taken_55 : decode cX10_taken 55 = .ok (.istore 4, 2) := by decide +kernel
theorem dX10_taken_57 : decode cX10_taken 57 = .ok (.goto (-19), 3) := by decide +kernel
theorem dX10_taken_60 : decode cX10_taken 60 = .ok (.iload 4, 2) := by decide +kernel
theorem dX10_taken_62 : decode cX10_taken 62 = .ok (.iconst (-1), 1) := by decide +kernel
theorem dX10_taken_63 : decode cX10_taken 63 = .ok (.if_icmp .ne 8, 3) := by decide +kernel
theorem dX10_taken_66 : decode cX10_taken 66 = .ok (.bipush (-13), 2) := by decide +kernel
theorem dX10_taken_68 : decode cX10_taken 68 = .ok (.goto 28, 3) := by decide +kernel
theorem dX10_taken_71 : decode cX10_taken 71 = .ok (.aload_n 0, 1) := by decide +kernel
theorem dX10_taken_72 : decode cX10_taken 72 = .ok (.getfield 9, 3) := by decide +kernel
theorem dX10_taken_75 : decode cX10_taken 75 = .ok (.bipush 8, 2) := by decide +kernel
theorem dX10_taken_77 : decode cX10_taken 77 = .ok (.iload_n 1, 1) := by decide +kernel
theorem dX10_taken_78 : decode cX10_taken 78 = .ok (.iadd, 1) := by decide +kernel
theorem dX10_taken_79 : decode cX10_taken 79 = .ok (.iaload, 1) := by decide +kernel
theorem dX10_taken_80 : decode cX10_taken 80 = .ok (.aload_n 0, 1) := by decide +kernel
theorem dX10_taken_81 : decode cX10_taken 81 = .ok (.getfield 9, 3) := by decide +kernel
theorem dX10_taken_84 : decode cX10_taken 84 = .ok (.bipush 12, 2) := by decide +kernel
theorem dX10_taken_86 : decode cX10_taken 86 = .ok (.iload_n 1, 1) := by decide +kernel
theorem dX10_taken_87 : decode cX10_taken 87 = .ok (.iadd, 1) := by decide +kernel
theorem dX10_taken_88 : decode cX10_taken 88 = .ok (.iaload, 1) := by decide +kernel
theorem dX10_taken_89 : decode cX10_taken 89 = .ok (.iload_n 3, 1) := by decide +kernel
theorem dX10_taken_90 : decode cX10_taken 90 = .ok (.sipush 200, 3) := by decide +kernel
theorem dX10_taken_93 : decode cX10_taken 93 = .ok (.invokestatic 56, 3) := by decide +kernel
theorem dX10_taken_96 : decode cX10_taken 96 = .ok (.ireturn, 1) := by decide +kernel
theorem dX10_dot_0 : decode cX10_dot 0 = .ok (.iload_n 1, 1) := by decide +kernel
theorem dX10_dot_1 : decode cX10_dot 1 = .ok (.iconst (-1), 1) := by decide +kernel
theorem dX10_dot_2 : decode cX10_dot 2 = .ok (.if_icmp .eq 11, 3) := by decide +kernel
theorem dX10_dot_5 : decode cX10_dot 5 = .ok (.aload_n 0, 1) := by decide +kernel
theorem dX10_dot_6 : decode cX10_dot 6 = .ok (.iload_n 1, 1) := by decide +kernel
theorem dX10_dot_7 : decode cX10_dot 7 = .ok (.invokevirtual 80, 3) := by decide +kernel
theorem dX10_dot_10 : decode cX10_dot 10 = .ok (.ifCond .eq 30, 3) := by decide +kernel
theorem dX10_dot_13 : decode cX10_dot 13 = .ok (.iload_n 2, 1) := by decide +kernel
theorem dX10_dot_14 : decode cX10_dot 14 = .ok (.iload_n 3, 1) := by decide +kernel
theorem dX10_dot_15 : decode cX10_dot 15 = .ok (.invokestatic 93, 3) := by decide +kernel
theorem dX10_dot_18 : decode cX10_dot 18 = .ok (.ifCond .eq 22, 3) := by decide +kernel
theorem dX10_dot_21 : decode cX10_dot 21 = .ok (.iload 4, 2) := by decide +kernel
theorem dX10_dot_23 : decode cX10_dot 23 = .ok (.iconst 0, 1) := by decide +kernel
theorem dX10_dot_24 : decode cX10_dot 24 = .ok (.iload_n 1, 1) := by decide +kernel
theorem dX10_dot_25 : decode cX10_dot 25 = .ok (.iconst (-1), 1) := by decide +kernel
theorem dX10_dot_26 : decode cX10_dot 26 = .ok (.if_icmp .ne 7, 3) := by decide +kernel
theorem dX10_dot_29 : decode cX10_dot 29 = .ok (.iconst 0, 1) := by decide +kernel
theorem dX10_dot_30 : decode cX10_dot 30 = .ok (.goto 4, 3) := by decide +kernel
theorem dX10_dot_33 : decode cX10_dot 33 = .ok (.iconst 1, 1) := by decide +kernel
theorem dX10_dot_34 : decode cX10_dot 34 = .ok (.invokestatic 43, 3) := by decide +kernel
theorem dX10_dot_37 : decode cX10_dot 37 = .ok (.ifCond .ne 6, 3) := by decide +kernel
theorem dX10_dot_40 : decode cX10_dot 40 = .ok (.bipush (-2), 2) := by decide +kernel
theorem dX10_dot_42 : decode cX10_dot 42 = .ok (.ireturn, 1) := by decide +kernel
theorem dX10_dot_43 : decode cX10_dot 43 = .ok (.iload_n 2, 1) := by decide +kernel
theorem dX10_dot_44 : decode cX10_dot 44 = .ok (.iload_n 3, 1) := by decide +kernel
theorem dX10_dot_45 : decode cX10_dot 45 = .ok (.invokestatic 97, 3) := by decide +kernel
theorem dX10_dot_48 : decode cX10_dot 48 = .ok (.istore 5, 2) := by decide +kernel
theorem dX10_dot_50 : decode cX10_dot 50 = .ok (.iload_n 1, 1) := by decide +kernel
theorem dX10_dot_51 : decode cX10_dot 51 = .ok (.iconst (-1), 1) := by decide +kernel
theorem dX10_dot_52 : decode cX10_dot 52 = .ok (.if_icmp .ne 12, 3) := by decide +kernel
theorem dX10_dot_55 : decode cX10_dot 55 = .ok (.aload_n 0, 1) := by decide +kernel
theorem dX10_dot_56 : decode cX10_dot 56 = .ok (.iload 5, 2) := by decide +kernel
theorem dX10_dot_58 : decode cX10_dot 58 = .ok (.invokevirtual 100, 3) := by decide +kernel
theorem dX10_dot_61 : decode cX10_dot 61 = .ok (.goto 44, 3) := by decide +kernel
theorem dX10_dot_64 : decode cX10_dot 64 = .ok (.iload 4, 2) := by decide +kernel
theorem dX10_dot_66 : decode cX10_dot 66 = .ok (.ifCond .ne 22, 3) := by decide +kernel
theorem dX10_dot_69 : decode cX10_dot 69 = .ok (.aload_n 0, 1) := by decide +kernel
theorem dX10_dot_70 : decode cX10_dot 70 = .ok (.getfield 9, 3) := by decide +kernel
theorem dX10_dot_73 : decode cX10_dot 73 = .ok (.bipush 20, 2) := by decide +kernel
theorem dX10_dot_75 : decode cX10_dot 75 = .ok (.sipush 192, 3) := by decide +kernel
theorem dX10_dot_78 : decode cX10_dot 78 = .ok (.iload_n 1, 1) := by decide +kernel
theorem dX10_dot_79 : decode cX10_dot 79 = .ok (.imul, 1) := by decide +kernel
theorem dX10_dot_80 : decode cX10_dot 80 = .ok (.iadd, 1) := by decide +kernel
theorem dX10_dot_81 : decode cX10_dot 81 = .ok (.iload 5, 2) := by decide +kernel
theorem dX10_dot_83 : decode cX10_dot 83 = .ok (.iadd, 1) := by decide +kernel
theorem dX10_dot_84 : decode cX10_dot 84 = .ok (.iaload, 1) := by decide +kernel
theorem dX10_dot_85 : decode cX10_dot 85 = .ok (.goto 20, 3) := by decide +kernel
theorem dX10_dot_88 : decode cX10_dot 88 = .ok (.aload_n 0, 1) := by decide +kernel
theorem dX10_dot_89 : decode cX10_dot 89 = .ok (.getfield 9, 3) := by decide +kernel
theorem dX10_dot_92 : decode cX10_dot 92 = .ok (.sipush 788, 3) := by decide +kernel
theorem dX10_dot_95 : decode cX10_dot 95 = .ok (.sipush 192, 3) := by decide +kernel
theorem dX10_dot_98 : decode cX10_dot 98 = .ok (.iload_n 1, 1) := by decide +kernel
theorem dX10_dot_99 : decode cX10_dot 99 = .ok (.imul, 1) := by decide +kernel
theorem dX10_dot_100 : decode cX10_dot 100 = .ok (.iadd, 1) := by decide +kernel
theorem dX10_dot_101 : decode cX10_dot 101 = .ok (.iload 5, 2) := by decide +kernel
theorem dX10_dot_103 : decode cX10_dot 103 = .ok (.iadd, 1) := by decide +kernel
theorem dX10_dot_104 : decode cX10_dot 104 = .ok (.iaload, 1) := by decide +kernel
theorem dX10_dot_105 : decode cX10_dot 105 = .ok (.ireturn, 1) := by decide +kernel
theorem dX10_brush_0 : decode cX10_brush 0 = .ok (.iload_n 1, 1) := by decide +kernel
theorem dX10_brush_1 : decode cX10_brush 1 = .ok (.iconst 0, 1) := by decide +kernel
theorem dX10_brush_2 : decode cX10_brush 2 = .ok (.iconst 4, 1) := by decide +kernel
theorem dX10_brush_3 : decode cX10_brush 3 = .ok (.invokestatic 43, 3) := by decide +kernel
theorem dX10_brush_6 : decode cX10_brush 6 = .ok (.ifCond .eq 35, 3) := by decide +kernel
theorem dX10_brush_9 : decode cX10_brush 9 = .ok (.iload_n 2, 1) := by decide +kernel
theorem dX10_brush_10 : decode cX10_brush 10 = .ok (.iconst 0, 1) := by decide +kernel
theorem dX10_brush_11 : decode cX10_brush 11 = .ok (.iconst 4, 1) := by decide +kernel
theorem dX10_brush_12 : decode cX10_brush 12 = .ok (.invokestatic 43, 3) := by decide +kernel
theorem dX10_brush_15 : decode cX10_brush 15 = .ok (.ifCond .eq 26, 3) := by decide +kernel
theorem dX10_brush_18 : decode cX10_brush 18 = .ok (.iload_n 3, 1) := by decide +kernel
theorem dX10_brush_19 : decode cX10_brush 19 = .ok (.iconst (-1), 1) := by decide +kernel
theorem dX10_brush_20 : decode cX10_brush 20 = .ok (.if_icmp .eq 10, 3) := by decide +kernel
theorem dX10_brush_23 : decode cX10_brush 23 = .ok (.iload_n 3, 1) := by decide +kernel
theorem dX10_brush_24 : decode cX10_brush 24 = .ok (.invokestatic 63, 3) := by decide +kernel
theorem dX10_brush_27 : decode cX10_brush 27 = .ok (.ifCond .eq 14, 3) := by decide +kernel
theorem dX10_brush_30 : decode cX10_brush 30 = .ok (.iload 4, 2) := by decide +kernel
theorem dX10_brush_32 : decode cX10_brush 32 = .ok (.iconst 0, 1) := by decide +kernel
theorem dX10_brush_33 : decode cX10_brush 33 = .ok (.bipush 9, 2) := by decide +kernel
theorem dX10_brush_35 : decode cX10_brush 35 = .ok (.invokestatic 43, 3) := by decide +kernel
theorem dX10_brush_38 : decode cX10_brush 38 = .ok (.ifCond .ne 6, 3) := by decide +kernel
theorem dX10_brush_41 : decode cX10_brush 41 = .ok (.bipush (-2), 2) := by decide +kernel
theorem dX10_brush_43 : decode cX10_brush 43 = .ok (.ireturn, 1) := by decide +kernel
theorem dX10_brush_44 : decode cX10_brush 44 = .ok (.bipush 10, 2) := by decide +kernel
theorem dX10_brush_46 : decode cX10_brush 46 = .ok (.aload_n 0, 1) := by decide +kernel
theorem dX10_brush_47 : decode cX10_brush 47 = .ok (.getfield 9, 3) := by decide +kernel
theorem dX10_brush_50 : decode cX10_brush 50 = .ok (.iconst 2, 1) := by decide +kernel
theorem dX10_brush_51 : decode cX10_brush 51 = .ok (.iaload, 1) := by decide +kernel
theorem dX10_brush_52 : decode cX10_brush 52 = .ok (.imul, 1) := by decide +kernel
theorem dX10_brush_53 : decode cX10_brush 53 = .ok (.aload_n 0, 1) := by decide +kernel
theorem dX10_brush_54 : decode cX10_brush 54 = .ok (.getfield 9, 3) := by decide +kernel
theorem dX10_brush_57 : decode cX10_brush 57 = .ok (.iconst 3, 1) := by decide +kernel
theorem dX10_brush_58 : decode cX10_brush 58 = .ok (.iaload, 1) := by decide +kernel
theorem dX10_brush_59 : decode cX10_brush 59 = .ok (.iadd, 1) := by decide +kernel
theorem dX10_brush_60 : decode cX10_brush 60 = .ok (.istore 5, 2) := by decide +kernel
theorem dX10_brush_62 : decode cX10_brush 62 = .ok (.aload_n 0, 1) := by decide +kernel
theorem dX10_brush_63 : decode cX10_brush 63 = .ok (.getfield 9, 3) := by decide +kernel
theorem dX10_brush_66 : decode cX10_brush 66 = .ok (.iconst 2, 1) := by decide +kernel
theorem dX10_brush_67 : decode cX10_brush 67 = .ok (.iload_n 1, 1) := by decide +kernel
theorem dX10_brush_68 : decode cX10_brush 68 = .ok (.iastore, 1) := by decide +kernel
theorem dX10_brush_69 : decode cX10_brush 69 = .ok (.aload_n 0, 1) := by decide +kernel
theorem dX10_brush_70 : decode cX10_brush 70 = .ok (.getfield 9, 3) := by decide +kernel
theorem dX10_brush_73 : decode cX10_brush 73 = .ok (.iconst 3, 1) := by decide +kernel
theorem dX10_brush_74 : decode cX10_brush 74 = .ok (.iload_n 2, 1) := by decide +kernel
theorem dX10_brush_75 : decode cX10_brush 75 = .ok (.iastore, 1) := by decide +kernel
theorem dX10_brush_76 : decode cX10_brush 76 = .ok (.aload_n 0, 1) := by decide +kernel
theorem dX10_brush_77 : decode cX10_brush 77 = .ok (.getfield 9, 3) := by decide +kernel
theorem dX10_brush_80 : decode cX10_brush 80 = .ok (.iconst 4, 1) := by decide +kernel
theorem dX10_brush_81 : decode cX10_brush 81 = .ok (.iload_n 3, 1) := by decide +kernel
theorem dX10_brush_82 : decode cX10_brush 82 = .ok (.iastore, 1) := by decide +kernel
theorem dX10_brush_83 : decode cX10_brush 83 = .ok (.aload_n 0, 1) := by decide +kernel
theorem dX10_brush_84 : decode cX10_brush 84 = .ok (.getfield 9, 3) := by decide +kernel
theorem dX10_brush_87 : decode cX10_brush 87 = .ok (.iconst 5, 1) := by decide +kernel
theorem dX10_brush_88 : decode cX10_brush 88 = .ok (.iload 4, 2) := by decide +kernel
theorem dX10_brush_90 : decode cX10_brush 90 = .ok (.iastore, 1) := by decide +kernel
theorem dX10_brush_91 : decode cX10_brush 91 = .ok (.iload 5, 2) := by decide +kernel
theorem dX10_brush_93 : decode cX10_brush 93 = .ok (.ireturn, 1) := by decide +kernel
theorem dX10_touched_0 : decode cX10_touched 0 = .ok (.aload_n 0, 1) := by decide +kernel
theorem dX10_touched_1 : decode cX10_touched 1 = .ok (.getfield 9, 3) := by decide +kernel
theorem dX10_touched_4 : decode cX10_touched 4 = .ok (.iconst 3, 1) := by decide +kernel
theorem dX10_touched_5 : decode cX10_touched 5 = .ok (.iaload, 1) := by decide +kernel
theorem dX10_touched_6 : decode cX10_touched 6 = .ok (.istore_n 3, 1) := by decide +kernel
theorem dX10_touched_7 : decode cX10_touched 7 = .ok (.iload_n 1, 1) := by decide +kernel
theorem dX10_touched_8 : decode cX10_touched 8 = .ok (.iload_n 1, 1) := by decide +kernel
theorem dX10_touched_9 : decode cX10_touched 9 = .ok (.imul, 1) := by decide +kernel
theorem dX10_touched_10 : decode cX10_touched 10 = .ok (.iload_n 2, 1) := by decide +kernel
theorem dX10_touched_11 : decode cX10_touched 11 = .ok (.iload_n 2, 1) := by decide +kernel
theorem dX10_touched_12 : decode cX10_touched 12 = .ok (.imul, 1) := by decide +kernel
theorem dX10_touched_13 : decode cX10_touched 13 = .ok (.iadd, 1) := by decide +kernel
theorem dX10_touched_14 : decode cX10_touched 14 = .ok (.istore 4, 2) := by decide +kernel
theorem dX10_touched_16 : decode cX10_touched 16 = .ok (.aload_n 0, 1) := by decide +kernel
theorem dX10_touched_17 : decode cX10_touched 17 = .ok (.getfield 9, 3) := by decide +kernel
theorem dX10_touched_20 : decode cX10_touched 20 = .ok (.iconst 2, 1) := by decide +kernel
theorem dX10_touched_21 : decode cX10_touched 21 = .ok (.iaload, 1) := by decide +kernel
theorem dX10_touched_22 : decode cX10_touched 22 = .ok (.iconst 2, 1) := by decide +kernel
theorem dX10_touched_23 : decode cX10_touched 23 = .ok (.if_icmp .eq 13, 3) := by decide +kernel
theorem dX10_touched_26 : decode cX10_touched 26 = .ok (.aload_n 0, 1) := by decide +kernel
theorem dX10_touched_27 : decode cX10_touched 27 = .ok (.getfield 9, 3) := by decide +kernel
theorem dX10_touched_30 : decode cX10_touched 30 = .ok (.iconst 2, 1) := by decide +kernel
theorem dX10_touched_31 : decode cX10_touched 31 = .ok (.iaload, 1) := by decide +kernel
theorem dX10_touched_32 : decode cX10_touched 32 = .ok (.iconst 4, 1) := by decide +kernel
theorem dX10_touched_33 : decode cX10_touched 33 = .ok (.if_icmp .ne 57, 3) := by decide +kernel
theorem dX10_touched_36 : decode cX10_touched 36 = .ok (.iload_n 1, 1) := by decide +kernel
theorem dX10_touched_37 : decode cX10_touched 37 = .ok (.invokestatic 102, 3) := by decide +kernel
theorem dX10_touched_40 : decode cX10_touched 40 = .ok (.iload_n 3, 1) := by decide +kernel
theorem dX10_touched_41 : decode cX10_touched 41 = .ok (.if_icmp .gt 33, 3) := by decide +kernel
theorem dX10_touched_44 : decode cX10_touched 44 = .ok (.iload_n 2, 1) := by decide +kernel
theorem dX10_touched_45 : decode cX10_touched 45 = .ok (.invokestatic 102, 3) := by decide +kernel
theorem dX10_touched_48 : decode cX10_touched 48 = .ok (.iload_n 3, 1) := by decide +kernel
theorem dX10_touched_49 : decode cX10_touched 49 = .ok (.if_icmp .gt 25, 3) := by decide +kernel
theorem dX10_touched_52 : decode cX10_touched 52 = .ok (.aload_n 0, 1) := by decide +kernel
theorem dX10_touched_53 : decode cX10_touched 53 = .ok (.getfield 9, 3) := by decide +kernel
theorem dX10_touched_56 : decode cX10_touched 56 = .ok (.iconst 2, 1) := by decide +kernel
theorem dX10_touched_57 : decode cX10_touched 57 = .ok (.iaload, 1) := by decide +kernel
theorem dX10_touched_58 : decode cX10_touched 58 = .ok (.iconst 2, 1) := by decide +kernel
theorem dX10_touched_59 : decode cX10_touched 59 = .ok (.if_icmp .eq 11, 3) := by decide +kernel
theorem dX10_touched_62 : decode cX10_touched 62 = .ok (.iload_n 1, 1) := by decide +kernel
theorem dX10_touched_63 : decode cX10_touched 63 = .ok (.ifCond .eq 7, 3) := by decide +kernel
theorem dX10_touched_66 : decode cX10_touched 66 = .ok (.iload_n 2, 1) := by decide +kernel
theorem dX10_touched_67 : decode cX10_touched 67 = .ok (.ifCond .ne 7, 3) := by decide +kernel
theorem dX10_touched_70 : decode cX10_touched 70 = .ok (.iconst 1, 1) := by decide +kernel
theorem dX10_touched_71 : decode cX10_touched 71 = .ok (.goto 4, 3) := by decide +kernel
theorem dX10_touched_74 : decode cX10_touched 74 = .ok (.iconst 0, 1) := by decide +kernel
theorem dX10_touched_75 : decode cX10_touched 75 = .ok (.istore 5, 2) := by decide +kernel
theorem dX10_touched_77 : decode cX10_touched 77 = .ok (.iload 5, 2) := by decide +kernel
theorem dX10_touched_79 : decode cX10_touched 79 = .ok (.ifCond .eq 9, 3) := by decide +kernel
theorem dX10_touched_82 : decode cX10_touched 82 = .ok (.sipush 255, 3) := by decide +kernel
theorem dX10_touched_85 : decode cX10_touched 85 = .ok (.goto 4, 3) := by decide +kernel
theorem dX10_touched_88 : decode cX10_touched 88 = .ok (.iconst 0, 1) := by decide +kernel
theorem dX10_touched_89 : decode cX10_touched 89 = .ok (.ireturn, 1) := by decide +kernel
theorem dX10_touched_90 : decode cX10_touched 90 = .ok (.iload 4, 2) := by decide +kernel
theorem dX10_touched_92 : decode cX10_touched 92 = .ok (.iload_n 3, 1) := by decide +kernel
theorem dX10_touched_93 : decode cX10_touched 93 = .ok (.iload_n 3, 1) := by decide +kernel
theorem dX10_touched_94 : decode cX10_touched 94 = .ok (.imul, 1) := by decide +kernel
theorem dX10_touched_95 : decode cX10_touched 95 = .ok (.if_icmp .gt 9, 3) := by decide +kernel
theorem dX10_touched_98 : decode cX10_touched 98 = .ok (.sipush 255, 3) := by decide +kernel
theorem dX10_touched_101 : decode cX10_touched 101 = .ok (.goto 4, 3) := by decide +kernel
theorem dX10_touched_104 : decode cX10_touched 104 = .ok (.iconst 0, 1) := by decide +kernel
theorem dX10_touched_105 : decode cX10_touched 105 = .ok (.istore 5, 2) := by decide +kernel
theorem dX10_touched_107 : decode cX10_touched 107 = .ok (.aload_n 0, 1) := by decide +kernel
theorem dX10_touched_108 : decode cX10_touched 108 = .ok (.getfield 9, 3) := by decide +kernel
theorem dX10_touched_111 : decode cX10_touched 111 = .ok (.iconst 2, 1) := by decide +kernel
theorem dX10_touched_112 : decode cX10_touched 112 = .ok (.iaload, 1) := by decide +kernel
theorem dX10_touched_113 : decode cX10_touched 113 = .ok (.ifCond .ne 6, 3) := by decide +kernel
theorem dX10_touched_116 : decode cX10_touched 116 = .ok (.iload 5, 2) := by decide +kernel
theorem dX10_touched_118 : decode cX10_touched 118 = .ok (.ireturn, 1) := by decide +kernel
theorem dX10_touched_119 : decode cX10_touched 119 = .ok (.iload 4, 2) := by decide +kernel
theorem dX10_touched_121 : decode cX10_touched 121 = .ok (.i2f, 1) := by decide +kernel
theorem dX10_touched_122 : decode cX10_touched 122 = .ok (.iload_n 3, 1) := by decide +kernel
theorem dX10_touched_123 : decode cX10_touched 123 = .ok (.iload_n 3, 1) := by decide +kernel
theorem dX10_touched_124 : decode cX10_touched 124 = .ok (.imul, 1) := by decide +kernel
theorem dX10_touched_125 : decode cX10_touched 125 = .ok (.iconst 1, 1) := by decide +kernel
theorem dX10_touched_126 : decode cX10_touched 126 = .ok (.iadd, 1) := by decide +kernel
theorem dX10_touched_127 : decode cX10_touched 127 = .ok (.i2f, 1) := by decide +kernel
theorem dX10_touched_128 : decode cX10_touched 128 = .ok (.fdiv, 1) := by decide +kernel
theorem dX10_touched_129 : decode cX10_touched 129 = .ok (.fstore 6, 2) := by decide +kernel
theorem dX10_touched_131 : decode cX10_touched 131 = .ok (.iload 5, 2) := by decide +kernel
theorem dX10_touched_133 : decode cX10_touched 133 = .ok (.i2f, 1) := by decide +kernel
theorem dX10_touched_134 : decode cX10_touched 134 = .ok (.fconst 1, 1) := by decide +kernel
theorem dX10_touched_135 : decode cX10_touched 135 = .ok (.fload 6, 2) := by decide +kernel
theorem dX10_touched_137 : decode cX10_touched 137 = .ok (.fsub, 1) := by decide +kernel
theorem dX10_touched_138 : decode cX10_touched 138 = .ok (.fmul, 1) := by decide +kernel
theorem dX10_touched_139 : decode cX10_touched 139 = .ok (.f2i, 1) := by decide +kernel
theorem dX10_touched_140 : decode cX10_touched 140 = .ok (.istore 7, 2) := by decide +kernel
theorem dX10_touched_142 : decode cX10_touched 142 = .ok (.aload_n 0, 1) := by decide +kernel
theorem dX10_touched_143 : decode cX10_touched 143 = .ok (.getfield 9, 3) := by decide +kernel
theorem dX10_touched_146 : decode cX10_touched 146 = .ok (.iconst 2, 1) := by decide +kernel
theorem dX10_touched_147 : decode cX10_touched 147 = .ok (.iaload, 1) := by decide +kernel
theorem dX10_touched_148 : decode cX10_touched 148 = .ok (.iconst 1, 1) := by decide +kernel
theorem dX10_touched_149 : decode cX10_touched 149 = .ok (.if_icmp .ne 8, 3) := by decide +kernel
theorem dX10_touched_152 : decode cX10_touched 152 = .ok (.iload 7, 2) := by decide +kernel
theorem dX10_touched_154 : decode cX10_touched 154 = .ok (.goto 18, 3) := by decide +kernel
theorem dX10_touched_157 : decode cX10_touched 157 = .ok (.iload 7, 2) := by decide +kernel
theorem dX10_touched_159 : decode cX10_touched 159 = .ok (.i2f, 1) := by decide +kernel
theorem dX10_touched_160 : decode cX10_touched 160 = .ok (.aload_n 0, 1) := by decide +kernel
theorem dX10_touched_161 : decode cX10_touched 161 = .ok (.getfield 9, 3) := by decide +kernel
theorem dX10_touched_164 : decode cX10_touched 164 = .ok (.iconst 5, 1) := by decide +kernel
theorem dX10_touched_165 : decode cX10_touched 165 = .ok (.iaload, 1) := by decide +kernel
theorem dX10_touched_166 : decode cX10_touched 166 = .ok (.i2f, 1) := by decide +kernel
theorem dX10_touched_167 : decode cX10_touched 167 = .ok (.fmul, 1) := by decide +kernel
theorem dX10_touched_168 : decode cX10_touched 168 = .ok (.ldc 105, 2) := by decide +kernel
theorem dX10_touched_170 : decode cX10_touched 170 = .ok (.fdiv, 1) := by decide +kernel
theorem dX10_touched_171 : decode cX10_touched 171 = .ok (.f2i, 1) := by decide +kernel
theorem dX10_touched_172 : decode cX10_touched 172 = .ok (.ireturn, 1) := by decide +kernel
theorem dX10_touch_0 : decode cX10_touch 0 = .ok (.iload_n 1, 1) := by decide +kernel
theorem dX10_touch_1 : decode cX10_touch 1 = .ok (.bipush (-9), 2) := by decide +kernel
theorem dX10_touch_3 : decode cX10_touch 3 = .ok (.bipush 9, 2) := by decide +kernel
theorem dX10_touch_5 : decode cX10_touch 5 = .ok (.invokestatic 43, 3) := by decide +kernel
theorem dX10_touch_8 : decode cX10_touch 8 = .ok (.ifCond .eq 23, 3) := by decide +kernel
theorem dX10_touch_11 : decode cX10_touch 11 = .ok (.iload_n 2, 1) := by decide +kernel
theorem dX10_touch_12 : decode cX10_touch 12 = .ok (.bipush (-9), 2) := by decide +kernel
theorem dX10_touch_14 : decode cX10_touch 14 = .ok (.bipush 9, 2) := by decide +kernel
theorem dX10_touch_16 : decode cX10_touch 16 = .ok (.invokestatic 43, 3) := by decide +kernel
theorem dX10_touch_19 : decode cX10_touch 19 = .ok (.ifCond .eq 12, 3) := by decide +kernel
theorem dX10_touch_22 : decode cX10_touch 22 = .ok (.aload_n 0, 1) := by decide +kernel
theorem dX10_touch_23 : decode cX10_touch 23 = .ok (.iload_n 1, 1) := by decide +kernel
theorem dX10_touch_24 : decode cX10_touch 24 = .ok (.iload_n 2, 1) := by decide +kernel
theorem dX10_touch_25 : decode cX10_touch 25 = .ok (.invokevirtual 106, 3) := by decide +kernel
theorem dX10_touch_28 : decode cX10_touch 28 = .ok (.goto 5, 3) := by decide +kernel
theorem dX10_touch_31 : decode cX10_touch 31 = .ok (.bipush (-2), 2) := by decide +kernel
theorem dX10_touch_33 : decode cX10_touch 33 = .ok (.ireturn, 1) := by decide +kernel
theorem dX10_masked_0 : decode cX10_masked 0 = .ok (.iconst 0, 1) := by decide +kernel
theorem dX10_masked_1 : decode cX10_masked 1 = .ok (.istore_n 1, 1) := by decide +kernel
theorem dX10_masked_2 : decode cX10_masked 2 = .ok (.iconst 0, 1) := by decide +kernel
theorem dX10_masked_3 : decode cX10_masked 3 = .ok (.istore_n 2, 1) := by decide +kernel
theorem dX10_masked_4 : decode cX10_masked 4 = .ok (.iload_n 2, 1) := by decide +kernel
theorem dX10_masked_5 : decode cX10_masked 5 = .ok (.sipush 192, 3) := by decide +kernel
theorem dX10_masked_8 : decode cX10_masked 8 = .ok (.if_icmp .ge 22, 3) := by decide +kernel
theorem dX10_masked_11 : decode cX10_masked 11 = .ok (.iload_n 1, 1) := by decide +kernel
theorem dX10_masked_12 : decode cX10_masked 12 = .ok (.aload_n 0, 1) := by decide +kernel
theorem dX10_masked_13 : decode cX10_masked 13 = .ok (.getfield 9, 3) := by decide +kernel
theorem dX10_masked_16 : decode cX10_masked 16 = .ok (.sipush 1556, 3) := by decide +kernel
theorem dX10_masked_19 : decode cX10_masked 19 = .ok (.iload_n 2, 1) := by decide +kernel
theorem dX10_masked_20 : decode cX10_masked 20 = .ok (.iadd, 1) := by decide +kernel
theorem dX10_masked_21 : decode cX10_masked 21 = .ok (.iaload, 1) := by decide +kernel
theorem dX10_masked_22 : decode cX10_masked 22 = .ok (.iadd, 1) := by decide +kernel
theorem dX10_masked_23 : decode cX10_masked 23 = .ok (.istore_n 1, 1) := by decide +kernel
theorem dX10_masked_24 : decode cX10_masked 24 = .ok (.iinc 2 1, 3) := by decide +kernel
theorem dX10_masked_27 : decode cX10_masked 27 = .ok (.goto (-23), 3) := by decide +kernel
theorem dX10_masked_30 : decode cX10_masked 30 = .ok (.iload_n 1, 1) := by decide +kernel
theorem dX10_masked_31 : decode cX10_masked 31 = .ok (.ireturn, 1) := by decide +kernel
theorem dX10_looksFree_0 : decode cX10_looksFree 0 = .ok (.aload_n 0, 1) := by decide +kernel
theorem dX10_looksFree_1 : decode cX10_looksFree 1 = .ok (.aload_n 0, 1) := by decide +kernel
theorem dX10_looksFree_2 : decode cX10_looksFree 2 = .ok (.invokevirtual 109, 3) := by decide +kernel
theorem dX10_looksFree_5 : decode cX10_looksFree 5 = .ok (.ifCond .ne 7, 3) := by decide +kernel
theorem dX10_looksFree_8 : decode cX10_looksFree 8 = .ok (.iconst 1, 1) := by decide +kernel
theorem dX10_looksFree_9 : decode cX10_looksFree 9 = .ok (.goto 4, 3) := by decide +kernel
theorem dX10_looksFree_12 : decode cX10_looksFree 12 = .ok (.iconst 0, 1) := by decide +kernel
theorem dX10_looksFree_13 : decode cX10_looksFree 13 = .ok (.putfield 113, 3) := by decide +kernel
theorem dX10_looksFree_16 : decode cX10_looksFree 16 = .ok (.return_, 1) := by decide +kernel
theorem dX10_isFree_0 : decode cX10_isFree 0 = .ok (.aload_n 0, 1) := by decide +kernel
theorem dX10_isFree_1 : decode cX10_isFree 1 = .ok (.getfield 113, 3) := by decide +kernel
theorem dX10_isFree_4 : decode cX10_isFree 4 = .ok (.ifCond .ne 17, 3) := by decide +kernel
theorem dX10_isFree_7 : decode cX10_isFree 7 = .ok (.aload_n 0, 1) := by decide +kernel
theorem dX10_isFree_8 : decode cX10_isFree 8 = .ok (.getfield 9, 3) := by decide +kernel
theorem dX10_isFree_11 : decode cX10_isFree 11 = .ok (.sipush 1556, 3) := by decide +kernel
theorem dX10_isFree_14 : decode cX10_isFree 14 = .ok (.iload_n 1, 1) := by decide +kernel
theorem dX10_isFree_15 : decode cX10_isFree 15 = .ok (.iadd, 1) := by decide +kernel
theorem dX10_isFree_16 : decode cX10_isFree 16 = .ok (.iaload, 1) := by decide +kernel
theorem dX10_isFree_17 : decode cX10_isFree 17 = .ok (.iconst 1, 1) := by decide +kernel
theorem dX10_isFree_18 : decode cX10_isFree 18 = .ok (.if_icmp .ne 7, 3) := by decide +kernel
theorem dX10_isFree_21 : decode cX10_isFree 21 = .ok (.iconst 1, 1) := by decide +kernel
theorem dX10_isFree_22 : decode cX10_isFree 22 = .ok (.goto 4, 3) := by decide +kernel
theorem dX10_isFree_25 : decode cX10_isFree 25 = .ok (.iconst 0, 1) := by decide +kernel
theorem dX10_isFree_26 : decode cX10_isFree 26 = .ok (.ireturn, 1) := by decide +kernel
theorem dX10_paints_0 : decode cX10_paints 0 = .ok (.bipush 20, 2) := by decide +kernel
theorem dX10_paints_2 : decode cX10_paints 2 = .ok (.sipush 192, 3) := by decide +kernel
theorem dX10_paints_5 : decode cX10_paints 5 = .ok (.iload_n 1, 1) := by decide +kernel
theorem dX10_paints_6 : decode cX10_paints 6 = .ok (.imul, 1) := by decide +kernel
theorem dX10_paints_7 : decode cX10_paints 7 = .ok (.iadd, 1) := by decide +kernel
theorem dX10_paints_8 : decode cX10_paints 8 = .ok (.iload_n 2, 1) := by decide +kernel
theorem dX10_paints_9 : decode cX10_paints 9 = .ok (.iadd, 1) := by decide +kernel
theorem dX10_paints_10 : decode cX10_paints 10 = .ok (.istore 4, 2) := by decide +kernel
theorem dX10_paints_12 : decode cX10_paints 12 = .ok (.sipush 788, 3) := by decide +kernel
theorem dX10_paints_15 : decode cX10_paints 15 = .ok (.sipush 192, 3) := by decide +kernel
theorem dX10_paints_18 : decode cX10_paints 18 = .ok (.iload_n 1, 1) := by decide +kernel
theorem dX10_paints_19 : decode cX10_paints 19 = .ok (.imul, 1) := by decide +kernel
theorem dX10_paints_20 : decode cX10_paints 20 = .ok (.iadd, 1) := by decide +kernel
theorem dX10_paints_21 : decode cX10_paints 21 = .ok (.iload_n 2, 1) := by decide +kernel
theorem dX10_paints_22 : decode cX10_paints 22 = .ok (.iadd, 1) := by decide +kernel
theorem dX10_paints_23 : decode cX10_paints 23 = .ok (.istore 5, 2) := by decide +kernel
theorem dX10_paints_25 : decode cX10_paints 25 = .ok (.aload_n 0, 1) := by decide +kernel
theorem dX10_paints_26 : decode cX10_paints 26 = .ok (.getfield 9, 3) := by decide +kernel
theorem dX10_paints_29 : decode cX10_paints 29 = .ok (.iconst 4, 1) := by decide +kernel
theorem dX10_paints_30 : decode cX10_paints 30 = .ok (.iaload, 1) := by decide +kernel
theorem dX10_paints_31 : decode cX10_paints 31 = .ok (.iconst (-1), 1) := by decide +kernel
theorem dX10_paints_32 : decode cX10_paints 32 = .ok (.if_icmp .ne 48, 3) := by decide +kernel
theorem dX10_paints_35 : decode cX10_paints 35 = .ok (.aload_n 0, 1) := by decide +kernel
theorem dX10_paints_36 : decode cX10_paints 36 = .ok (.getfield 9, 3) := by decide +kernel
theorem dX10_paints_39 : decode cX10_paints 39 = .ok (.iload 5, 2) := by decide +kernel
theorem dX10_paints_41 : decode cX10_paints 41 = .ok (.aload_n 0, 1) := by decide +kernel
theorem dX10_paints_42 : decode cX10_paints 42 = .ok (.getfield 9, 3) := by decide +kernel
theorem dX10_paints_45 : decode cX10_paints 45 = .ok (.iload 5, 2) := by decide +kernel
theorem dX10_paints_47 : decode cX10_paints 47 = .ok (.iaload, 1) := by decide +kernel
theorem dX10_paints_48 : decode cX10_paints 48 = .ok (.sipush 255, 3) := by decide +kernel
theorem dX10_paints_51 : decode cX10_paints 51 = .ok (.iload_n 3, 1) := by decide +kernel
theorem dX10_paints_52 : decode cX10_paints 52 = .ok (.isub, 1) := by decide +kernel
theorem dX10_paints_53 : decode cX10_paints 53 = .ok (.imul, 1) := by decide +kernel
theorem dX10_paints_54 : decode cX10_paints 54 = .ok (.sipush 255, 3) := by decide +kernel
theorem dX10_paints_57 : decode cX10_paints 57 = .ok (.idiv, 1) := by decide +kernel
theorem dX10_paints_58 : decode cX10_paints 58 = .ok (.iastore, 1) := by decide +kernel
theorem dX10_paints_59 : decode cX10_paints 59 = .ok (.aload_n 0, 1) := by decide +kernel
theorem dX10_paints_60 : decode cX10_paints 60 = .ok (.getfield 9, 3) := by decide +kernel
theorem dX10_paints_63 : decode cX10_paints 63 = .ok (.iload 5, 2) := by decide +kernel
theorem dX10_paints_65 : decode cX10_paints 65 = .ok (.iaload, 1) := by decide +kernel
theorem dX10_paints_66 : decode cX10_paints 66 = .ok (.ifCond .ne 99, 3) := by decide +kernel
theorem dX10_paints_69 : decode cX10_paints 69 = .ok (.aload_n 0, 1) := by decide +kernel
theorem dX10_paints_70 : decode cX10_paints 70 = .ok (.getfield 9, 3) := by decide +kernel
theorem dX10_paints_73 : decode cX10_paints 73 = .ok (.iload 4, 2) := by decide +kernel
theorem dX10_paints_75 : decode cX10_paints 75 = .ok (.iconst 0, 1) := by decide +kernel
theorem dX10_paints_76 : decode cX10_paints 76 = .ok (.iastore, 1) := by decide +kernel
theorem dX10_paints_77 : decode cX10_paints 77 = .ok (.goto 88, 3) := by decide +kernel
theorem dX10_paints_80 : decode cX10_paints 80 = .ok (.iload_n 3, 1) := by decide +kernel
theorem dX10_paints_81 : decode cX10_paints 81 = .ok (.ifCond .eq 84, 3) := by decide +kernel
theorem dX10_paints_84 : decode cX10_paints 84 = .ok (.aload_n 0, 1) := by decide +kernel
theorem dX10_paints_85 : decode cX10_paints 85 = .ok (.getfield 9, 3) := by decide +kernel
theorem dX10_paints_88 : decode cX10_paints 88 = .ok (.iload 4, 2) := by decide +kernel
theorem dX10_paints_90 : decode cX10_paints 90 = .ok (.aload_n 0, 1) := by decide +kernel
theorem dX10_paints_91 : decode cX10_paints 91 = .ok (.getfield 9, 3) := by decide +kernel
theorem dX10_paints_94 : decode cX10_paints 94 = .ok (.iload 5, 2) := by decide +kernel
theorem dX10_paints_96 : decode cX10_paints 96 = .ok (.iaload, 1) := by decide +kernel
theorem dX10_paints_97 : decode cX10_paints 97 = .ok (.ifCond .ne 12, 3) := by decide +kernel
theorem dX10_paints_100 : decode cX10_paints 100 = .ok (.aload_n 0, 1) := by decide +kernel
theorem dX10_paints_101 : decode cX10_paints 101 = .ok (.getfield 9, 3) := by decide +kernel
theorem dX10_paints_104 : decode cX10_paints 104 = .ok (.iconst 4, 1) := by decide +kernel
theorem dX10_paints_105 : decode cX10_paints 105 = .ok (.iaload, 1) := by decide +kernel
theorem dX10_paints_106 : decode cX10_paints 106 = .ok (.goto 31, 3) := by decide +kernel
theorem dX10_paints_109 : decode cX10_paints 109 = .ok (.aload_n 0, 1) := by decide +kernel
theorem dX10_paints_110 : decode cX10_paints 110 = .ok (.getfield 9, 3) := by decide +kernel
theorem dX10_paints_113 : decode cX10_paints 113 = .ok (.iload 4, 2) := by decide +kernel
theorem dX10_paints_115 : decode cX10_paints 115 = .ok (.iaload, 1) := by decide +kernel
theorem dX10_paints_116 : decode cX10_paints 116 = .ok (.aload_n 0, 1) := by decide +kernel
theorem dX10_paints_117 : decode cX10_paints 117 = .ok (.getfield 9, 3) := by decide +kernel
theorem dX10_paints_120 : decode cX10_paints 120 = .ok (.iconst 4, 1) := by decide +kernel
theorem dX10_paints_121 : decode cX10_paints 121 = .ok (.iaload, 1) := by decide +kernel
theorem dX10_paints_122 : decode cX10_paints 122 = .ok (.aload_n 0, 1) := by decide +kernel
theorem dX10_paints_123 : decode cX10_paints 123 = .ok (.getfield 9, 3) := by decide +kernel
theorem dX10_paints_126 : decode cX10_paints 126 = .ok (.iload 4, 2) := by decide +kernel
theorem dX10_paints_128 : decode cX10_paints 128 = .ok (.iaload, 1) := by decide +kernel
theorem dX10_paints_129 : decode cX10_paints 129 = .ok (.isub, 1) := by decide +kernel
theorem dX10_paints_130 : decode cX10_paints 130 = .ok (.iload_n 3, 1) := by decide +kernel
theorem dX10_paints_131 : decode cX10_paints 131 = .ok (.imul, 1) := by decide +kernel
theorem dX10_paints_132 : decode cX10_paints 132 = .ok (.sipush 255, 3) := by decide +kernel
theorem dX10_paints_135 : decode cX10_paints 135 = .ok (.idiv, 1) := by decide +kernel
theorem dX10_paints_136 : decode cX10_paints 136 = .ok (.iadd, 1) := by decide +kernel
theorem dX10_paints_137 : decode cX10_paints 137 = .ok (.iastore, 1) := by decide +kernel
theorem dX10_paints_138 : decode cX10_paints 138 = .ok (.aload_n 0, 1) := by decide +kernel
theorem dX10_paints_139 : decode cX10_paints 139 = .ok (.getfield 9, 3) := by decide +kernel
theorem dX10_paints_142 : decode cX10_paints 142 = .ok (.iload 5, 2) := by decide +kernel
theorem dX10_paints_144 : decode cX10_paints 144 = .ok (.dup2, 1) := by decide +kernel
theorem dX10_paints_145 : decode cX10_paints 145 = .ok (.iaload, 1) := by decide +kernel
theorem dX10_paints_146 : decode cX10_paints 146 = .ok (.sipush 255, 3) := by decide +kernel
theorem dX10_paints_149 : decode cX10_paints 149 = .ok (.aload_n 0, 1) := by decide +kernel
theorem dX10_paints_150 : decode cX10_paints 150 = .ok (.getfield 9, 3) := by decide +kernel
theorem dX10_paints_153 : decode cX10_paints 153 = .ok (.iload 5, 2) := by decide +kernel
theorem dX10_paints_155 : decode cX10_paints 155 = .ok (.iaload, 1) := by decide +kernel
theorem dX10_paints_156 : decode cX10_paints 156 = .ok (.isub, 1) := by decide +kernel
theorem dX10_paints_157 : decode cX10_paints 157 = .ok (.iload_n 3, 1) := by decide +kernel
theorem dX10_paints_158 : decode cX10_paints 158 = .ok (.imul, 1) := by decide +kernel
theorem dX10_paints_159 : decode cX10_paints 159 = .ok (.sipush 255, 3) := by decide +kernel
theorem dX10_paints_162 : decode cX10_paints 162 = .ok (.idiv, 1) := by decide +kernel
theorem dX10_paints_163 : decode cX10_paints 163 = .ok (.iadd, 1) := by decide +kernel
theorem dX10_paints_164 : decode cX10_paints 164 = .ok (.iastore, 1) := by decide +kernel
theorem dX10_paints_165 : decode cX10_paints 165 = .ok (.return_, 1) := by decide +kernel
theorem dX10_stamps_0 : decode cX10_stamps 0 = .ok (.iconst 0, 1) := by decide +kernel
theorem dX10_stamps_1 : decode cX10_stamps 1 = .ok (.istore 4, 2) := by decide +kernel
theorem dX10_stamps_3 : decode cX10_stamps 3 = .ok (.iload 4, 2) := by decide +kernel
theorem dX10_stamps_5 : decode cX10_stamps 5 = .ok (.sipush 192, 3) := by decide +kernel
theorem dX10_stamps_8 : decode cX10_stamps 8 = .ok (.if_icmp .ge 43, 3) := by decide +kernel
theorem dX10_stamps_11 : decode cX10_stamps 11 = .ok (.aload_n 0, 1) := by decide +kernel
theorem dX10_stamps_12 : decode cX10_stamps 12 = .ok (.iload 4, 2) := by decide +kernel
theorem dX10_stamps_14 : decode cX10_stamps 14 = .ok (.invokevirtual 117, 3) := by decide +kernel
theorem dX10_stamps_17 : decode cX10_stamps 17 = .ok (.ifCond .eq 28, 3) := by decide +kernel
theorem dX10_stamps_20 : decode cX10_stamps 20 = .ok (.aload_n 0, 1) := by decide +kernel
theorem dX10_stamps_21 : decode cX10_stamps 21 = .ok (.iload_n 1, 1) := by decide +kernel
theorem dX10_stamps_22 : decode cX10_stamps 22 = .ok (.iload 4, 2) := by decide +kernel
theorem dX10_stamps_24 : decode cX10_stamps 24 = .ok (.aload_n 0, 1) := by decide +kernel
theorem dX10_stamps_25 : decode cX10_stamps 25 = .ok (.iload 4, 2) := by decide +kernel
theorem dX10_stamps_27 : decode cX10_stamps 27 = .ok (.bipush 16, 2) := by decide +kernel
theorem dX10_stamps_29 : decode cX10_stamps 29 = .ok (.irem, 1) := by decide +kernel
theorem dX10_stamps_30 : decode cX10_stamps 30 = .ok (.iload_n 2, 1) := by decide +kernel
theorem dX10_stamps_31 : decode cX10_stamps 31 = .ok (.isub, 1) := by decide +kernel
theorem dX10_stamps_32 : decode cX10_stamps 32 = .ok (.iload 4, 2) := by decide +kernel
theorem dX10_stamps_34 : decode cX10_stamps 34 = .ok (.bipush 16, 2) := by decide +kernel
theorem dX10_stamps_36 : decode cX10_stamps 36 = .ok (.idiv, 1) := by decide +kernel
theorem dX10_stamps_37 : decode cX10_stamps 37 = .ok (.iload_n 3, 1) := by decide +kernel
theorem dX10_stamps_38 : decode cX10_stamps 38 = .ok (.isub, 1) := by decide +kernel
theorem dX10_stamps_39 : decode cX10_stamps 39 = .ok (.invokevirtual 106, 3) := by decide +kernel
theorem dX10_stamps_42 : decode cX10_stamps 42 = .ok (.invokevirtual 120, 3) := by decide +kernel
theorem dX10_stamps_45 : decode cX10_stamps 45 = .ok (.iinc 4 1, 3) := by decide +kernel
theorem dX10_stamps_48 : decode cX10_stamps 48 = .ok (.goto (-45), 3) := by decide +kernel
theorem dX10_stamps_51 : decode cX10_stamps 51 = .ok (.return_, 1) := by decide +kernel
theorem dX10_feed_0 : decode cX10_feed 0 = .ok (.iload_n 2, 1) := by decide +kernel
theorem dX10_feed_1 : decode cX10_feed 1 = .ok (.invokestatic 63, 3) := by decide +kernel
theorem dX10_feed_4 : decode cX10_feed 4 = .ok (.ifCond .eq 38, 3) := by decide +kernel
theorem dX10_feed_7 : decode cX10_feed 7 = .ok (.iload_n 3, 1) := by decide +kernel
theorem dX10_feed_8 : decode cX10_feed 8 = .ok (.invokestatic 63, 3) := by decide +kernel
theorem dX10_feed_11 : decode cX10_feed 11 = .ok (.ifCond .eq 31, 3) := by decide +kernel
theorem dX10_feed_14 : decode cX10_feed 14 = .ok (.iload 4, 2) := by decide +kernel
theorem dX10_feed_16 : decode cX10_feed 16 = .ok (.invokestatic 63, 3) := by decide +kernel
theorem dX10_feed_19 : decode cX10_feed 19 = .ok (.ifCond .eq 23, 3) := by decide +kernel
theorem dX10_feed_22 : decode cX10_feed 22 = .ok (.iload 5, 2) := by decide +kernel
theorem dX10_feed_24 : decode cX10_feed 24 = .ok (.invokestatic 63, 3) := by decide +kernel
theorem dX10_feed_27 : decode cX10_feed 27 = .ok (.ifCond .eq 15, 3) := by decide +kernel
theorem dX10_feed_30 : decode cX10_feed 30 = .ok (.iload 6, 2) := by decide +kernel
theorem dX10_feed_32 : decode cX10_feed 32 = .ok (.invokestatic 63, 3) := by decide +kernel
theorem dX10_feed_35 : decode cX10_feed 35 = .ok (.ifCond .eq 7, 3) := by decide +kernel
theorem dX10_feed_38 : decode cX10_feed 38 = .ok (.iconst 1, 1) := by decide +kernel
theorem dX10_feed_39 : decode cX10_feed 39 = .ok (.goto 4, 3) := by decide +kernel
theorem dX10_feed_42 : decode cX10_feed 42 = .ok (.iconst 0, 1) := by decide +kernel
theorem dX10_feed_43 : decode cX10_feed 43 = .ok (.istore 7, 2) := by decide +kernel
theorem dX10_feed_45 : decode cX10_feed 45 = .ok (.iload_n 1, 1) := by decide +kernel
theorem dX10_feed_46 : decode cX10_feed 46 = .ok (.iconst 1, 1) := by decide +kernel
theorem dX10_feed_47 : decode cX10_feed 47 = .ok (.iconst 5, 1) := by decide +kernel
theorem dX10_feed_48 : decode cX10_feed 48 = .ok (.invokestatic 43, 3) := by decide +kernel
theorem dX10_feed_51 : decode cX10_feed 51 = .ok (.ifCond .eq 8, 3) := by decide +kernel
theorem dX10_feed_54 : decode cX10_feed 54 = .ok (.iload 7, 2) := by decide +kernel
theorem dX10_feed_56 : decode cX10_feed 56 = .ok (.ifCond .ne 6, 3) := by decide +kernel
theorem dX10_feed_59 : decode cX10_feed 59 = .ok (.bipush (-2), 2) := by decide +kernel
theorem dX10_feed_61 : decode cX10_feed 61 = .ok (.ireturn, 1) := by decide +kernel
theorem dX10_feed_62 : decode cX10_feed 62 = .ok (.aload_n 0, 1) := by decide +kernel
theorem dX10_feed_63 : decode cX10_feed 63 = .ok (.getfield 124, 3) := by decide +kernel
theorem dX10_feed_66 : decode cX10_feed 66 = .ok (.iload_n 1, 1) := by decide +kernel
theorem dX10_feed_67 : decode cX10_feed 67 = .ok (.iadd, 1) := by decide +kernel
theorem dX10_feed_68 : decode cX10_feed 68 = .ok (.bipush 60, 2) := by decide +kernel
theorem dX10_feed_70 : decode cX10_feed 70 = .ok (.if_icmp .le 6, 3) := by decide +kernel
theorem dX10_feed_73 : decode cX10_feed 73 = .ok (.bipush (-4), 2) := by decide +kernel
theorem dX10_feed_75 : decode cX10_feed 75 = .ok (.ireturn, 1) := by decide +kernel
theorem dX10_feed_76 : decode cX10_feed 76 = .ok (.iconst 0, 1) := by decide +kernel
theorem dX10_feed_77 : decode cX10_feed 77 = .ok (.istore 8, 2) := by decide +kernel
theorem dX10_feed_79 : decode cX10_feed 79 = .ok (.iload 8, 2) := by decide +kernel
theorem dX10_feed_81 : decode cX10_feed 81 = .ok (.iload_n 1, 1) := by decide +kernel
theorem dX10_feed_82 : decode cX10_feed 82 = .ok (.if_icmp .ge 64, 3) := by decide +kernel
theorem dX10_feed_85 : decode cX10_feed 85 = .ok (.aload_n 0, 1) := by decide +kernel
theorem dX10_feed_86 : decode cX10_feed 86 = .ok (.getfield 16, 3) := by decide +kernel
theorem dX10_feed_89 : decode cX10_feed 89 = .ok (.aload_n 0, 1) := by decide +kernel
theorem dX10_feed_90 : decode cX10_feed 90 = .ok (.getfield 124, 3) := by decide +kernel
theorem dX10_feed_93 : decode cX10_feed 93 = .ok (.iload 8, 2) := by decide +kernel
theorem dX10_feed_95 : decode cX10_feed 95 = .ok (.iadd, 1) := by decide +kernel
theorem dX10_feed_96 : decode cX10_feed 96 = .ok (.iload 8, 2) := by decide +kernel
theorem dX10_feed_98 : decode cX10_feed 98 = .ok (.ifCond .ne 7, 3) := by decide +kernel
theorem dX10_feed_101 : decode cX10_feed 101 = .ok (.iload_n 2, 1) := by decide +kernel
theorem dX10_feed_102 : decode cX10_feed 102 = .ok (.goto 37, 3) := by decide +kernel
theorem dX10_feed_105 : decode cX10_feed 105 = .ok (.iload 8, 2) := by decide +kernel
theorem dX10_feed_107 : decode cX10_feed 107 = .ok (.iconst 1, 1) := by decide +kernel
theorem dX10_feed_108 : decode cX10_feed 108 = .ok (.if_icmp .ne 7, 3) := by decide +kernel
theorem dX10_feed_111 : decode cX10_feed 111 = .ok (.iload_n 3, 1) := by decide +kernel
theorem dX10_feed_112 : decode cX10_feed 112 = .ok (.goto 27, 3) := by decide +kernel
theorem dX10_feed_115 : decode cX10_feed 115 = .ok (.iload 8, 2) := by decide +kernel
theorem dX10_feed_117 : decode cX10_feed 117 = .ok (.iconst 2, 1) := by decide +kernel
theorem dX10_feed_118 : decode cX10_feed 118 = .ok (.if_icmp .ne 8, 3) := by decide +kernel
theorem dX10_feed_121 : decode cX10_feed 121 = .ok (.iload 4, 2) := by decide +kernel
theorem dX10_feed_123 : decode cX10_feed 123 = .ok (.goto 16, 3) := by decide +kernel
theorem dX10_feed_126 : decode cX10_feed 126 = .ok (.iload 8, 2) := by decide +kernel
theorem dX10_feed_128 : decode cX10_feed 128 = .ok (.iconst 3, 1) := by decide +kernel
theorem dX10_feed_129 : decode cX10_feed 129 = .ok (.if_icmp .ne 8, 3) := by decide +kernel
theorem dX10_feed_132 : decode cX10_feed 132 = .ok (.iload 5, 2) := by decide +kernel
theorem dX10_feed_134 : decode cX10_feed 134 = .ok (.goto 5, 3) := by decide +kernel
theorem dX10_feed_137 : decode cX10_feed 137 = .ok (.iload 6, 2) := by decide +kernel
theorem dX10_feed_139 : decode cX10_feed 139 = .ok (.iastore, 1) := by decide +kernel
theorem dX10_feed_140 : decode cX10_feed 140 = .ok (.iinc 8 1, 3) := by decide +kernel
theorem dX10_feed_143 : decode cX10_feed 143 = .ok (.goto (-64), 3) := by decide +kernel
theorem dX10_feed_146 : decode cX10_feed 146 = .ok (.aload_n 0, 1) := by decide +kernel
theorem dX10_feed_147 : decode cX10_feed 147 = .ok (.dup, 1) := by decide +kernel
theorem dX10_feed_148 : decode cX10_feed 148 = .ok (.getfield 124, 3) := by decide +kernel
theorem dX10_feed_151 : decode cX10_feed 151 = .ok (.iload_n 1, 1) := by decide +kernel
theorem dX10_feed_152 : decode cX10_feed 152 = .ok (.iadd, 1) := by decide +kernel
theorem dX10_feed_153 : decode cX10_feed 153 = .ok (.putfield 124, 3) := by decide +kernel
theorem dX10_feed_156 : decode cX10_feed 156 = .ok (.aload_n 0, 1) := by decide +kernel
theorem dX10_feed_157 : decode cX10_feed 157 = .ok (.getfield 124, 3) := by decide +kernel
theorem dX10_feed_160 : decode cX10_feed 160 = .ok (.ireturn, 1) := by decide +kernel
theorem dX10_here_0 : decode cX10_here 0 = .ok (.aload_n 0, 1) := by decide +kernel
theorem dX10_here_1 : decode cX10_here 1 = .ok (.getfield 128, 3) := by decide +kernel
theorem dX10_here_4 : decode cX10_here 4 = .ok (.aload_n 0, 1) := by decide +kernel
theorem dX10_here_5 : decode cX10_here 5 = .ok (.getfield 124, 3) := by decide +kernel
theorem dX10_here_8 : decode cX10_here 8 = .ok (.if_icmp .ge 15, 3) := by decide +kernel
theorem dX10_here_11 : decode cX10_here 11 = .ok (.aload_n 0, 1) := by decide +kernel
theorem dX10_here_12 : decode cX10_here 12 = .ok (.getfield 16, 3) := by decide +kernel
theorem dX10_here_15 : decode cX10_here 15 = .ok (.aload_n 0, 1) := by decide +kernel
theorem dX10_here_16 : decode cX10_here 16 = .ok (.getfield 128, 3) := by decide +kernel
theorem dX10_here_19 : decode cX10_here 19 = .ok (.iaload, 1) := by decide +kernel
theorem dX10_here_20 : decode cX10_here 20 = .ok (.goto 4, 3) := by decide +kernel
theorem dX10_here_23 : decode cX10_here 23 = .ok (.iconst (-1), 1) := by decide +kernel
theorem dX10_here_24 : decode cX10_here 24 = .ok (.ireturn, 1) := by decide +kernel
theorem dX10_isWord_0 : decode cX10_isWord 0 = .ok (.aload_n 0, 1) := by decide +kernel
theorem dX10_isWord_1 : decode cX10_isWord 1 = .ok (.getfield 128, 3) := by decide +kernel
theorem dX10_isWord_4 : decode cX10_isWord 4 = .ok (.aload_n 0, 1) := by decide +kernel
theorem dX10_isWord_5 : decode cX10_isWord 5 = .ok (.getfield 131, 3) := by decide +kernel
theorem dX10_isWord_8 : decode cX10_isWord 8 = .ok (.isub, 1) := by decide +kernel
theorem dX10_isWord_9 : decode cX10_isWord 9 = .ok (.aload_n 1, 1) := by decide +kernel
theorem dX10_isWord_10 : decode cX10_isWord 10 = .ok (.invokevirtual 134, 3) := by decide +kernel
theorem dX10_isWord_13 : decode cX10_isWord 13 = .ok (.if_icmp .eq 5, 3) := by decide +kernel
theorem dX10_isWord_16 : decode cX10_isWord 16 = .ok (.iconst 0, 1) := by decide +kernel
theorem dX10_isWord_17 : decode cX10_isWord 17 = .ok (.ireturn, 1) := by decide +kernel
theorem dX10_isWord_18 : decode cX10_isWord 18 = .ok (.iconst 1, 1) := by decide +kernel
theorem dX10_isWord_19 : decode cX10_isWord 19 = .ok (.istore_n 2, 1) := by decide +kernel
theorem dX10_isWord_20 : decode cX10_isWord 20 = .ok (.iconst 0, 1) := by decide +kernel
theorem dX10_isWord_21 : decode cX10_isWord 21 = .ok (.istore_n 3, 1) := by decide +kernel
theorem dX10_isWord_22 : decode cX10_isWord 22 = .ok (.iload_n 3, 1) := by decide +kernel
theorem dX10_isWord_23 : decode cX10_isWord 23 = .ok (.aload_n 1, 1) := by decide +kernel
theorem dX10_isWord_24 : decode cX10_isWord 24 = .ok (.invokevirtual 134, 3) := by decide +kernel
theorem dX10_isWord_27 : decode cX10_isWord 27 = .ok (.if_icmp .ge 36, 3) := by decide +kernel
theorem dX10_isWord_30 : decode cX10_isWord 30 = .ok (.iload_n 2, 1) := by decide +kernel
theorem dX10_isWord_31 : decode cX10_isWord 31 = .ok (.aload_n 0, 1) := by decide +kernel
theorem dX10_isWord_32 : decode cX10_isWord 32 = .ok (.getfield 16, 3) := by decide +kernel
theorem dX10_isWord_35 : decode cX10_isWord 35 = .ok (.aload_n 0, 1) := by decide +kernel
theorem dX10_isWord_36 : decode cX10_isWord 36 = .ok (.getfield 131, 3) := by decide +kernel
theorem dX10_isWord_39 : decode cX10_isWord 39 = .ok (.iload_n 3, 1) := by decide +kernel
theorem dX10_isWord_40 : decode cX10_isWord 40 = .ok (.iadd, 1) := by decide +kernel
theorem dX10_isWord_41 : decode cX10_isWord 41 = .ok (.iaload, 1) := by decide +kernel
theorem dX10_isWord_42 : decode cX10_isWord 42 = .ok (.aload_n 1, 1) := by decide +kernel
theorem dX10_isWord_43 : decode cX10_isWord 43 = .ok (.iload_n 3, 1) := by decide +kernel
theorem dX10_isWord_44 : decode cX10_isWord 44 = .ok (.invokevirtual 139, 3) := by decide +kernel
theorem dX10_isWord_47 : decode cX10_isWord 47 = .ok (.if_icmp .ne 7, 3) := by decide +kernel
theorem dX10_isWord_50 : decode cX10_isWord 50 = .ok (.iconst 1, 1) := by decide +kernel
theorem dX10_isWord_51 : decode cX10_isWord 51 = .ok (.goto 4, 3) := by decide +kernel
theorem dX10_isWord_54 : decode cX10_isWord 54 = .ok (.iconst 0, 1) := by decide +kernel
theorem dX10_isWord_55 : decode cX10_isWord 55 = .ok (.iand, 1) := by decide +kernel
theorem dX10_isWord_56 : decode cX10_isWord 56 = .ok (.istore_n 2, 1) := by decide +kernel
theorem dX10_isWord_57 : decode cX10_isWord 57 = .ok (.iinc 3 1, 3) := by decide +kernel
theorem dX10_isWord_60 : decode cX10_isWord 60 = .ok (.goto (-38), 3) := by decide +kernel
theorem dX10_isWord_63 : decode cX10_isWord 63 = .ok (.iload_n 2, 1) := by decide +kernel
theorem dX10_isWord_64 : decode cX10_isWord 64 = .ok (.ireturn, 1) := by decide +kernel
theorem dX10_next_0 : decode cX10_next 0 = .ok (.aload_n 0, 1) := by decide +kernel
theorem dX10_next_1 : decode cX10_next 1 = .ok (.invokevirtual 143, 3) := by decide +kernel
theorem dX10_next_4 : decode cX10_next 4 = .ok (.bipush 32, 2) := by decide +kernel
theorem dX10_next_6 : decode cX10_next 6 = .ok (.if_icmp .eq 12, 3) := by decide +kernel
theorem dX10_next_9 : decode cX10_next 9 = .ok (.aload_n 0, 1) := by decide +kernel
theorem dX10_next_10 : decode cX10_next 10 = .ok (.invokevirtual 143, 3) := by decide +kernel
theorem dX10_next_13 : decode cX10_next 13 = .ok (.bipush 10, 2) := by decide +kernel
theorem dX10_next_15 : decode cX10_next 15 = .ok (.if_icmp .ne 16, 3) := by decide +kernel
theorem dX10_next_18 : decode cX10_next 18 = .ok (.aload_n 0, 1) := by decide +kernel
theorem dX10_next_19 : decode cX10_next 19 = .ok (.dup, 1) := by decide +kernel
theorem dX10_next_20 : decode cX10_next 20 = .ok (.getfield 128, 3) := by decide +kernel
theorem dX10_next_23 : decode cX10_next 23 = .ok (.iconst 1, 1) := by decide +kernel
theorem dX10_next_24 : decode cX10_next 24 = .ok (.iadd, 1) := by decide +kernel
theorem dX10_next_25 : decode cX10_next 25 = .ok (.putfield 128, 3) := by decide +kernel
theorem dX10_next_28 : decode cX10_next 28 = .ok (.goto (-28), 3) := by decide +kernel
theorem dX10_next_31 : decode cX10_next 31 = .ok (.aload_n 0, 1) := by decide +kernel
theorem dX10_next_32 : decode cX10_next 32 = .ok (.aload_n 0, 1) := by decide +kernel
theorem dX10_next_33 : decode cX10_next 33 = .ok (.getfield 128, 3) := by decide +kernel
theorem dX10_next_36 : decode cX10_next 36 = .ok (.putfield 131, 3) := by decide +kernel
theorem dX10_next_39 : decode cX10_next 39 = .ok (.aload_n 0, 1) := by decide +kernel
theorem dX10_next_40 : decode cX10_next 40 = .ok (.aload_n 0, 1) := by decide +kernel
theorem dX10_next_41 : decode cX10_next 41 = .ok (.getfield 128, 3) := by decide +kernel
theorem dX10_next_44 : decode cX10_next 44 = .ok (.aload_n 0, 1) := by decide +kernel
theorem dX10_next_45 : decode cX10_next 45 = .ok (.getfield 124, 3) := by decide +kernel
theorem dX10_next_48 : decode cX10_next 48 = .ok (.if_icmp .ne 7, 3) := by decide +kernel
theorem dX10_next_51 : decode cX10_next 51 = .ok (.iconst 0, 1) := by decide +kernel
theorem dX10_next_52 : decode cX10_next 52 = .ok (.goto 4, 3) := by decide +kernel
theorem dX10_next_55 : decode cX10_next 55 = .ok (.iconst 1, 1) := by decide +kernel
theorem dX10_next_56 : decode cX10_next 56 = .ok (.putfield 146, 3) := by decide +kernel
theorem dX10_next_59 : decode cX10_next 59 = .ok (.aload_n 0, 1) := by decide +kernel
theorem dX10_next_60 : decode cX10_next 60 = .ok (.invokevirtual 143, 3) := by decide +kernel
theorem dX10_next_63 : decode cX10_next 63 = .ok (.bipush 48, 2) := by decide +kernel
theorem dX10_next_65 : decode cX10_next 65 = .ok (.bipush 57, 2) := by decide +kernel
theorem dX10_next_67 : decode cX10_next 67 = .ok (.invokestatic 43, 3) := by decide +kernel
theorem dX10_next_70 : decode cX10_next 70 = .ok (.ifCond .eq 83, 3) := by decide +kernel
theorem dX10_next_73 : decode cX10_next 73 = .ok (.aload_n 0, 1) := by decide +kernel
theorem dX10_next_74 : decode cX10_next 74 = .ok (.iconst 0, 1) := by decide +kernel
theorem dX10_next_75 : decode cX10_next 75 = .ok (.putfield 149, 3) := by decide +kernel
theorem dX10_next_78 : decode cX10_next 78 = .ok (.aload_n 0, 1) := by decide +kernel
theorem dX10_next_79 : decode cX10_next 79 = .ok (.invokevirtual 143, 3) := by decide +kernel
theorem dX10_next_82 : decode cX10_next 82 = .ok (.bipush 48, 2) := by decide +kernel
theorem dX10_next_84 : decode cX10_next 84 = .ok (.bipush 57, 2) := by decide +kernel
theorem dX10_next_86 : decode cX10_next 86 = .ok (.invokestatic 43, 3) := by decide +kernel
theorem dX10_next_89 : decode cX10_next 89 = .ok (.ifCond .eq 41, 3) := by decide +kernel
theorem dX10_next_92 : decode cX10_next 92 = .ok (.aload_n 0, 1) := by decide +kernel
theorem dX10_next_93 : decode cX10_next 93 = .ok (.bipush 10, 2) := by decide +kernel
theorem dX10_next_95 : decode cX10_next 95 = .ok (.aload_n 0, 1) := by decide +kernel
theorem dX10_next_96 : decode cX10_next 96 = .ok (.getfield 149, 3) := by decide +kernel
theorem dX10_next_99 : decode cX10_next 99 = .ok (.sipush 1000, 3) := by decide +kernel
theorem dX10_next_102 : decode cX10_next 102 = .ok (.invokestatic 53, 3) := by decide +kernel
theorem dX10_next_105 : decode cX10_next 105 = .ok (.imul, 1) := by decide +kernel
theorem dX10_next_106 : decode cX10_next 106 = .ok (.aload_n 0, 1) := by decide +kernel
theorem dX10_next_107 : decode cX10_next 107 = .ok (.invokevirtual 143, 3) := by decide +kernel
theorem dX10_next_110 : decode cX10_next 110 = .ok (.iadd, 1) := by decide +kernel
theorem dX10_next_111 : decode cX10_next 111 = .ok (.bipush 48, 2) := by decide +kernel
theorem dX10_next_113 : decode cX10_next 113 = .ok (.isub, 1) := by decide +kernel
theorem dX10_next_114 : decode cX10_next 114 = .ok (.putfield 149, 3) := by decide +kernel
theorem dX10_next_117 : decode cX10_next 117 = .ok (.aload_n 0, 1) := by decide +kernel
theorem dX10_next_118 : decode cX10_next 118 = .ok (.dup, 1) := by decide +kernel
theorem dX10_next_119 : decode cX10_next 119 = .ok (.getfield 128, 3) := by decide +kernel
theorem dX10_next_122 : decode cX10_next 122 = .ok (.iconst 1, 1) := by decide +kernel
theorem dX10_next_123 : decode cX10_next 123 = .ok (.iadd, 1) := by decide +kernel
theorem dX10_next_124 : decode cX10_next 124 = .ok (.putfield 128, 3) := by decide +kernel
theorem dX10_next_127 : decode cX10_next 127 = .ok (.goto (-49), 3) := by decide +kernel
theorem dX10_next_130 : decode cX10_next 130 = .ok (.aload_n 0, 1) := by decide +kernel
theorem dX10_next_131 : decode cX10_next 131 = .ok (.aload_n 0, 1) := by decide +kernel
theorem dX10_next_132 : decode cX10_next 132 = .ok (.getfield 128, 3) := by decide +kernel
theorem dX10_next_135 : decode cX10_next 135 = .ok (.aload_n 0, 1) := by decide +kernel
theorem dX10_next_136 : decode cX10_next 136 = .ok (.getfield 131, 3) := by decide +kernel
theorem dX10_next_139 : decode cX10_next 139 = .ok (.isub, 1) := by decide +kernel
theorem dX10_next_140 : decode cX10_next 140 = .ok (.iconst 2, 1) := by decide +kernel
theorem dX10_next_141 : decode cX10_next 141 = .ok (.if_icmp .le 7, 3) := by decide +kernel
theorem dX10_next_144 : decode cX10_next 144 = .ok (.iconst 1, 1) := by decide +kernel
theorem dX10_next_145 : decode cX10_next 145 = .ok (.goto 4, 3) := by decide +kernel
theorem dX10_next_148 : decode cX10_next 148 = .ok (.iconst 2, 1) := by decide +kernel
theorem dX10_next_149 : decode cX10_next 149 = .ok (.putfield 146, 3) := by decide +kernel
theorem dX10_next_152 : decode cX10_next 152 = .ok (.return_, 1) := by decide +kernel
theorem dX10_next_153 : decode cX10_next 153 = .ok (.aload_n 0, 1) := by decide +kernel
theorem dX10_next_154 : decode cX10_next 154 = .ok (.invokevirtual 143, 3) := by decide +kernel
theorem dX10_next_157 : decode cX10_next 157 = .ok (.bipush 97, 2) := by decide +kernel
theorem dX10_next_159 : decode cX10_next 159 = .ok (.bipush 122, 2) := by decide +kernel
theorem dX10_next_161 : decode cX10_next 161 = .ok (.invokestatic 43, 3) := by decide +kernel
theorem dX10_next_164 : decode cX10_next 164 = .ok (.ifCond .eq 16, 3) := by decide +kernel
theorem dX10_next_167 : decode cX10_next 167 = .ok (.aload_n 0, 1) := by decide +kernel
theorem dX10_next_168 : decode cX10_next 168 = .ok (.dup, 1) := by decide +kernel
theorem dX10_next_169 : decode cX10_next 169 = .ok (.getfield 128, 3) := by decide +kernel
theorem dX10_next_172 : decode cX10_next 172 = .ok (.iconst 1, 1) := by decide +kernel
theorem dX10_next_173 : decode cX10_next 173 = .ok (.iadd, 1) := by decide +kernel
theorem dX10_next_174 : decode cX10_next 174 = .ok (.putfield 128, 3) := by decide +kernel
theorem dX10_next_177 : decode cX10_next 177 = .ok (.goto (-24), 3) := by decide +kernel
theorem dX10_next_180 : decode cX10_next 180 = .ok (.aload_n 0, 1) := by decide +kernel
theorem dX10_next_181 : decode cX10_next 181 = .ok (.ldc 152, 2) := by decide +kernel
theorem dX10_next_183 : decode cX10_next 183 = .ok (.invokevirtual 154, 3) := by decide +kernel
theorem dX10_next_186 : decode cX10_next 186 = .ok (.ifCond .eq 8, 3) := by decide +kernel
theorem dX10_next_189 : decode cX10_next 189 = .ok (.aload_n 0, 1) := by decide +kernel
theorem dX10_next_190 : decode cX10_next 190 = .ok (.iconst 3, 1) := by decide +kernel
theorem dX10_next_191 : decode cX10_next 191 = .ok (.putfield 146, 3) := by decide +kernel
theorem dX10_next_194 : decode cX10_next 194 = .ok (.aload_n 0, 1) := by decide +kernel
theorem dX10_next_195 : decode cX10_next 195 = .ok (.ldc 158, 2) := by decide +kernel
theorem dX10_next_197 : decode cX10_next 197 = .ok (.invokevirtual 154, 3) := by decide +kernel
theorem dX10_next_200 : decode cX10_next 200 = .ok (.ifCond .eq 8, 3) := by decide +kernel
theorem dX10_next_203 : decode cX10_next 203 = .ok (.aload_n 0, 1) := by decide +kernel
theorem dX10_next_204 : decode cX10_next 204 = .ok (.iconst 4, 1) := by decide +kernel
theorem dX10_next_205 : decode cX10_next 205 = .ok (.putfield 146, 3) := by decide +kernel
theorem dX10_next_208 : decode cX10_next 208 = .ok (.aload_n 0, 1) := by decide +kernel
theorem dX10_next_209 : decode cX10_next 209 = .ok (.ldc 160, 2) := by decide +kernel
theorem dX10_next_211 : decode cX10_next 211 = .ok (.invokevirtual 154, 3) := by decide +kernel
theorem dX10_next_214 : decode cX10_next 214 = .ok (.ifCond .eq 8, 3) := by decide +kernel
theorem dX10_next_217 : decode cX10_next 217 = .ok (.aload_n 0, 1) := by decide +kernel
theorem dX10_next_218 : decode cX10_next 218 = .ok (.iconst 5, 1) := by decide +kernel
theorem dX10_next_219 : decode cX10_next 219 = .ok (.putfield 146, 3) := by decide +kernel
theorem dX10_next_222 : decode cX10_next 222 = .ok (.aload_n 0, 1) := by decide +kernel
theorem dX10_next_223 : decode cX10_next 223 = .ok (.ldc 162, 2) := by decide +kernel
theorem dX10_next_225 : decode cX10_next 225 = .ok (.invokevirtual 154, 3) := by decide +kernel
theorem dX10_next_228 : decode cX10_next 228 = .ok (.ifCond .eq 9, 3) := by decide +kernel
theorem dX10_next_231 : decode cX10_next 231 = .ok (.aload_n 0, 1) := by decide +kernel
theorem dX10_next_232 : decode cX10_next 232 = .ok (.bipush 6, 2) := by decide +kernel
theorem dX10_next_234 : decode cX10_next 234 = .ok (.putfield 146, 3) := by decide +kernel
theorem dX10_next_237 : decode cX10_next 237 = .ok (.aload_n 0, 1) := by decide +kernel
theorem dX10_next_238 : decode cX10_next 238 = .ok (.ldc 164, 2) := by decide +kernel
theorem dX10_next_240 : decode cX10_next 240 = .ok (.invokevirtual 154, 3) := by decide +kernel
theorem dX10_next_243 : decode cX10_next 243 = .ok (.ifCond .eq 9, 3) := by decide +kernel
theorem dX10_next_246 : decode cX10_next 246 = .ok (.aload_n 0, 1) := by decide +kernel
theorem dX10_next_247 : decode cX10_next 247 = .ok (.bipush 7, 2) := by decide +kernel
theorem dX10_next_249 : decode cX10_next 249 = .ok (.putfield 146, 3) := by decide +kernel
theorem dX10_next_252 : decode cX10_next 252 = .ok (.return_, 1) := by decide +kernel
theorem dX10_number_0 : decode cX10_number 0 = .ok (.aload_n 0, 1) := by decide +kernel
theorem dX10_number_1 : decode cX10_number 1 = .ok (.invokevirtual 166, 3) := by decide +kernel
theorem dX10_number_4 : decode cX10_number 4 = .ok (.aload_n 0, 1) := by decide +kernel
theorem dX10_number_5 : decode cX10_number 5 = .ok (.getfield 146, 3) := by decide +kernel
theorem dX10_number_8 : decode cX10_number 8 = .ok (.iconst 2, 1) := by decide +kernel
theorem dX10_number_9 : decode cX10_number 9 = .ok (.if_icmp .ne 18, 3) := by decide +kernel
theorem dX10_number_12 : decode cX10_number 12 = .ok (.aload_n 0, 1) := by decide +kernel
theorem dX10_number_13 : decode cX10_number 13 = .ok (.getfield 149, 3) := by decide +kernel
theorem dX10_number_16 : decode cX10_number 16 = .ok (.iload_n 1, 1) := by decide +kernel
theorem dX10_number_17 : decode cX10_number 17 = .ok (.if_icmp .ge 10, 3) := by decide +kernel
theorem dX10_number_20 : decode cX10_number 20 = .ok (.aload_n 0, 1) := by decide +kernel
theorem dX10_number_21 : decode cX10_number 21 = .ok (.getfield 149, 3) := by decide +kernel
theorem dX10_number_24 : decode cX10_number 24 = .ok (.goto 4, 3) := by decide +kernel
theorem dX10_number_27 : decode cX10_number 27 = .ok (.iconst (-1), 1) := by decide +kernel
theorem dX10_number_28 : decode cX10_number 28 = .ok (.ireturn, 1) := by decide +kernel
theorem dX10_lineTo_0 : decode cX10_lineTo 0 = .ok (.iload_n 2, 1) := by decide +kernel
theorem dX10_lineTo_1 : decode cX10_lineTo 1 = .ok (.aload_n 0, 1) := by decide +kernel
theorem dX10_lineTo_2 : decode cX10_lineTo 2 = .ok (.getfield 169, 3) := by decide +kernel
theorem dX10_lineTo_5 : decode cX10_lineTo 5 = .ok (.isub, 1) := by decide +kernel
theorem dX10_lineTo_6 : decode cX10_lineTo 6 = .ok (.invokestatic 102, 3) := by decide +kernel
theorem dX10_lineTo_9 : decode cX10_lineTo 9 = .ok (.iload_n 3, 1) := by decide +kernel
theorem dX10_lineTo_10 : decode cX10_lineTo 10 = .ok (.aload_n 0, 1) := by decide +kernel
theorem dX10_lineTo_11 : decode cX10_lineTo 11 = .ok (.getfield 172, 3) := by decide +kernel
theorem dX10_lineTo_14 : decode cX10_lineTo 14 = .ok (.isub, 1) := by decide +kernel
theorem dX10_lineTo_15 : decode cX10_lineTo 15 = .ok (.invokestatic 102, 3) := by decide +kernel
theorem dX10_lineTo_18 : decode cX10_lineTo 18 = .ok (.invokestatic 47, 3) := by decide +kernel
theorem dX10_lineTo_21 : decode cX10_lineTo 21 = .ok (.istore 4, 2) := by decide +kernel
theorem dX10_lineTo_23 : decode cX10_lineTo 23 = .ok (.iconst 1, 1) := by decide +kernel
theorem dX10_lineTo_24 : decode cX10_lineTo 24 = .ok (.istore 5, 2) := by decide +kernel
theorem dX10_lineTo_26 : decode cX10_lineTo 26 = .ok (.iload 5, 2) := by decide +kernel
theorem dX10_lineTo_28 : decode cX10_lineTo 28 = .ok (.iload 4, 2) := by decide +kernel
theorem dX10_lineTo_30 : decode cX10_lineTo 30 = .ok (.if_icmp .gt 70, 3) := by decide +kernel
theorem dX10_lineTo_33 : decode cX10_lineTo 33 = .ok (.iload_n 1, 1) := by decide +kernel
theorem dX10_lineTo_34 : decode cX10_lineTo 34 = .ok (.ifCond .lt 66, 3) := by decide +kernel
theorem dX10_lineTo_37 : decode cX10_lineTo 37 = .ok (.aload_n 0, 1) := by decide +kernel
theorem dX10_lineTo_38 : decode cX10_lineTo 38 = .ok (.iload_n 1, 1) := by decide +kernel
theorem dX10_lineTo_39 : decode cX10_lineTo 39 = .ok (.aload_n 0, 1) := by decide +kernel
theorem dX10_lineTo_40 : decode cX10_lineTo 40 = .ok (.getfield 169, 3) := by decide +kernel
theorem dX10_lineTo_43 : decode cX10_lineTo 43 = .ok (.iconst 2, 1) := by decide +kernel
theorem dX10_lineTo_44 : decode cX10_lineTo 44 = .ok (.iload 5, 2) := by decide +kernel
theorem dX10_lineTo_46 : decode cX10_lineTo 46 = .ok (.imul, 1) := by decide +kernel
theorem dX10_lineTo_47 : decode cX10_lineTo 47 = .ok (.iload_n 2, 1) := by decide +kernel
theorem dX10_lineTo_48 : decode cX10_lineTo 48 = .ok (.aload_n 0, 1) := by decide +kernel
theorem dX10_lineTo_49 : decode cX10_lineTo 49 = .ok (.getfield 169, 3) := by decide +kernel
theorem dX10_lineTo_52 : decode cX10_lineTo 52 = .ok (.isub, 1) := by decide +kernel
theorem dX10_lineTo_53 : decode cX10_lineTo 53 = .ok (.imul, 1) := by decide +kernel
theorem dX10_lineTo_54 : decode cX10_lineTo 54 = .ok (.iload 4, 2) := by decide +kernel
theorem dX10_lineTo_56 : decode cX10_lineTo 56 = .ok (.iadd, 1) := by decide +kernel
theorem dX10_lineTo_57 : decode cX10_lineTo 57 = .ok (.iconst 2, 1) := by decide +kernel
theorem dX10_lineTo_58 : decode cX10_lineTo 58 = .ok (.iload 4, 2) := by decide +kernel
theorem dX10_lineTo_60 : decode cX10_lineTo 60 = .ok (.imul, 1) := by decide +kernel
theorem dX10_lineTo_61 : decode cX10_lineTo 61 = .ok (.invokestatic 175, 3) := by decide +kernel
theorem dX10_lineTo_64 : decode cX10_lineTo 64 = .ok (.iadd, 1) := by decide +kernel
theorem dX10_lineTo_65 : decode cX10_lineTo 65 = .ok (.aload_n 0, 1) := by decide +kernel
theorem dX10_lineTo_66 : decode cX10_lineTo 66 = .ok (.getfield 172, 3) := by decide +kernel
theorem dX10_lineTo_69 : decode cX10_lineTo 69 = .ok (.iconst 2, 1) := by decide +kernel
theorem dX10_lineTo_70 : decode cX10_lineTo 70 = .ok (.iload 5, 2) := by decide +kernel
theorem dX10_lineTo_72 : decode cX10_lineTo 72 = .ok (.imul, 1) := by decide +kernel
theorem dX10_lineTo_73 : decode cX10_lineTo 73 = .ok (.iload_n 3, 1) := by decide +kernel
theorem dX10_lineTo_74 : decode cX10_lineTo 74 = .ok (.aload_n 0, 1) := by decide +kernel
theorem dX10_lineTo_75 : decode cX10_lineTo 75 = .ok (.getfield 172, 3) := by decide +kernel
theorem dX10_lineTo_78 : decode cX10_lineTo 78 = .ok (.isub, 1) := by decide +kernel
theorem dX10_lineTo_79 : decode cX10_lineTo 79 = .ok (.imul, 1) := by decide +kernel
theorem dX10_lineTo_80 : decode cX10_lineTo 80 = .ok (.iload 4, 2) := by decide +kernel
theorem dX10_lineTo_82 : decode cX10_lineTo 82 = .ok (.iadd, 1) := by decide +kernel
theorem dX10_lineTo_83 : decode cX10_lineTo 83 = .ok (.iconst 2, 1) := by decide +kernel
theorem dX10_lineTo_84 : decode cX10_lineTo 84 = .ok (.iload 4, 2) := by decide +kernel
theorem dX10_lineTo_86 : decode cX10_lineTo 86 = .ok (.imul, 1) := by decide +kernel
theorem dX10_lineTo_87 : decode cX10_lineTo 87 = .ok (.invokestatic 175, 3) := by decide +kernel
theorem dX10_lineTo_90 : decode cX10_lineTo 90 = .ok (.iadd, 1) := by decide +kernel
theorem dX10_lineTo_91 : decode cX10_lineTo 91 = .ok (.invokevirtual 178, 3) := by decide +kernel
theorem dX10_lineTo_94 : decode cX10_lineTo 94 = .ok (.iinc 5 1, 3) := by decide +kernel
theorem dX10_lineTo_97 : decode cX10_lineTo 97 = .ok (.goto (-71), 3) := by decide +kernel
theorem dX10_lineTo_100 : decode cX10_lineTo 100 = .ok (.aload_n 0, 1) := by decide +kernel
theorem dX10_lineTo_101 : decode cX10_lineTo 101 = .ok (.dup, 1) := by decide +kernel
theorem dX10_lineTo_102 : decode cX10_lineTo 102 = .ok (.getfield 181, 3) := by decide +kernel
theorem dX10_lineTo_105 : decode cX10_lineTo 105 = .ok (.iload 4, 2) := by decide +kernel
theorem dX10_lineTo_107 : decode cX10_lineTo 107 = .ok (.iadd, 1) := by decide +kernel
theorem dX10_lineTo_108 : decode cX10_lineTo 108 = .ok (.putfield 181, 3) := by decide +kernel
theorem dX10_lineTo_111 : decode cX10_lineTo 111 = .ok (.aload_n 0, 1) := by decide +kernel
theorem dX10_lineTo_112 : decode cX10_lineTo 112 = .ok (.iload_n 2, 1) := by decide +kernel
theorem dX10_lineTo_113 : decode cX10_lineTo 113 = .ok (.putfield 169, 3) := by decide +kernel
theorem dX10_lineTo_116 : decode cX10_lineTo 116 = .ok (.aload_n 0, 1) := by decide +kernel
theorem dX10_lineTo_117 : decode cX10_lineTo 117 = .ok (.iload_n 3, 1) := by decide +kernel
theorem dX10_lineTo_118 : decode cX10_lineTo 118 = .ok (.putfield 172, 3) := by decide +kernel
theorem dX10_lineTo_121 : decode cX10_lineTo 121 = .ok (.return_, 1) := by decide +kernel
theorem dX10_moveTo_0 : decode cX10_moveTo 0 = .ok (.iload_n 1, 1) := by decide +kernel
theorem dX10_moveTo_1 : decode cX10_moveTo 1 = .ok (.ifCond .lt 10, 3) := by decide +kernel
theorem dX10_moveTo_4 : decode cX10_moveTo 4 = .ok (.aload_n 0, 1) := by decide +kernel
theorem dX10_moveTo_5 : decode cX10_moveTo 5 = .ok (.iload_n 1, 1) := by decide +kernel
theorem dX10_moveTo_6 : decode cX10_moveTo 6 = .ok (.iload_n 2, 1) := by decide +kernel
theorem dX10_moveTo_7 : decode cX10_moveTo 7 = .ok (.iload_n 3, 1) := by decide +kernel
theorem dX10_moveTo_8 : decode cX10_moveTo 8 = .ok (.invokevirtual 178, 3) := by decide +kernel
theorem dX10_moveTo_11 : decode cX10_moveTo 11 = .ok (.aload_n 0, 1) := by decide +kernel
theorem dX10_moveTo_12 : decode cX10_moveTo 12 = .ok (.iconst 1, 1) := by decide +kernel
theorem dX10_moveTo_13 : decode cX10_moveTo 13 = .ok (.putfield 181, 3) := by decide +kernel
theorem dX10_moveTo_16 : decode cX10_moveTo 16 = .ok (.aload_n 0, 1) := by decide +kernel
theorem dX10_moveTo_17 : decode cX10_moveTo 17 = .ok (.iload_n 2, 1) := by decide +kernel
theorem dX10_moveTo_18 : decode cX10_moveTo 18 = .ok (.putfield 169, 3) := by decide +kernel
theorem dX10_moveTo_21 : decode cX10_moveTo 21 = .ok (.aload_n 0, 1) := by decide +kernel
theorem dX10_moveTo_22 : decode cX10_moveTo 22 = .ok (.iload_n 3, 1) := by decide +kernel
theorem dX10_moveTo_23 : decode cX10_moveTo 23 = .ok (.putfield 172, 3) := by decide +kernel
theorem dX10_moveTo_26 : decode cX10_moveTo 26 = .ok (.aload_n 0, 1) := by decide +kernel
theorem dX10_moveTo_27 : decode cX10_moveTo 27 = .ok (.iload_n 2, 1) := by decide +kernel
theorem dX10_moveTo_28 : decode cX10_moveTo 28 = .ok (.putfield 184, 3) := by decide +kernel
theorem dX10_moveTo_31 : decode cX10_moveTo 31 = .ok (.aload_n 0, 1) := by decide +kernel
theorem dX10_moveTo_32 : decode cX10_moveTo 32 = .ok (.iload_n 3, 1) := by decide +kernel
theorem dX10_moveTo_33 : decode cX10_moveTo 33 = .ok (.putfield 187, 3) := by decide +kernel
theorem dX10_moveTo_36 : decode cX10_moveTo 36 = .ok (.return_, 1) := by decide +kernel
theorem dX10_goes_0 : decode cX10_goes 0 = .ok (.aload_n 0, 1) := by decide +kernel
theorem dX10_goes_1 : decode cX10_goes 1 = .ok (.getfield 146, 3) := by decide +kernel
theorem dX10_goes_4 : decode cX10_goes 4 = .ok (.iconst 3, 1) := by decide +kernel
theorem dX10_goes_5 : decode cX10_goes 5 = .ok (.if_icmp .ge 5, 3) := by decide +kernel
theorem dX10_goes_8 : decode cX10_goes 8 = .ok (.iconst 0, 1) := by decide +kernel
theorem dX10_goes_9 : decode cX10_goes 9 = .ok (.ireturn, 1) := by decide +kernel
theorem dX10_goes_10 : decode cX10_goes 10 = .ok (.aload_n 0, 1) := by decide +kernel
theorem dX10_goes_11 : decode cX10_goes 11 = .ok (.getfield 146, 3) := by decide +kernel
theorem dX10_goes_14 : decode cX10_goes 14 = .ok (.istore_n 2, 1) := by decide +kernel
theorem dX10_goes_15 : decode cX10_goes 15 = .ok (.iload_n 2, 1) := by decide +kernel
theorem dX10_goes_16 : decode cX10_goes 16 = .ok (.iconst 3, 1) := by decide +kernel
theorem dX10_goes_17 : decode cX10_goes 17 = .ok (.if_icmp .eq 13, 3) := by decide +kernel
theorem dX10_goes_20 : decode cX10_goes 20 = .ok (.iload_n 2, 1) := by decide +kernel
theorem dX10_goes_21 : decode cX10_goes 21 = .ok (.iconst 4, 1) := by decide +kernel
theorem dX10_goes_22 : decode cX10_goes 22 = .ok (.if_icmp .eq 8, 3) := by decide +kernel
theorem dX10_goes_25 : decode cX10_goes 25 = .ok (.iload_n 2, 1) := by decide +kernel
theorem dX10_goes_26 : decode cX10_goes 26 = .ok (.iconst 5, 1) := by decide +kernel
theorem dX10_goes_27 : decode cX10_goes 27 = .ok (.if_icmp .ne 12, 3) := by decide +kernel
theorem dX10_goes_30 : decode cX10_goes 30 = .ok (.aload_n 0, 1) := by decide +kernel
theorem dX10_goes_31 : decode cX10_goes 31 = .ok (.bipush 16, 2) := by decide +kernel
theorem dX10_goes_33 : decode cX10_goes 33 = .ok (.invokevirtual 190, 3) := by decide +kernel
theorem dX10_goes_36 : decode cX10_goes 36 = .ok (.goto 20, 3) := by decide +kernel
theorem dX10_goes_39 : decode cX10_goes 39 = .ok (.iload_n 2, 1) := by decide +kernel
theorem dX10_goes_40 : decode cX10_goes 40 = .ok (.bipush 7, 2) := by decide +kernel
theorem dX10_goes_42 : decode cX10_goes 42 = .ok (.if_icmp .ne 10, 3) := by decide +kernel
theorem dX10_goes_45 : decode cX10_goes 45 = .ok (.aload_n 0, 1) := by decide +kernel
theorem dX10_goes_46 : decode cX10_goes 46 = .ok (.getfield 184, 3) := by decide +kernel
theorem dX10_goes_49 : decode cX10_goes 49 = .ok (.goto 7, 3) := by decide +kernel
theorem dX10_goes_52 : decode cX10_goes 52 = .ok (.aload_n 0, 1) := by decide +kernel
theorem dX10_goes_53 : decode cX10_goes 53 = .ok (.getfield 169, 3) := by decide +kernel
theorem dX10_goes_56 : decode cX10_goes 56 = .ok (.istore_n 3, 1) := by decide +kernel
theorem dX10_goes_57 : decode cX10_goes 57 = .ok (.iload_n 3, 1) := by decide +kernel
theorem dX10_goes_58 : decode cX10_goes 58 = .ok (.ifCond .ge 5, 3) := by decide +kernel
theorem dX10_goes_61 : decode cX10_goes 61 = .ok (.iconst 0, 1) := by decide +kernel
theorem dX10_goes_62 : decode cX10_goes 62 = .ok (.ireturn, 1) := by decide +kernel
theorem dX10_goes_63 : decode cX10_goes 63 = .ok (.iload_n 2, 1) := by decide +kernel
theorem dX10_goes_64 : decode cX10_goes 64 = .ok (.iconst 3, 1) := by decide +kernel
theorem dX10_goes_65 : decode cX10_goes 65 = .ok (.if_icmp .eq 14, 3) := by decide +kernel
theorem dX10_goes_68 : decode cX10_goes 68 = .ok (.iload_n 2, 1) := by decide +kernel
theorem dX10_goes_69 : decode cX10_goes 69 = .ok (.iconst 4, 1) := by decide +kernel
theorem dX10_goes_70 : decode cX10_goes 70 = .ok (.if_icmp .eq 9, 3) := by decide +kernel
theorem dX10_goes_73 : decode cX10_goes 73 = .ok (.iload_n 2, 1) := by decide +kernel
theorem dX10_goes_74 : decode cX10_goes 74 = .ok (.bipush 6, 2) := by decide +kernel
theorem dX10_goes_76 : decode cX10_goes 76 = .ok (.if_icmp .ne 12, 3) := by decide +kernel
theorem dX10_goes_79 : decode cX10_goes 79 = .ok (.aload_n 0, 1) := by decide +kernel
theorem dX10_goes_80 : decode cX10_goes 80 = .ok (.bipush 12, 2) := by decide +kernel
theorem dX10_goes_82 : decode cX10_goes 82 = .ok (.invokevirtual 190, 3) := by decide +kernel
theorem dX10_goes_85 : decode cX10_goes 85 = .ok (.goto 20, 3) := by decide +kernel
theorem dX10_goes_88 : decode cX10_goes 88 = .ok (.iload_n 2, 1) := by decide +kernel
theorem dX10_goes_89 : decode cX10_goes 89 = .ok (.bipush 7, 2) := by decide +kernel
theorem dX10_goes_91 : decode cX10_goes 91 = .ok (.if_icmp .ne 10, 3) := by decide +kernel
theorem dX10_goes_94 : decode cX10_goes 94 = .ok (.aload_n 0, 1) := by decide +kernel
theorem dX10_goes_95 : decode cX10_goes 95 = .ok (.getfield 187, 3) := by decide +kernel
theorem dX10_goes_98 : decode cX10_goes 98 = .ok (.goto 7, 3) := by decide +kernel
theorem dX10_goes_101 : decode cX10_goes 101 = .ok (.aload_n 0, 1) := by decide +kernel
theorem dX10_goes_102 : decode cX10_goes 102 = .ok (.getfield 172, 3) := by decide +kernel
theorem dX10_goes_105 : decode cX10_goes 105 = .ok (.istore 4, 2) := by decide +kernel
theorem dX10_goes_107 : decode cX10_goes 107 = .ok (.iload 4, 2) := by decide +kernel
theorem dX10_goes_109 : decode cX10_goes 109 = .ok (.ifCond .ge 5, 3) := by decide +kernel
theorem dX10_goes_112 : decode cX10_goes 112 = .ok (.iconst 0, 1) := by decide +kernel
theorem dX10_goes_113 : decode cX10_goes 113 = .ok (.ireturn, 1) := by decide +kernel
theorem dX10_goes_114 : decode cX10_goes 114 = .ok (.iload_n 2, 1) := by decide +kernel
theorem dX10_goes_115 : decode cX10_goes 115 = .ok (.iconst 3, 1) := by decide +kernel
theorem dX10_goes_116 : decode cX10_goes 116 = .ok (.if_icmp .ne 14, 3) := by decide +kernel
theorem dX10_goes_119 : decode cX10_goes 119 = .ok (.aload_n 0, 1) := by decide +kernel
theorem dX10_goes_120 : decode cX10_goes 120 = .ok (.iload_n 1, 1) := by decide +kernel
theorem dX10_goes_121 : decode cX10_goes 121 = .ok (.iload_n 3, 1) := by decide +kernel
theorem dX10_goes_122 : decode cX10_goes 122 = .ok (.iload 4, 2) := by decide +kernel
theorem dX10_goes_124 : decode cX10_goes 124 = .ok (.invokevirtual 193, 3) := by decide +kernel
theorem dX10_goes_127 : decode cX10_goes 127 = .ok (.goto 11, 3) := by decide +kernel
theorem dX10_goes_130 : decode cX10_goes 130 = .ok (.aload_n 0, 1) := by decide +kernel
theorem dX10_goes_131 : decode cX10_goes 131 = .ok (.iload_n 1, 1) := by decide +kernel
theorem dX10_goes_132 : decode cX10_goes 132 = .ok (.iload_n 3, 1) := by decide +kernel
theorem dX10_goes_133 : decode cX10_goes 133 = .ok (.iload 4, 2) := by decide +kernel
theorem dX10_goes_135 : decode cX10_goes 135 = .ok (.invokevirtual 196, 3) := by decide +kernel
theorem dX10_goes_138 : decode cX10_goes 138 = .ok (.iconst 1, 1) := by decide +kernel
theorem dX10_goes_139 : decode cX10_goes 139 = .ok (.ireturn, 1) := by decide +kernel
theorem dX10_goesOver_0 : decode cX10_goesOver 0 = .ok (.aload_n 0, 1) := by decide +kernel
theorem dX10_goesOver_1 : decode cX10_goesOver 1 = .ok (.iconst 0, 1) := by decide +kernel
theorem dX10_goesOver_2 : decode cX10_goesOver 2 = .ok (.putfield 128, 3) := by decide +kernel
theorem dX10_goesOver_5 : decode cX10_goesOver 5 = .ok (.aload_n 0, 1) := by decide +kernel
theorem dX10_goesOver_6 : decode cX10_goesOver 6 = .ok (.invokevirtual 166, 3) := by decide +kernel
theorem dX10_goesOver_9 : decode cX10_goesOver 9 = .ok (.aload_n 0, 1) := by decide +kernel
theorem dX10_goesOver_10 : decode cX10_goesOver 10 = .ok (.getfield 146, 3) := by decide +kernel
theorem dX10_goesOver_13 : decode cX10_goesOver 13 = .ok (.iconst 3, 1) := by decide +kernel
theorem dX10_goesOver_14 : decode cX10_goesOver 14 = .ok (.if_icmp .ne 11, 3) := by decide +kernel
theorem dX10_goesOver_17 : decode cX10_goesOver 17 = .ok (.aload_n 0, 1) := by decide +kernel
theorem dX10_goesOver_18 : decode cX10_goesOver 18 = .ok (.iload_n 1, 1) := by decide +kernel
theorem dX10_goesOver_19 : decode cX10_goesOver 19 = .ok (.invokevirtual 199, 3) := by decide +kernel
theorem dX10_goesOver_22 : decode cX10_goesOver 22 = .ok (.ifCond .ne 8, 3) := by decide +kernel
theorem dX10_goesOver_25 : decode cX10_goesOver 25 = .ok (.aload_n 0, 1) := by decide +kernel
theorem dX10_goesOver_26 : decode cX10_goesOver 26 = .ok (.getfield 131, 3) := by decide +kernel
theorem dX10_goesOver_29 : decode cX10_goesOver 29 = .ok (.ireturn, 1) := by decide +kernel
theorem dX10_goesOver_30 : decode cX10_goesOver 30 = .ok (.aload_n 0, 1) := by decide +kernel
theorem dX10_goesOver_31 : decode cX10_goesOver 31 = .ok (.invokevirtual 166, 3) := by decide +kernel
theorem dX10_goesOver_34 : decode cX10_goesOver 34 = .ok (.aload_n 0, 1) := by decide +kernel
theorem dX10_goesOver_35 : decode cX10_goesOver 35 = .ok (.getfield 146, 3) := by decide +kernel
theorem dX10_goesOver_38 : decode cX10_goesOver 38 = .ok (.ifCond .eq 31, 3) := by decide +kernel
theorem dX10_goesOver_41 : decode cX10_goesOver 41 = .ok (.aload_n 0, 1) := by decide +kernel
theorem dX10_goesOver_42 : decode cX10_goesOver 42 = .ok (.getfield 146, 3) := by decide +kernel
theorem dX10_goesOver_45 : decode cX10_goesOver 45 = .ok (.iconst 3, 1) := by decide +kernel
theorem dX10_goesOver_46 : decode cX10_goesOver 46 = .ok (.if_icmp .eq 11, 3) := by decide +kernel
theorem dX10_goesOver_49 : decode cX10_goesOver 49 = .ok (.aload_n 0, 1) := by decide +kernel
theorem dX10_goesOver_50 : decode cX10_goesOver 50 = .ok (.iload_n 1, 1) := by decide +kernel
theorem dX10_goesOver_51 : decode cX10_goesOver 51 = .ok (.invokevirtual 199, 3) := by decide +kernel
theorem dX10_goesOver_54 : decode cX10_goesOver 54 = .ok (.ifCond .ne 8, 3) := by decide +kernel
theorem dX10_goesOver_57 : decode cX10_goesOver 57 = .ok (.aload_n 0, 1) := by decide +kernel
theorem dX10_goesOver_58 : decode cX10_goesOver 58 = .ok (.getfield 131, 3) := by decide +kernel
theorem dX10_goesOver_61 : decode cX10_goesOver 61 = .ok (.ireturn, 1) := by decide +kernel
theorem dX10_goesOver_62 : decode cX10_goesOver 62 = .ok (.aload_n 0, 1) := by decide +kernel
theorem dX10_goesOver_63 : decode cX10_goesOver 63 = .ok (.invokevirtual 166, 3) := by decide +kernel
theorem dX10_goesOver_66 : decode cX10_goesOver 66 = .ok (.goto (-32), 3) := by decide +kernel
theorem dX10_goesOver_69 : decode cX10_goesOver 69 = .ok (.iconst (-1), 1) := by decide +kernel
theorem dX10_goesOver_70 : decode cX10_goesOver 70 = .ok (.ireturn, 1) := by decide +kernel
theorem dX10_stroke_0 : decode cX10_stroke 0 = .ok (.aload_n 0, 1) := by decide +kernel
theorem dX10_stroke_1 : decode cX10_stroke 1 = .ok (.iload_n 1, 1) := by decide +kernel
theorem dX10_stroke_2 : decode cX10_stroke 2 = .ok (.invokevirtual 80, 3) := by decide +kernel
theorem dX10_stroke_5 : decode cX10_stroke 5 = .ok (.ifCond .ne 6, 3) := by decide +kernel
theorem dX10_stroke_8 : decode cX10_stroke 8 = .ok (.bipush (-2), 2) := by decide +kernel
theorem dX10_stroke_10 : decode cX10_stroke 10 = .ok (.ireturn, 1) := by decide +kernel
theorem dX10_stroke_11 : decode cX10_stroke 11 = .ok (.aload_n 0, 1) := by decide +kernel
theorem dX10_stroke_12 : decode cX10_stroke 12 = .ok (.iconst (-1), 1) := by decide +kernel
theorem dX10_stroke_13 : decode cX10_stroke 13 = .ok (.invokevirtual 202, 3) := by decide +kernel
theorem dX10_stroke_16 : decode cX10_stroke 16 = .ok (.istore_n 2, 1) := by decide +kernel
theorem dX10_stroke_17 : decode cX10_stroke 17 = .ok (.iload_n 2, 1) := by decide +kernel
theorem dX10_stroke_18 : decode cX10_stroke 18 = .ok (.ifCond .lt 13, 3) := by decide +kernel
theorem dX10_stroke_21 : decode cX10_stroke 21 = .ok (.aload_n 0, 1) := by decide +kernel
theorem dX10_stroke_22 : decode cX10_stroke 22 = .ok (.iconst 0, 1) := by decide +kernel
theorem dX10_stroke_23 : decode cX10_stroke 23 = .ok (.putfield 124, 3) := by decide +kernel
theorem dX10_stroke_26 : decode cX10_stroke 26 = .ok (.bipush (-100), 2) := by decide +kernel
theorem dX10_stroke_28 : decode cX10_stroke 28 = .ok (.iload_n 2, 1) := by decide +kernel
theorem dX10_stroke_29 : decode cX10_stroke 29 = .ok (.isub, 1) := by decide +kernel
theorem dX10_stroke_30 : decode cX10_stroke 30 = .ok (.ireturn, 1) := by decide +kernel
theorem dX10_stroke_31 : decode cX10_stroke 31 = .ok (.aload_n 0, 1) := by decide +kernel
theorem dX10_stroke_32 : decode cX10_stroke 32 = .ok (.iload_n 1, 1) := by decide +kernel
theorem dX10_stroke_33 : decode cX10_stroke 33 = .ok (.invokevirtual 205, 3) := by decide +kernel
theorem dX10_stroke_36 : decode cX10_stroke 36 = .ok (.aload_n 0, 1) := by decide +kernel
theorem dX10_stroke_37 : decode cX10_stroke 37 = .ok (.iload_n 1, 1) := by decide +kernel
theorem dX10_stroke_38 : decode cX10_stroke 38 = .ok (.invokevirtual 202, 3) := by decide +kernel
theorem dX10_stroke_41 : decode cX10_stroke 41 = .ok (.pop, 1) := by decide +kernel
theorem dX10_stroke_42 : decode cX10_stroke 42 = .ok (.aload_n 0, 1) := by decide +kernel
theorem dX10_stroke_43 : decode cX10_stroke 43 = .ok (.iconst 0, 1) := by decide +kernel
theorem dX10_stroke_44 : decode cX10_stroke 44 = .ok (.putfield 124, 3) := by decide +kernel
theorem dX10_stroke_47 : decode cX10_stroke 47 = .ok (.aload_n 0, 1) := by decide +kernel
theorem dX10_stroke_48 : decode cX10_stroke 48 = .ok (.iload_n 1, 1) := by decide +kernel
theorem dX10_stroke_49 : decode cX10_stroke 49 = .ok (.invokevirtual 209, 3) := by decide +kernel
theorem dX10_stroke_52 : decode cX10_stroke 52 = .ok (.aload_n 0, 1) := by decide +kernel
theorem dX10_stroke_53 : decode cX10_stroke 53 = .ok (.getfield 181, 3) := by decide +kernel
theorem dX10_stroke_56 : decode cX10_stroke 56 = .ok (.ireturn, 1) := by decide +kernel
theorem dX10_beginsAct_0 : decode cX10_beginsAct 0 = .ok (.aload_n 0, 1) := by decide +kernel
theorem dX10_beginsAct_1 : decode cX10_beginsAct 1 = .ok (.invokevirtual 212, 3) := by decide +kernel
theorem dX10_beginsAct_4 : decode cX10_beginsAct 4 = .ok (.iconst 0, 1) := by decide +kernel
theorem dX10_beginsAct_5 : decode cX10_beginsAct 5 = .ok (.istore_n 2, 1) := by decide +kernel
theorem dX10_beginsAct_6 : decode cX10_beginsAct 6 = .ok (.iload_n 2, 1) := by decide +kernel
theorem dX10_beginsAct_7 : decode cX10_beginsAct 7 = .ok (.sipush 192, 3) := by decide +kernel
theorem dX10_beginsAct_10 : decode cX10_beginsAct 10 = .ok (.if_icmp .ge 56, 3) := by decide +kernel
theorem dX10_beginsAct_13 : decode cX10_beginsAct 13 = .ok (.aload_n 0, 1) := by decide +kernel
theorem dX10_beginsAct_14 : decode cX10_beginsAct 14 = .ok (.getfield 19, 3) := by decide +kernel
theorem dX10_beginsAct_17 : decode cX10_beginsAct 17 = .ok (.iload_n 2, 1) := by decide +kernel
theorem dX10_beginsAct_18 : decode cX10_beginsAct 18 = .ok (.aload_n 0, 1) := by decide +kernel
theorem dX10_beginsAct_19 : decode cX10_beginsAct 19 = .ok (.getfield 9, 3) := by decide +kernel
theorem dX10_beginsAct_22 : decode cX10_beginsAct 22 = .ok (.bipush 20, 2) := by decide +kernel
theorem dX10_beginsAct_24 : decode cX10_beginsAct 24 = .ok (.sipush 192, 3) := by decide +kernel
theorem dX10_beginsAct_27 : decode cX10_beginsAct 27 = .ok (.iload_n 1, 1) := by decide +kernel
theorem dX10_beginsAct_28 : decode cX10_beginsAct 28 = .ok (.imul, 1) := by decide +kernel
theorem dX10_beginsAct_29 : decode cX10_beginsAct 29 = .ok (.iadd, 1) := by decide +kernel
theorem dX10_beginsAct_30 : decode cX10_beginsAct 30 = .ok (.iload_n 2, 1) := by decide +kernel
theorem dX10_beginsAct_31 : decode cX10_beginsAct 31 = .ok (.iadd, 1) := by decide +kernel
theorem dX10_beginsAct_32 : decode cX10_beginsAct 32 = .ok (.iaload, 1) := by decide +kernel
theorem dX10_beginsAct_33 : decode cX10_beginsAct 33 = .ok (.iastore, 1) := by decide +kernel
theorem dX10_beginsAct_34 : decode cX10_beginsAct 34 = .ok (.aload_n 0, 1) := by decide +kernel
theorem dX10_beginsAct_35 : decode cX10_beginsAct 35 = .ok (.getfield 19, 3) := by decide +kernel
theorem dX10_beginsAct_38 : decode cX10_beginsAct 38 = .ok (.sipush 192, 3) := by decide +kernel
theorem dX10_beginsAct_41 : decode cX10_beginsAct 41 = .ok (.iload_n 2, 1) := by decide +kernel
theorem dX10_beginsAct_42 : decode cX10_beginsAct 42 = .ok (.iadd, 1) := by decide +kernel
theorem dX10_beginsAct_43 : decode cX10_beginsAct 43 = .ok (.aload_n 0, 1) := by decide +kernel
theorem dX10_beginsAct_44 : decode cX10_beginsAct 44 = .ok (.getfield 9, 3) := by decide +kernel
theorem dX10_beginsAct_47 : decode cX10_beginsAct 47 = .ok (.sipush 788, 3) := by decide +kernel
theorem dX10_beginsAct_50 : decode cX10_beginsAct 50 = .ok (.sipush 192, 3) := by decide +kernel
theorem dX10_beginsAct_53 : decode cX10_beginsAct 53 = .ok (.iload_n 1, 1) := by decide +kernel
theorem dX10_beginsAct_54 : decode cX10_beginsAct 54 = .ok (.imul, 1) := by decide +kernel
theorem dX10_beginsAct_55 : decode cX10_beginsAct 55 = .ok (.iadd, 1) := by decide +kernel
theorem dX10_beginsAct_56 : decode cX10_beginsAct 56 = .ok (.iload_n 2, 1) := by decide +kernel
theorem dX10_beginsAct_57 : decode cX10_beginsAct 57 = .ok (.iadd, 1) := by decide +kernel
theorem dX10_beginsAct_58 : decode cX10_beginsAct 58 = .ok (.iaload, 1) := by decide +kernel
theorem dX10_beginsAct_59 : decode cX10_beginsAct 59 = .ok (.iastore, 1) := by decide +kernel
theorem dX10_beginsAct_60 : decode cX10_beginsAct 60 = .ok (.iinc 2 1, 3) := by decide +kernel
theorem dX10_beginsAct_63 : decode cX10_beginsAct 63 = .ok (.goto (-57), 3) := by decide +kernel
theorem dX10_beginsAct_66 : decode cX10_beginsAct 66 = .ok (.return_, 1) := by decide +kernel
theorem dX10_tileOf_0 : decode cX10_tileOf 0 = .ok (.iload_n 0, 1) := by decide +kernel
theorem dX10_tileOf_1 : decode cX10_tileOf 1 = .ok (.bipush 16, 2) := by decide +kernel
theorem dX10_tileOf_3 : decode cX10_tileOf 3 = .ok (.idiv, 1) := by decide +kernel
theorem dX10_tileOf_4 : decode cX10_tileOf 4 = .ok (.iconst 4, 1) := by decide +kernel
theorem dX10_tileOf_5 : decode cX10_tileOf 5 = .ok (.idiv, 1) := by decide +kernel
theorem dX10_tileOf_6 : decode cX10_tileOf 6 = .ok (.iconst 4, 1) := by decide +kernel
theorem dX10_tileOf_7 : decode cX10_tileOf 7 = .ok (.imul, 1) := by decide +kernel
theorem dX10_tileOf_8 : decode cX10_tileOf 8 = .ok (.iload_n 0, 1) := by decide +kernel
theorem dX10_tileOf_9 : decode cX10_tileOf 9 = .ok (.bipush 16, 2) := by decide +kernel
theorem dX10_tileOf_11 : decode cX10_tileOf 11 = .ok (.irem, 1) := by decide +kernel
theorem dX10_tileOf_12 : decode cX10_tileOf 12 = .ok (.iconst 4, 1) := by decide +kernel
theorem dX10_tileOf_13 : decode cX10_tileOf 13 = .ok (.idiv, 1) := by decide +kernel
theorem dX10_tileOf_14 : decode cX10_tileOf 14 = .ok (.iadd, 1) := by decide +kernel
theorem dX10_tileOf_15 : decode cX10_tileOf 15 = .ok (.ireturn, 1) := by decide +kernel
theorem dX10_endsAct_0 : decode cX10_endsAct 0 = .ok (.iconst 0, 1) := by decide +kernel
theorem dX10_endsAct_1 : decode cX10_endsAct 1 = .ok (.istore_n 2, 1) := by decide +kernel
theorem dX10_endsAct_2 : decode cX10_endsAct 2 = .ok (.iconst 0, 1) := by decide +kernel
theorem dX10_endsAct_3 : decode cX10_endsAct 3 = .ok (.istore_n 3, 1) := by decide +kernel
theorem dX10_endsAct_4 : decode cX10_endsAct 4 = .ok (.iload_n 3, 1) := by decide +kernel
theorem dX10_endsAct_5 : decode cX10_endsAct 5 = .ok (.sipush 192, 3) := by decide +kernel
theorem dX10_endsAct_8 : decode cX10_endsAct 8 = .ok (.if_icmp .ge 75, 3) := by decide +kernel
theorem dX10_endsAct_11 : decode cX10_endsAct 11 = .ok (.iload_n 2, 1) := by decide +kernel
theorem dX10_endsAct_12 : decode cX10_endsAct 12 = .ok (.aload_n 0, 1) := by decide +kernel
theorem dX10_endsAct_13 : decode cX10_endsAct 13 = .ok (.getfield 19, 3) := by decide +kernel
theorem dX10_endsAct_16 : decode cX10_endsAct 16 = .ok (.iload_n 3, 1) := by decide +kernel
theorem dX10_endsAct_17 : decode cX10_endsAct 17 = .ok (.iaload, 1) := by decide +kernel
theorem dX10_endsAct_18 : decode cX10_endsAct 18 = .ok (.aload_n 0, 1) := by decide +kernel
theorem dX10_endsAct_19 : decode cX10_endsAct 19 = .ok (.getfield 9, 3) := by decide +kernel
theorem dX10_endsAct_22 : decode cX10_endsAct 22 = .ok (.bipush 20, 2) := by decide +kernel
theorem dX10_endsAct_24 : decode cX10_endsAct 24 = .ok (.sipush 192, 3) := by decide +kernel
theorem dX10_endsAct_27 : decode cX10_endsAct 27 = .ok (.iload_n 1, 1) := by decide +kernel
theorem dX10_endsAct_28 : decode cX10_endsAct 28 = .ok (.imul, 1) := by decide +kernel
theorem dX10_endsAct_29 : decode cX10_endsAct 29 = .ok (.iadd, 1) := by decide +kernel
theorem dX10_endsAct_30 : decode cX10_endsAct 30 = .ok (.iload_n 3, 1) := by decide +kernel
theorem dX10_endsAct_31 : decode cX10_endsAct 31 = .ok (.iadd, 1) := by decide +kernel
theorem dX10_endsAct_32 : decode cX10_endsAct 32 = .ok (.iaload, 1) := by decide +kernel
theorem dX10_endsAct_33 : decode cX10_endsAct 33 = .ok (.if_icmp .ne 32, 3) := by decide +kernel
theorem dX10_endsAct_36 : decode cX10_endsAct 36 = .ok (.aload_n 0, 1) := by decide +kernel
theorem dX10_endsAct_37 : decode cX10_endsAct 37 = .ok (.getfield 19, 3) := by decide +kernel
theorem dX10_endsAct_40 : decode cX10_endsAct 40 = .ok (.sipush 192, 3) := by decide +kernel
theorem dX10_endsAct_43 : decode cX10_endsAct 43 = .ok (.iload_n 3, 1) := by decide +kernel
theorem dX10_endsAct_44 : decode cX10_endsAct 44 = .ok (.iadd, 1) := by decide +kernel
theorem dX10_endsAct_45 : decode cX10_endsAct 45 = .ok (.iaload, 1) := by decide +kernel
theorem dX10_endsAct_46 : decode cX10_endsAct 46 = .ok (.aload_n 0, 1) := by decide +kernel
theorem dX10_endsAct_47 : decode cX10_endsAct 47 = .ok (.getfield 9, 3) := by decide +kernel
theorem dX10_endsAct_50 : decode cX10_endsAct 50 = .ok (.sipush 788, 3) := by decide +kernel
theorem dX10_endsAct_53 : decode cX10_endsAct 53 = .ok (.sipush 192, 3) := by decide +kernel
theorem dX10_endsAct_56 : decode cX10_endsAct 56 = .ok (.iload_n 1, 1) := by decide +kernel
theorem dX10_endsAct_57 : decode cX10_endsAct 57 = .ok (.imul, 1) := by decide +kernel
theorem dX10_endsAct_58 : decode cX10_endsAct 58 = .ok (.iadd, 1) := by decide +kernel
theorem dX10_endsAct_59 : decode cX10_endsAct 59 = .ok (.iload_n 3, 1) := by decide +kernel
theorem dX10_endsAct_60 : decode cX10_endsAct 60 = .ok (.iadd, 1) := by decide +kernel
theorem dX10_endsAct_61 : decode cX10_endsAct 61 = .ok (.iaload, 1) := by decide +kernel
theorem dX10_endsAct_62 : decode cX10_endsAct 62 = .ok (.if_icmp .eq 12, 3) := by decide +kernel
theorem dX10_endsAct_65 : decode cX10_endsAct 65 = .ok (.iconst 1, 1) := by decide +kernel
theorem dX10_endsAct_66 : decode cX10_endsAct 66 = .ok (.iload_n 3, 1) := by decide +kernel
theorem dX10_endsAct_67 : decode cX10_endsAct 67 = .ok (.invokestatic 215, 3) := by decide +kernel
theorem dX10_endsAct_70 : decode cX10_endsAct 70 = .ok (.ishl, 1) := by decide +kernel
theorem dX10_endsAct_71 : decode cX10_endsAct 71 = .ok (.goto 4, 3) := by decide +kernel
theorem dX10_endsAct_74 : decode cX10_endsAct 74 = .ok (.iconst 0, 1) := by decide +kernel
theorem dX10_endsAct_75 : decode cX10_endsAct 75 = .ok (.ior, 1) := by decide +kernel
theorem dX10_endsAct_76 : decode cX10_endsAct 76 = .ok (.istore_n 2, 1) := by decide +kernel
theorem dX10_endsAct_77 : decode cX10_endsAct 77 = .ok (.iinc 3 1, 3) := by decide +kernel
theorem dX10_endsAct_80 : decode cX10_endsAct 80 = .ok (.goto (-76), 3) := by decide +kernel
theorem dX10_endsAct_83 : decode cX10_endsAct 83 = .ok (.iload_n 2, 1) := by decide +kernel
theorem dX10_endsAct_84 : decode cX10_endsAct 84 = .ok (.ifCond .ne 4, 3) := by decide +kernel
theorem dX10_endsAct_87 : decode cX10_endsAct 87 = .ok (.return_, 1) := by decide +kernel
theorem dX10_endsAct_88 : decode cX10_endsAct 88 = .ok (.aload_n 0, 1) := by decide +kernel
theorem dX10_endsAct_89 : decode cX10_endsAct 89 = .ok (.getfield 9, 3) := by decide +kernel
theorem dX10_endsAct_92 : decode cX10_endsAct 92 = .ok (.bipush 6, 2) := by decide +kernel
theorem dX10_endsAct_94 : decode cX10_endsAct 94 = .ok (.iaload, 1) := by decide +kernel
theorem dX10_endsAct_95 : decode cX10_endsAct 95 = .ok (.bipush 10, 2) := by decide +kernel
theorem dX10_endsAct_97 : decode cX10_endsAct 97 = .ok (.if_icmp .ne 49, 3) := by decide +kernel
theorem dX10_endsAct_100 : decode cX10_endsAct 100 = .ok (.iconst 0, 1) := by decide +kernel
theorem dX10_endsAct_101 : decode cX10_endsAct 101 = .ok (.istore_n 3, 1) := by decide +kernel
theorem dX10_endsAct_102 : decode cX10_endsAct 102 = .ok (.iload_n 3, 1) := by decide +kernel
theorem dX10_endsAct_103 : decode cX10_endsAct 103 = .ok (.sipush 3474, 3) := by decide +kernel
theorem dX10_endsAct_106 : decode cX10_endsAct 106 = .ok (.if_icmp .ge 29, 3) := by decide +kernel
theorem dX10_endsAct_109 : decode cX10_endsAct 109 = .ok (.aload_n 0, 1) := by decide +kernel
theorem dX10_endsAct_110 : decode cX10_endsAct 110 = .ok (.getfield 9, 3) := by decide +kernel
theorem dX10_endsAct_113 : decode cX10_endsAct 113 = .ok (.sipush 1748, 3) := by decide +kernel
theorem dX10_endsAct_116 : decode cX10_endsAct 116 = .ok (.iload_n 3, 1) := by decide +kernel
theorem dX10_endsAct_117 : decode cX10_endsAct 117 = .ok (.iadd, 1) := by decide +kernel
theorem dX10_endsAct_118 : decode cX10_endsAct 118 = .ok (.aload_n 0, 1) := by decide +kernel
theorem dX10_endsAct_119 : decode cX10_endsAct 119 = .ok (.getfield 9, 3) := by decide +kernel
theorem dX10_endsAct_122 : decode cX10_endsAct 122 = .ok (.sipush 2134, 3) := by decide +kernel
theorem dX10_endsAct_125 : decode cX10_endsAct 125 = .ok (.iload_n 3, 1) := by decide +kernel
theorem dX10_endsAct_126 : decode cX10_endsAct 126 = .ok (.iadd, 1) := by decide +kernel
theorem dX10_endsAct_127 : decode cX10_endsAct 127 = .ok (.iaload, 1) := by decide +kernel
theorem dX10_endsAct_128 : decode cX10_endsAct 128 = .ok (.iastore, 1) := by decide +kernel
theorem dX10_endsAct_129 : decode cX10_endsAct 129 = .ok (.iinc 3 1, 3) := by decide +kernel
theorem dX10_endsAct_132 : decode cX10_endsAct 132 = .ok (.goto (-30), 3) := by decide +kernel
theorem dX10_endsAct_135 : decode cX10_endsAct 135 = .ok (.aload_n 0, 1) := by decide +kernel
theorem dX10_endsAct_136 : decode cX10_endsAct 136 = .ok (.getfield 9, 3) := by decide +kernel
theorem dX10_endsAct_139 : decode cX10_endsAct 139 = .ok (.bipush 6, 2) := by decide +kernel
theorem dX10_endsAct_141 : decode cX10_endsAct 141 = .ok (.dup2, 1) := by decide +kernel
theorem dX10_endsAct_142 : decode cX10_endsAct 142 = .ok (.iaload, 1) := by decide +kernel
theorem dX10_endsAct_143 : decode cX10_endsAct 143 = .ok (.iconst 1, 1) := by decide +kernel
theorem dX10_endsAct_144 : decode cX10_endsAct 144 = .ok (.isub, 1) := by decide +kernel
theorem dX10_endsAct_145 : decode cX10_endsAct 145 = .ok (.iastore, 1) := by decide +kernel
theorem dX10_endsAct_146 : decode cX10_endsAct 146 = .ok (.sipush 1748, 3) := by decide +kernel
theorem dX10_endsAct_149 : decode cX10_endsAct 149 = .ok (.sipush 386, 3) := by decide +kernel
theorem dX10_endsAct_152 : decode cX10_endsAct 152 = .ok (.aload_n 0, 1) := by decide +kernel
theorem dX10_endsAct_153 : decode cX10_endsAct 153 = .ok (.getfield 9, 3) := by decide +kernel
theorem dX10_endsAct_156 : decode cX10_endsAct 156 = .ok (.bipush 6, 2) := by decide +kernel
theorem dX10_endsAct_158 : decode cX10_endsAct 158 = .ok (.iaload, 1) := by decide +kernel
theorem dX10_endsAct_159 : decode cX10_endsAct 159 = .ok (.imul, 1) := by decide +kernel
theorem dX10_endsAct_160 : decode cX10_endsAct 160 = .ok (.iadd, 1) := by decide +kernel
theorem dX10_endsAct_161 : decode cX10_endsAct 161 = .ok (.istore_n 3, 1) := by decide +kernel
theorem dX10_endsAct_162 : decode cX10_endsAct 162 = .ok (.aload_n 0, 1) := by decide +kernel
theorem dX10_endsAct_163 : decode cX10_endsAct 163 = .ok (.getfield 9, 3) := by decide +kernel
theorem dX10_endsAct_166 : decode cX10_endsAct 166 = .ok (.iload_n 3, 1) := by decide +kernel
theorem dX10_endsAct_167 : decode cX10_endsAct 167 = .ok (.iload_n 1, 1) := by decide +kernel
theorem dX10_endsAct_168 : decode cX10_endsAct 168 = .ok (.iastore, 1) := by decide +kernel
theorem dX10_endsAct_169 : decode cX10_endsAct 169 = .ok (.aload_n 0, 1) := by decide +kernel
theorem dX10_endsAct_170 : decode cX10_endsAct 170 = .ok (.getfield 9, 3) := by decide +kernel
theorem dX10_endsAct_173 : decode cX10_endsAct 173 = .ok (.iload_n 3, 1) := by decide +kernel
theorem dX10_endsAct_174 : decode cX10_endsAct 174 = .ok (.iconst 1, 1) := by decide +kernel
theorem dX10_endsAct_175 : decode cX10_endsAct 175 = .ok (.iadd, 1) := by decide +kernel
theorem dX10_endsAct_176 : decode cX10_endsAct 176 = .ok (.iload_n 2, 1) := by decide +kernel
theorem dX10_endsAct_177 : decode cX10_endsAct 177 = .ok (.iastore, 1) := by decide +kernel
theorem dX10_endsAct_178 : decode cX10_endsAct 178 = .ok (.iconst 0, 1) := by decide +kernel
theorem dX10_endsAct_179 : decode cX10_endsAct 179 = .ok (.istore 4, 2) := by decide +kernel
theorem dX10_endsAct_181 : decode cX10_endsAct 181 = .ok (.iload 4, 2) := by decide +kernel
theorem dX10_endsAct_183 : decode cX10_endsAct 183 = .ok (.sipush 384, 3) := by decide +kernel
theorem dX10_endsAct_186 : decode cX10_endsAct 186 = .ok (.if_icmp .ge 27, 3) := by decide +kernel
theorem dX10_endsAct_189 : decode cX10_endsAct 189 = .ok (.aload_n 0, 1) := by decide +kernel
theorem dX10_endsAct_190 : decode cX10_endsAct 190 = .ok (.getfield 9, 3) := by decide +kernel
theorem dX10_endsAct_193 : decode cX10_endsAct 193 = .ok (.iload_n 3, 1) := by decide +kernel
theorem dX10_endsAct_194 : decode cX10_endsAct 194 = .ok (.iconst 2, 1) := by decide +kernel
theorem dX10_endsAct_195 : decode cX10_endsAct 195 = .ok (.iadd, 1) := by decide +kernel
theorem dX10_endsAct_196 : decode cX10_endsAct 196 = .ok (.iload 4, 2) := by decide +kernel
theorem dX10_endsAct_198 : decode cX10_endsAct 198 = .ok (.iadd, 1) := by decide +kernel
theorem dX10_endsAct_199 : decode cX10_endsAct 199 = .ok (.aload_n 0, 1) := by decide +kernel
theorem dX10_endsAct_200 : decode cX10_endsAct 200 = .ok (.getfield 19, 3) := by decide +kernel
theorem dX10_endsAct_203 : decode cX10_endsAct 203 = .ok (.iload 4, 2) := by decide +kernel
theorem dX10_endsAct_205 : decode cX10_endsAct 205 = .ok (.iaload, 1) := by decide +kernel
theorem dX10_endsAct_206 : decode cX10_endsAct 206 = .ok (.iastore, 1) := by decide +kernel
theorem dX10_endsAct_207 : decode cX10_endsAct 207 = .ok (.iinc 4 1, 3) := by decide +kernel
theorem dX10_endsAct_210 : decode cX10_endsAct 210 = .ok (.goto (-29), 3) := by decide +kernel
theorem dX10_endsAct_213 : decode cX10_endsAct 213 = .ok (.aload_n 0, 1) := by decide +kernel
theorem dX10_endsAct_214 : decode cX10_endsAct 214 = .ok (.getfield 9, 3) := by decide +kernel
theorem dX10_endsAct_217 : decode cX10_endsAct 217 = .ok (.bipush 6, 2) := by decide +kernel
theorem dX10_endsAct_219 : decode cX10_endsAct 219 = .ok (.dup2, 1) := by decide +kernel
theorem dX10_endsAct_220 : decode cX10_endsAct 220 = .ok (.iaload, 1) := by decide +kernel
theorem dX10_endsAct_221 : decode cX10_endsAct 221 = .ok (.iconst 1, 1) := by decide +kernel
theorem dX10_endsAct_222 : decode cX10_endsAct 222 = .ok (.iadd, 1) := by decide +kernel
theorem dX10_endsAct_223 : decode cX10_endsAct 223 = .ok (.iastore, 1) := by decide +kernel
theorem dX10_endsAct_224 : decode cX10_endsAct 224 = .ok (.aload_n 0, 1) := by decide +kernel
theorem dX10_endsAct_225 : decode cX10_endsAct 225 = .ok (.getfield 9, 3) := by decide +kernel
theorem dX10_endsAct_228 : decode cX10_endsAct 228 = .ok (.bipush 7, 2) := by decide +kernel
theorem dX10_endsAct_230 : decode cX10_endsAct 230 = .ok (.aload_n 0, 1) := by decide +kernel
theorem dX10_endsAct_231 : decode cX10_endsAct 231 = .ok (.getfield 9, 3) := by decide +kernel
theorem dX10_endsAct_234 : decode cX10_endsAct 234 = .ok (.bipush 6, 2) := by decide +kernel
theorem dX10_endsAct_236 : decode cX10_endsAct 236 = .ok (.iaload, 1) := by decide +kernel
theorem dX10_endsAct_237 : decode cX10_endsAct 237 = .ok (.iastore, 1) := by decide +kernel
theorem dX10_endsAct_238 : decode cX10_endsAct 238 = .ok (.return_, 1) := by decide +kernel
theorem dX10_bits_0 : decode cX10_bits 0 = .ok (.iconst 0, 1) := by decide +kernel
theorem dX10_bits_1 : decode cX10_bits 1 = .ok (.istore_n 1, 1) := by decide +kernel
theorem dX10_bits_2 : decode cX10_bits 2 = .ok (.iload_n 0, 1) := by decide +kernel
theorem dX10_bits_3 : decode cX10_bits 3 = .ok (.istore_n 2, 1) := by decide +kernel
theorem dX10_bits_4 : decode cX10_bits 4 = .ok (.iload_n 2, 1) := by decide +kernel
theorem dX10_bits_5 : decode cX10_bits 5 = .ok (.ifCond .eq 15, 3) := by decide +kernel
theorem dX10_bits_8 : decode cX10_bits 8 = .ok (.iinc 1 1, 3) := by decide +kernel
theorem dX10_bits_11 : decode cX10_bits 11 = .ok (.iload_n 2, 1) := by decide +kernel
theorem dX10_bits_12 : decode cX10_bits 12 = .ok (.iload_n 2, 1) := by decide +kernel
theorem dX10_bits_13 : decode cX10_bits 13 = .ok (.iconst 1, 1) := by decide +kernel
theorem dX10_bits_14 : decode cX10_bits 14 = .ok (.isub, 1) := by decide +kernel
theorem dX10_bits_15 : decode cX10_bits 15 = .ok (.iand, 1) := by decide +kernel
theorem dX10_bits_16 : decode cX10_bits 16 = .ok (.istore_n 2, 1) := by decide +kernel
theorem dX10_bits_17 : decode cX10_bits 17 = .ok (.goto (-13), 3) := by decide +kernel
theorem dX10_bits_20 : decode cX10_bits 20 = .ok (.iload_n 1, 1) := by decide +kernel
theorem dX10_bits_21 : decode cX10_bits 21 = .ok (.ireturn, 1) := by decide +kernel
theorem dX10_undo_0 : decode cX10_undo 0 = .ok (.iload_n 1, 1) := by decide +kernel
theorem dX10_undo_1 : decode cX10_undo 1 = .ok (.iconst 0, 1) := by decide +kernel
theorem dX10_undo_2 : decode cX10_undo 2 = .ok (.iconst 1, 1) := by decide +kernel
theorem dX10_undo_3 : decode cX10_undo 3 = .ok (.invokestatic 43, 3) := by decide +kernel
theorem dX10_undo_6 : decode cX10_undo 6 = .ok (.ifCond .ne 6, 3) := by decide +kernel
theorem dX10_undo_9 : decode cX10_undo 9 = .ok (.bipush (-2), 2) := by decide +kernel
theorem dX10_undo_11 : decode cX10_undo 11 = .ok (.ireturn, 1) := by decide +kernel
theorem dX10_undo_12 : decode cX10_undo 12 = .ok (.iload_n 1, 1) := by decide +kernel
theorem dX10_undo_13 : decode cX10_undo 13 = .ok (.ifCond .ne 15, 3) := by decide +kernel
theorem dX10_undo_16 : decode cX10_undo 16 = .ok (.aload_n 0, 1) := by decide +kernel
theorem dX10_undo_17 : decode cX10_undo 17 = .ok (.getfield 9, 3) := by decide +kernel
theorem dX10_undo_20 : decode cX10_undo 20 = .ok (.bipush 6, 2) := by decide +kernel
theorem dX10_undo_22 : decode cX10_undo 22 = .ok (.iaload, 1) := by decide +kernel
theorem dX10_undo_23 : decode cX10_undo 23 = .ok (.iconst 1, 1) := by decide +kernel
theorem dX10_undo_24 : decode cX10_undo 24 = .ok (.isub, 1) := by decide +kernel
theorem dX10_undo_25 : decode cX10_undo 25 = .ok (.goto 10, 3) := by decide +kernel
theorem dX10_undo_28 : decode cX10_undo 28 = .ok (.aload_n 0, 1) := by decide +kernel
theorem dX10_undo_29 : decode cX10_undo 29 = .ok (.getfield 9, 3) := by decide +kernel
theorem dX10_undo_32 : decode cX10_undo 32 = .ok (.bipush 6, 2) := by decide +kernel
theorem dX10_undo_34 : decode cX10_undo 34 = .ok (.iaload, 1) := by decide +kernel
theorem dX10_undo_35 : decode cX10_undo 35 = .ok (.istore_n 2, 1) := by decide +kernel
theorem dX10_undo_36 : decode cX10_undo 36 = .ok (.iload_n 2, 1) := by decide +kernel
theorem dX10_undo_37 : decode cX10_undo 37 = .ok (.ifCond .lt 14, 3) := by decide +kernel
theorem dX10_undo_40 : decode cX10_undo 40 = .ok (.iload_n 2, 1) := by decide +kernel
theorem dX10_undo_41 : decode cX10_undo 41 = .ok (.aload_n 0, 1) := by decide +kernel
theorem dX10_undo_42 : decode cX10_undo 42 = .ok (.getfield 9, 3) := by decide +kernel
theorem dX10_undo_45 : decode cX10_undo 45 = .ok (.bipush 7, 2) := by decide +kernel
theorem dX10_undo_47 : decode cX10_undo 47 = .ok (.iaload, 1) := by decide +kernel
theorem dX10_undo_48 : decode cX10_undo 48 = .ok (.if_icmp .lt 6, 3) := by decide +kernel
theorem dX10_undo_51 : decode cX10_undo 51 = .ok (.bipush (-3), 2) := by decide +kernel
theorem dX10_undo_53 : decode cX10_undo 53 = .ok (.ireturn, 1) := by decide +kernel
theorem dX10_undo_54 : decode cX10_undo 54 = .ok (.sipush 1748, 3) := by decide +kernel
theorem dX10_undo_57 : decode cX10_undo 57 = .ok (.sipush 386, 3) := by decide +kernel
theorem dX10_undo_60 : decode cX10_undo 60 = .ok (.iload_n 2, 1) := by decide +kernel
theorem dX10_undo_61 : decode cX10_undo 61 = .ok (.imul, 1) := by decide +kernel
theorem dX10_undo_62 : decode cX10_undo 62 = .ok (.iadd, 1) := by decide +kernel
theorem dX10_undo_63 : decode cX10_undo 63 = .ok (.istore_n 3, 1) := by decide +kernel
theorem dX10_undo_64 : decode cX10_undo 64 = .ok (.aload_n 0, 1) := by decide +kernel
theorem dX10_undo_65 : decode cX10_undo 65 = .ok (.getfield 9, 3) := by decide +kernel
theorem dX10_undo_68 : decode cX10_undo 68 = .ok (.iload_n 3, 1) := by decide +kernel
theorem dX10_undo_69 : decode cX10_undo 69 = .ok (.iaload, 1) := by decide +kernel
theorem dX10_undo_70 : decode cX10_undo 70 = .ok (.istore 4, 2) := by decide +kernel
theorem dX10_undo_72 : decode cX10_undo 72 = .ok (.iconst 0, 1) := by decide +kernel
theorem dX10_undo_73 : decode cX10_undo 73 = .ok (.istore 5, 2) := by decide +kernel
theorem dX10_undo_75 : decode cX10_undo 75 = .ok (.iload 5, 2) := by decide +kernel
theorem dX10_undo_77 : decode cX10_undo 77 = .ok (.sipush 192, 3) := by decide +kernel
theorem dX10_undo_80 : decode cX10_undo 80 = .ok (.if_icmp .ge 80, 3) := by decide +kernel
theorem dX10_undo_83 : decode cX10_undo 83 = .ok (.aload_n 0, 1) := by decide +kernel
theorem dX10_undo_84 : decode cX10_undo 84 = .ok (.getfield 9, 3) := by decide +kernel
theorem dX10_undo_87 : decode cX10_undo 87 = .ok (.iload_n 3, 1) := by decide +kernel
theorem dX10_undo_88 : decode cX10_undo 88 = .ok (.iconst 1, 1) := by decide +kernel
theorem dX10_undo_89 : decode cX10_undo 89 = .ok (.iadd, 1) := by decide +kernel
theorem dX10_undo_90 : decode cX10_undo 90 = .ok (.iaload, 1) := by decide +kernel
theorem dX10_undo_91 : decode cX10_undo 91 = .ok (.iload 5, 2) := by decide +kernel
theorem dX10_undo_93 : decode cX10_undo 93 = .ok (.invokestatic 215, 3) := by decide +kernel
theorem dX10_undo_96 : decode cX10_undo 96 = .ok (.ishr, 1) := by decide +kernel
theorem dX10_undo_97 : decode cX10_undo 97 = .ok (.iconst 1, 1) := by decide +kernel
theorem dX10_undo_98 : decode cX10_undo 98 = .ok (.iand, 1) := by decide +kernel
theorem dX10_undo_99 : decode cX10_undo 99 = .ok (.ifCond .ne 6, 3) := by decide +kernel
theorem dX10_undo_102 : decode cX10_undo 102 = .ok (.goto 52, 3) := by decide +kernel
theorem dX10_undo_105 : decode cX10_undo 105 = .ok (.aload_n 0, 1) := by decide +kernel
theorem dX10_undo_106 : decode cX10_undo 106 = .ok (.bipush 20, 2) := by decide +kernel
theorem dX10_undo_108 : decode cX10_undo 108 = .ok (.sipush 192, 3) := by decide +kernel
theorem dX10_undo_111 : decode cX10_undo 111 = .ok (.iload 4, 2) := by decide +kernel
theorem dX10_undo_113 : decode cX10_undo 113 = .ok (.imul, 1) := by decide +kernel
theorem dX10_undo_114 : decode cX10_undo 114 = .ok (.iadd, 1) := by decide +kernel
theorem dX10_undo_115 : decode cX10_undo 115 = .ok (.iload 5, 2) := by decide +kernel
theorem dX10_undo_117 : decode cX10_undo 117 = .ok (.iadd, 1) := by decide +kernel
theorem dX10_undo_118 : decode cX10_undo 118 = .ok (.iload_n 3, 1) := by decide +kernel
theorem dX10_undo_119 : decode cX10_undo 119 = .ok (.iconst 2, 1) := by decide +kernel
theorem dX10_undo_120 : decode cX10_undo 120 = .ok (.iadd, 1) := by decide +kernel
theorem dX10_undo_121 : decode cX10_undo 121 = .ok (.iload 5, 2) := by decide +kernel
theorem dX10_undo_123 : decode cX10_undo 123 = .ok (.iadd, 1) := by decide +kernel
theorem dX10_undo_124 : decode cX10_undo 124 = .ok (.invokevirtual 73, 3) := by decide +kernel
theorem dX10_undo_127 : decode cX10_undo 127 = .ok (.aload_n 0, 1) := by decide +kernel
theorem dX10_undo_128 : decode cX10_undo 128 = .ok (.sipush 788, 3) := by decide +kernel
theorem dX10_undo_131 : decode cX10_undo 131 = .ok (.sipush 192, 3) := by decide +kernel
theorem dX10_undo_134 : decode cX10_undo 134 = .ok (.iload 4, 2) := by decide +kernel
theorem dX10_undo_136 : decode cX10_undo 136 = .ok (.imul, 1) := by decide +kernel
theorem dX10_undo_137 : decode cX10_undo 137 = .ok (.iadd, 1) := by decide +kernel
theorem dX10_undo_138 : decode cX10_undo 138 = .ok (.iload 5, 2) := by decide +kernel
theorem dX10_undo_140 : decode cX10_undo 140 = .ok (.iadd, 1) := by decide +kernel
theorem dX10_undo_141 : decode cX10_undo 141 = .ok (.iload_n 3, 1) := by decide +kernel
theorem dX10_undo_142 : decode cX10_undo 142 = .ok (.iconst 2, 1) := by decide +kernel
theorem dX10_undo_143 : decode cX10_undo 143 = .ok (.iadd, 1) := by decide +kernel
theorem dX10_undo_144 : decode cX10_undo 144 = .ok (.sipush 192, 3) := by decide +kernel
theorem dX10_undo_147 : decode cX10_undo 147 = .ok (.iadd, 1) := by decide +kernel
theorem dX10_undo_148 : decode cX10_undo 148 = .ok (.iload 5, 2) := by decide +kernel
theorem dX10_undo_150 : decode cX10_undo 150 = .ok (.iadd, 1) := by decide +kernel
theorem dX10_undo_151 : decode cX10_undo 151 = .ok (.invokevirtual 73, 3) := by decide +kernel
theorem dX10_undo_154 : decode cX10_undo 154 = .ok (.iinc 5 1, 3) := by decide +kernel
theorem dX10_undo_157 : decode cX10_undo 157 = .ok (.goto (-82), 3) := by decide +kernel
theorem dX10_undo_160 : decode cX10_undo 160 = .ok (.aload_n 0, 1) := by decide +kernel
theorem dX10_undo_161 : decode cX10_undo 161 = .ok (.getfield 9, 3) := by decide +kernel
theorem dX10_undo_164 : decode cX10_undo 164 = .ok (.bipush 6, 2) := by decide +kernel
theorem dX10_undo_166 : decode cX10_undo 166 = .ok (.dup2, 1) := by decide +kernel
theorem dX10_undo_167 : decode cX10_undo 167 = .ok (.iaload, 1) := by decide +kernel
theorem dX10_undo_168 : decode cX10_undo 168 = .ok (.iload_n 1, 1) := by decide +kernel
theorem dX10_undo_169 : decode cX10_undo 169 = .ok (.ifCond .ne 7, 3) := by decide +kernel
theorem dX10_undo_172 : decode cX10_undo 172 = .ok (.iconst (-1), 1) := by decide +kernel
theorem dX10_undo_173 : decode cX10_undo 173 = .ok (.goto 4, 3) := by decide +kernel
theorem dX10_undo_176 : decode cX10_undo 176 = .ok (.iconst 1, 1) := by decide +kernel
theorem dX10_undo_177 : decode cX10_undo 177 = .ok (.iadd, 1) := by decide +kernel
theorem dX10_undo_178 : decode cX10_undo 178 = .ok (.iastore, 1) := by decide +kernel
theorem dX10_undo_179 : decode cX10_undo 179 = .ok (.aload_n 0, 1) := by decide +kernel
theorem dX10_undo_180 : decode cX10_undo 180 = .ok (.getfield 9, 3) := by decide +kernel
theorem dX10_undo_183 : decode cX10_undo 183 = .ok (.iload_n 3, 1) := by decide +kernel
theorem dX10_undo_184 : decode cX10_undo 184 = .ok (.iconst 1, 1) := by decide +kernel
theorem dX10_undo_185 : decode cX10_undo 185 = .ok (.iadd, 1) := by decide +kernel
theorem dX10_undo_186 : decode cX10_undo 186 = .ok (.iaload, 1) := by decide +kernel
theorem dX10_undo_187 : decode cX10_undo 187 = .ok (.invokestatic 218, 3) := by decide +kernel
theorem dX10_undo_190 : decode cX10_undo 190 = .ok (.ireturn, 1) := by decide +kernel
theorem dX10_isBoxed_0 : decode cX10_isBoxed 0 = .ok (.iload_n 1, 1) := by decide +kernel
theorem dX10_isBoxed_1 : decode cX10_isBoxed 1 = .ok (.iload_n 2, 1) := by decide +kernel
theorem dX10_isBoxed_2 : decode cX10_isBoxed 2 = .ok (.invokestatic 93, 3) := by decide +kernel
theorem dX10_isBoxed_5 : decode cX10_isBoxed 5 = .ok (.ifCond .eq 12, 3) := by decide +kernel
theorem dX10_isBoxed_8 : decode cX10_isBoxed 8 = .ok (.iload_n 3, 1) := by decide +kernel
theorem dX10_isBoxed_9 : decode cX10_isBoxed 9 = .ok (.iload 4, 2) := by decide +kernel
theorem dX10_isBoxed_11 : decode cX10_isBoxed 11 = .ok (.invokestatic 93, 3) := by decide +kernel
theorem dX10_isBoxed_14 : decode cX10_isBoxed 14 = .ok (.ifCond .ne 5, 3) := by decide +kernel
theorem dX10_isBoxed_17 : decode cX10_isBoxed 17 = .ok (.iconst 0, 1) := by decide +kernel
theorem dX10_isBoxed_18 : decode cX10_isBoxed 18 = .ok (.ireturn, 1) := by decide +kernel
