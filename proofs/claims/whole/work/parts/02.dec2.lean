theorem dX8_allNow_29 : decode cX8_allNow 29 = .ok (.iload 4, 2) := by decide +kernel
theorem dX8_allNow_31 : decode cX8_allNow 31 = .ok (.invokevirtual 211, 3) := by decide +kernel
theorem dX8_allNow_34 : decode cX8_allNow 34 = .ok (.ifCond .eq 7, 3) := by decide +kernel
theorem dX8_allNow_37 : decode cX8_allNow 37 = .ok (.iconst 1, 1) := by decide +kernel
theorem dX8_allNow_38 : decode cX8_allNow 38 = .ok (.goto 4, 3) := by decide +kernel
theorem dX8_allNow_41 : decode cX8_allNow 41 = .ok (.iconst 0, 1) := by decide +kernel
theorem dX8_allNow_42 : decode cX8_allNow 42 = .ok (.iadd, 1) := by decide +kernel
theorem dX8_allNow_43 : decode cX8_allNow 43 = .ok (.istore_n 2, 1) := by decide +kernel
theorem dX8_allNow_44 : decode cX8_allNow 44 = .ok (.iload_n 3, 1) := by decide +kernel
theorem dX8_allNow_45 : decode cX8_allNow 45 = .ok (.aload_n 0, 1) := by decide +kernel
theorem dX8_allNow_46 : decode cX8_allNow 46 = .ok (.getfield 41, 3) := by decide +kernel
theorem dX8_allNow_49 : decode cX8_allNow 49 = .ok (.iload 4, 2) := by decide +kernel
theorem dX8_allNow_51 : decode cX8_allNow 51 = .ok (.iaload, 1) := by decide +kernel
theorem dX8_allNow_52 : decode cX8_allNow 52 = .ok (.iconst (-1), 1) := by decide +kernel
theorem dX8_allNow_53 : decode cX8_allNow 53 = .ok (.if_icmp .ne 7, 3) := by decide +kernel
theorem dX8_allNow_56 : decode cX8_allNow 56 = .ok (.iconst 1, 1) := by decide +kernel
theorem dX8_allNow_57 : decode cX8_allNow 57 = .ok (.goto 4, 3) := by decide +kernel
theorem dX8_allNow_60 : decode cX8_allNow 60 = .ok (.iconst 0, 1) := by decide +kernel
theorem dX8_allNow_61 : decode cX8_allNow 61 = .ok (.iadd, 1) := by decide +kernel
theorem dX8_allNow_62 : decode cX8_allNow 62 = .ok (.istore_n 3, 1) := by decide +kernel
theorem dX8_allNow_63 : decode cX8_allNow 63 = .ok (.iinc 4 1, 3) := by decide +kernel
theorem dX8_allNow_66 : decode cX8_allNow 66 = .ok (.goto (-59), 3) := by decide +kernel
theorem dX8_allNow_69 : decode cX8_allNow 69 = .ok (.iload_n 1, 1) := by decide +kernel
theorem dX8_allNow_70 : decode cX8_allNow 70 = .ok (.tableswitch 69 0 4 #[34, 39, 52, 58, 67], 34) := by decide +kernel
theorem dX8_allNow_104 : decode cX8_allNow 104 = .ok (.aload_n 0, 1) := by decide +kernel
theorem dX8_allNow_105 : decode cX8_allNow 105 = .ok (.invokevirtual 199, 3) := by decide +kernel
theorem dX8_allNow_108 : decode cX8_allNow 108 = .ok (.ireturn, 1) := by decide +kernel
theorem dX8_allNow_109 : decode cX8_allNow 109 = .ok (.aload_n 0, 1) := by decide +kernel
theorem dX8_allNow_110 : decode cX8_allNow 110 = .ok (.invokevirtual 214, 3) := by decide +kernel
theorem dX8_allNow_113 : decode cX8_allNow 113 = .ok (.ifCond .eq 7, 3) := by decide +kernel
theorem dX8_allNow_116 : decode cX8_allNow 116 = .ok (.iconst 1, 1) := by decide +kernel
theorem dX8_allNow_117 : decode cX8_allNow 117 = .ok (.goto 4, 3) := by decide +kernel
theorem dX8_allNow_120 : decode cX8_allNow 120 = .ok (.iconst 0, 1) := by decide +kernel
theorem dX8_allNow_121 : decode cX8_allNow 121 = .ok (.ireturn, 1) := by decide +kernel
theorem dX8_allNow_122 : decode cX8_allNow 122 = .ok (.aload_n 0, 1) := by decide +kernel
theorem dX8_allNow_123 : decode cX8_allNow 123 = .ok (.iconst 0, 1) := by decide +kernel
theorem dX8_allNow_124 : decode cX8_allNow 124 = .ok (.invokevirtual 218, 3) := by decide +kernel
theorem dX8_allNow_127 : decode cX8_allNow 127 = .ok (.ireturn, 1) := by decide +kernel
theorem dX8_allNow_128 : decode cX8_allNow 128 = .ok (.aload_n 0, 1) := by decide +kernel
theorem dX8_allNow_129 : decode cX8_allNow 129 = .ok (.iconst 1, 1) := by decide +kernel
theorem dX8_allNow_130 : decode cX8_allNow 130 = .ok (.invokevirtual 218, 3) := by decide +kernel
theorem dX8_allNow_133 : decode cX8_allNow 133 = .ok (.bipush 6, 2) := by decide +kernel
theorem dX8_allNow_135 : decode cX8_allNow 135 = .ok (.iadd, 1) := by decide +kernel
theorem dX8_allNow_136 : decode cX8_allNow 136 = .ok (.ireturn, 1) := by decide +kernel
theorem dX8_allNow_137 : decode cX8_allNow 137 = .ok (.iload_n 2, 1) := by decide +kernel
theorem dX8_allNow_138 : decode cX8_allNow 138 = .ok (.ireturn, 1) := by decide +kernel
theorem dX8_allNow_139 : decode cX8_allNow 139 = .ok (.iload_n 3, 1) := by decide +kernel
theorem dX8_allNow_140 : decode cX8_allNow 140 = .ok (.ireturn, 1) := by decide +kernel
theorem dX8_all_0 : decode cX8_all 0 = .ok (.iload_n 1, 1) := by decide +kernel
theorem dX8_all_1 : decode cX8_all 1 = .ok (.i2l, 1) := by decide +kernel
theorem dX8_all_2 : decode cX8_all 2 = .ok (.lconst 0, 1) := by decide +kernel
theorem dX8_all_3 : decode cX8_all 3 = .ok (.ldc2_w 102, 3) := by decide +kernel
theorem dX8_all_6 : decode cX8_all 6 = .ok (.invokestatic 63, 3) := by decide +kernel
theorem dX8_all_9 : decode cX8_all 9 = .ok (.ifCond .ne 10, 3) := by decide +kernel
theorem dX8_all_12 : decode cX8_all 12 = .ok (.aload_n 0, 1) := by decide +kernel
theorem dX8_all_13 : decode cX8_all 13 = .ok (.bipush (-2), 2) := by decide +kernel
theorem dX8_all_15 : decode cX8_all 15 = .ok (.invokevirtual 91, 3) := by decide +kernel
theorem dX8_all_18 : decode cX8_all 18 = .ok (.ireturn, 1) := by decide +kernel
theorem dX8_all_19 : decode cX8_all 19 = .ok (.aload_n 0, 1) := by decide +kernel
theorem dX8_all_20 : decode cX8_all 20 = .ok (.invokevirtual 196, 3) := by decide +kernel
theorem dX8_all_23 : decode cX8_all 23 = .ok (.aload_n 0, 1) := by decide +kernel
theorem dX8_all_24 : decode cX8_all 24 = .ok (.iload_n 1, 1) := by decide +kernel
theorem dX8_all_25 : decode cX8_all 25 = .ok (.invokevirtual 222, 3) := by decide +kernel
theorem dX8_all_28 : decode cX8_all 28 = .ok (.ireturn, 1) := by decide +kernel
theorem dX8_floorBy_0 : decode cX8_floorBy 0 = .ok (.iload_n 0, 1) := by decide +kernel
theorem dX8_floorBy_1 : decode cX8_floorBy 1 = .ok (.iload_n 1, 1) := by decide +kernel
theorem dX8_floorBy_2 : decode cX8_floorBy 2 = .ok (.idiv, 1) := by decide +kernel
theorem dX8_floorBy_3 : decode cX8_floorBy 3 = .ok (.istore_n 2, 1) := by decide +kernel
theorem dX8_floorBy_4 : decode cX8_floorBy 4 = .ok (.iload_n 0, 1) := by decide +kernel
theorem dX8_floorBy_5 : decode cX8_floorBy 5 = .ok (.iload_n 1, 1) := by decide +kernel
theorem dX8_floorBy_6 : decode cX8_floorBy 6 = .ok (.irem, 1) := by decide +kernel
theorem dX8_floorBy_7 : decode cX8_floorBy 7 = .ok (.ifCond .ge 9, 3) := by decide +kernel
theorem dX8_floorBy_10 : decode cX8_floorBy 10 = .ok (.iload_n 2, 1) := by decide +kernel
theorem dX8_floorBy_11 : decode cX8_floorBy 11 = .ok (.iconst 1, 1) := by decide +kernel
theorem dX8_floorBy_12 : decode cX8_floorBy 12 = .ok (.isub, 1) := by decide +kernel
theorem dX8_floorBy_13 : decode cX8_floorBy 13 = .ok (.goto 4, 3) := by decide +kernel
theorem dX8_floorBy_16 : decode cX8_floorBy 16 = .ok (.iload_n 2, 1) := by decide +kernel
theorem dX8_floorBy_17 : decode cX8_floorBy 17 = .ok (.ireturn, 1) := by decide +kernel
theorem dX8_place_0 : decode cX8_place 0 = .ok (.aload_n 0, 1) := by decide +kernel
theorem dX8_place_1 : decode cX8_place 1 = .ok (.iload_n 1, 1) := by decide +kernel
theorem dX8_place_2 : decode cX8_place 2 = .ok (.invokevirtual 128, 3) := by decide +kernel
theorem dX8_place_5 : decode cX8_place 5 = .ok (.ifCond .eq 13, 3) := by decide +kernel
theorem dX8_place_8 : decode cX8_place 8 = .ok (.iload_n 2, 1) := by decide +kernel
theorem dX8_place_9 : decode cX8_place 9 = .ok (.i2l, 1) := by decide +kernel
theorem dX8_place_10 : decode cX8_place 10 = .ok (.lconst 0, 1) := by decide +kernel
theorem dX8_place_11 : decode cX8_place 11 = .ok (.lconst 1, 1) := by decide +kernel
theorem dX8_place_12 : decode cX8_place 12 = .ok (.invokestatic 63, 3) := by decide +kernel
theorem dX8_place_15 : decode cX8_place 15 = .ok (.ifCond .ne 10, 3) := by decide +kernel
theorem dX8_place_18 : decode cX8_place 18 = .ok (.aload_n 0, 1) := by decide +kernel
theorem dX8_place_19 : decode cX8_place 19 = .ok (.bipush (-2), 2) := by decide +kernel
theorem dX8_place_21 : decode cX8_place 21 = .ok (.invokevirtual 91, 3) := by decide +kernel
theorem dX8_place_24 : decode cX8_place 24 = .ok (.ireturn, 1) := by decide +kernel
theorem dX8_place_25 : decode cX8_place 25 = .ok (.aload_n 0, 1) := by decide +kernel
theorem dX8_place_26 : decode cX8_place 26 = .ok (.invokevirtual 196, 3) := by decide +kernel
theorem dX8_place_29 : decode cX8_place 29 = .ok (.aload_n 0, 1) := by decide +kernel
theorem dX8_place_30 : decode cX8_place 30 = .ok (.invokevirtual 214, 3) := by decide +kernel
theorem dX8_place_33 : decode cX8_place 33 = .ok (.ifCond .ne 10, 3) := by decide +kernel
theorem dX8_place_36 : decode cX8_place 36 = .ok (.aload_n 0, 1) := by decide +kernel
theorem dX8_place_37 : decode cX8_place 37 = .ok (.bipush (-3), 2) := by decide +kernel
theorem dX8_place_39 : decode cX8_place 39 = .ok (.invokevirtual 91, 3) := by decide +kernel
theorem dX8_place_42 : decode cX8_place 42 = .ok (.ireturn, 1) := by decide +kernel
theorem dX8_place_43 : decode cX8_place 43 = .ok (.iconst 0, 1) := by decide +kernel
theorem dX8_place_44 : decode cX8_place 44 = .ok (.istore_n 3, 1) := by decide +kernel
theorem dX8_place_45 : decode cX8_place 45 = .ok (.iconst 0, 1) := by decide +kernel
theorem dX8_place_46 : decode cX8_place 46 = .ok (.istore 4, 2) := by decide +kernel
theorem dX8_place_48 : decode cX8_place 48 = .ok (.iconst 0, 1) := by decide +kernel
theorem dX8_place_49 : decode cX8_place 49 = .ok (.istore 5, 2) := by decide +kernel
theorem dX8_place_51 : decode cX8_place 51 = .ok (.iconst 0, 1) := by decide +kernel
theorem dX8_place_52 : decode cX8_place 52 = .ok (.istore 6, 2) := by decide +kernel
theorem dX8_place_54 : decode cX8_place 54 = .ok (.iload 6, 2) := by decide +kernel
theorem dX8_place_56 : decode cX8_place 56 = .ok (.iload_n 1, 1) := by decide +kernel
theorem dX8_place_57 : decode cX8_place 57 = .ok (.if_icmp .eq 38, 3) := by decide +kernel
theorem dX8_place_60 : decode cX8_place 60 = .ok (.iload_n 3, 1) := by decide +kernel
theorem dX8_place_61 : decode cX8_place 61 = .ok (.aload_n 0, 1) := by decide +kernel
theorem dX8_place_62 : decode cX8_place 62 = .ok (.iload 6, 2) := by decide +kernel
theorem dX8_place_64 : decode cX8_place 64 = .ok (.invokevirtual 205, 3) := by decide +kernel
theorem dX8_place_67 : decode cX8_place 67 = .ok (.iadd, 1) := by decide +kernel
theorem dX8_place_68 : decode cX8_place 68 = .ok (.istore_n 3, 1) := by decide +kernel
theorem dX8_place_69 : decode cX8_place 69 = .ok (.iload 4, 2) := by decide +kernel
theorem dX8_place_71 : decode cX8_place 71 = .ok (.aload_n 0, 1) := by decide +kernel
theorem dX8_place_72 : decode cX8_place 72 = .ok (.iload 6, 2) := by decide +kernel
theorem dX8_place_74 : decode cX8_place 74 = .ok (.invokevirtual 202, 3) := by decide +kernel
theorem dX8_place_77 : decode cX8_place 77 = .ok (.iadd, 1) := by decide +kernel
theorem dX8_place_78 : decode cX8_place 78 = .ok (.istore 4, 2) := by decide +kernel
theorem dX8_place_80 : decode cX8_place 80 = .ok (.iinc 5 1, 3) := by decide +kernel
theorem dX8_place_83 : decode cX8_place 83 = .ok (.aload_n 0, 1) := by decide +kernel
theorem dX8_place_84 : decode cX8_place 84 = .ok (.getfield 38, 3) := by decide +kernel
theorem dX8_place_87 : decode cX8_place 87 = .ok (.iload 6, 2) := by decide +kernel
theorem dX8_place_89 : decode cX8_place 89 = .ok (.iaload, 1) := by decide +kernel
theorem dX8_place_90 : decode cX8_place 90 = .ok (.istore 6, 2) := by decide +kernel
theorem dX8_place_92 : decode cX8_place 92 = .ok (.goto (-38), 3) := by decide +kernel
theorem dX8_place_95 : decode cX8_place 95 = .ok (.iconst 2, 1) := by decide +kernel
theorem dX8_place_96 : decode cX8_place 96 = .ok (.aload_n 0, 1) := by decide +kernel
theorem dX8_place_97 : decode cX8_place 97 = .ok (.iconst 1, 1) := by decide +kernel
theorem dX8_place_98 : decode cX8_place 98 = .ok (.invokevirtual 218, 3) := by decide +kernel
theorem dX8_place_101 : decode cX8_place 101 = .ok (.imul, 1) := by decide +kernel
theorem dX8_place_102 : decode cX8_place 102 = .ok (.iload 5, 2) := by decide +kernel
theorem dX8_place_104 : decode cX8_place 104 = .ok (.imul, 1) := by decide +kernel
theorem dX8_place_105 : decode cX8_place 105 = .ok (.aload_n 0, 1) := by decide +kernel
theorem dX8_place_106 : decode cX8_place 106 = .ok (.invokevirtual 59, 3) := by decide +kernel
theorem dX8_place_109 : decode cX8_place 109 = .ok (.iadd, 1) := by decide +kernel
theorem dX8_place_110 : decode cX8_place 110 = .ok (.iconst 2, 1) := by decide +kernel
theorem dX8_place_111 : decode cX8_place 111 = .ok (.aload_n 0, 1) := by decide +kernel
theorem dX8_place_112 : decode cX8_place 112 = .ok (.invokevirtual 59, 3) := by decide +kernel
theorem dX8_place_115 : decode cX8_place 115 = .ok (.imul, 1) := by decide +kernel
theorem dX8_place_116 : decode cX8_place 116 = .ok (.invokestatic 225, 3) := by decide +kernel
theorem dX8_place_119 : decode cX8_place 119 = .ok (.istore 6, 2) := by decide +kernel
theorem dX8_place_121 : decode cX8_place 121 = .ok (.iload_n 2, 1) := by decide +kernel
theorem dX8_place_122 : decode cX8_place 122 = .ok (.ifCond .ne 7, 3) := by decide +kernel
theorem dX8_place_125 : decode cX8_place 125 = .ok (.iload_n 3, 1) := by decide +kernel
theorem dX8_place_126 : decode cX8_place 126 = .ok (.goto 11, 3) := by decide +kernel
theorem dX8_place_129 : decode cX8_place 129 = .ok (.iload 4, 2) := by decide +kernel
theorem dX8_place_131 : decode cX8_place 131 = .ok (.iload 6, 2) := by decide +kernel
theorem dX8_place_133 : decode cX8_place 133 = .ok (.isub, 1) := by decide +kernel
theorem dX8_place_134 : decode cX8_place 134 = .ok (.bipush 20, 2) := by decide +kernel
theorem dX8_place_136 : decode cX8_place 136 = .ok (.iadd, 1) := by decide +kernel
theorem dX8_place_137 : decode cX8_place 137 = .ok (.ireturn, 1) := by decide +kernel
theorem dX8_differs_0 : decode cX8_differs 0 = .ok (.aload_n 0, 1) := by decide +kernel
theorem dX8_differs_1 : decode cX8_differs 1 = .ok (.iload_n 1, 1) := by decide +kernel
theorem dX8_differs_2 : decode cX8_differs 2 = .ok (.iload_n 2, 1) := by decide +kernel
theorem dX8_differs_3 : decode cX8_differs 3 = .ok (.iload_n 3, 1) := by decide +kernel
theorem dX8_differs_4 : decode cX8_differs 4 = .ok (.invokevirtual 143, 3) := by decide +kernel
theorem dX8_differs_7 : decode cX8_differs 7 = .ok (.aload_n 0, 1) := by decide +kernel
theorem dX8_differs_8 : decode cX8_differs 8 = .ok (.aload_n 0, 1) := by decide +kernel
theorem dX8_differs_9 : decode cX8_differs 9 = .ok (.getfield 38, 3) := by decide +kernel
theorem dX8_differs_12 : decode cX8_differs 12 = .ok (.iload_n 1, 1) := by decide +kernel
theorem dX8_differs_13 : decode cX8_differs 13 = .ok (.iaload, 1) := by decide +kernel
theorem dX8_differs_14 : decode cX8_differs 14 = .ok (.iload_n 2, 1) := by decide +kernel
theorem dX8_differs_15 : decode cX8_differs 15 = .ok (.aload_n 0, 1) := by decide +kernel
theorem dX8_differs_16 : decode cX8_differs 16 = .ok (.iload_n 1, 1) := by decide +kernel
theorem dX8_differs_17 : decode cX8_differs 17 = .ok (.invokevirtual 202, 3) := by decide +kernel
theorem dX8_differs_20 : decode cX8_differs 20 = .ok (.isub, 1) := by decide +kernel
theorem dX8_differs_21 : decode cX8_differs 21 = .ok (.iload_n 3, 1) := by decide +kernel
theorem dX8_differs_22 : decode cX8_differs 22 = .ok (.aload_n 0, 1) := by decide +kernel
theorem dX8_differs_23 : decode cX8_differs 23 = .ok (.iload_n 1, 1) := by decide +kernel
theorem dX8_differs_24 : decode cX8_differs 24 = .ok (.invokevirtual 205, 3) := by decide +kernel
theorem dX8_differs_27 : decode cX8_differs 27 = .ok (.isub, 1) := by decide +kernel
theorem dX8_differs_28 : decode cX8_differs 28 = .ok (.invokevirtual 143, 3) := by decide +kernel
theorem dX8_differs_31 : decode cX8_differs 31 = .ok (.isub, 1) := by decide +kernel
theorem dX8_differs_32 : decode cX8_differs 32 = .ok (.ireturn, 1) := by decide +kernel
theorem dX8_hasRow_0 : decode cX8_hasRow 0 = .ok (.iload_n 2, 1) := by decide +kernel
theorem dX8_hasRow_1 : decode cX8_hasRow 1 = .ok (.i2l, 1) := by decide +kernel
theorem dX8_hasRow_2 : decode cX8_hasRow 2 = .ok (.lconst 0, 1) := by decide +kernel
theorem dX8_hasRow_3 : decode cX8_hasRow 3 = .ok (.ldc2_w 67, 3) := by decide +kernel
theorem dX8_hasRow_6 : decode cX8_hasRow 6 = .ok (.invokestatic 63, 3) := by decide +kernel
theorem dX8_hasRow_9 : decode cX8_hasRow 9 = .ok (.ifCond .eq 25, 3) := by decide +kernel
theorem dX8_hasRow_12 : decode cX8_hasRow 12 = .ok (.iload_n 2, 1) := by decide +kernel
theorem dX8_hasRow_13 : decode cX8_hasRow 13 = .ok (.aload_n 0, 1) := by decide +kernel
theorem dX8_hasRow_14 : decode cX8_hasRow 14 = .ok (.iload_n 1, 1) := by decide +kernel
theorem dX8_hasRow_15 : decode cX8_hasRow 15 = .ok (.invokevirtual 202, 3) := by decide +kernel
theorem dX8_hasRow_18 : decode cX8_hasRow 18 = .ok (.isub, 1) := by decide +kernel
theorem dX8_hasRow_19 : decode cX8_hasRow 19 = .ok (.i2l, 1) := by decide +kernel
theorem dX8_hasRow_20 : decode cX8_hasRow 20 = .ok (.lconst 0, 1) := by decide +kernel
theorem dX8_hasRow_21 : decode cX8_hasRow 21 = .ok (.ldc2_w 67, 3) := by decide +kernel
theorem dX8_hasRow_24 : decode cX8_hasRow 24 = .ok (.invokestatic 63, 3) := by decide +kernel
theorem dX8_hasRow_27 : decode cX8_hasRow 27 = .ok (.ifCond .eq 7, 3) := by decide +kernel
theorem dX8_hasRow_30 : decode cX8_hasRow 30 = .ok (.iconst 1, 1) := by decide +kernel
theorem dX8_hasRow_31 : decode cX8_hasRow 31 = .ok (.goto 4, 3) := by decide +kernel
theorem dX8_hasRow_34 : decode cX8_hasRow 34 = .ok (.iconst 0, 1) := by decide +kernel
theorem dX8_hasRow_35 : decode cX8_hasRow 35 = .ok (.ireturn, 1) := by decide +kernel
theorem dX8_isNear_0 : decode cX8_isNear 0 = .ok (.iload_n 0, 1) := by decide +kernel
theorem dX8_isNear_1 : decode cX8_isNear 1 = .ok (.iload_n 1, 1) := by decide +kernel
theorem dX8_isNear_2 : decode cX8_isNear 2 = .ok (.isub, 1) := by decide +kernel
theorem dX8_isNear_3 : decode cX8_isNear 3 = .ok (.iconst 1, 1) := by decide +kernel
theorem dX8_isNear_4 : decode cX8_isNear 4 = .ok (.if_icmp .gt 14, 3) := by decide +kernel
theorem dX8_isNear_7 : decode cX8_isNear 7 = .ok (.iload_n 1, 1) := by decide +kernel
theorem dX8_isNear_8 : decode cX8_isNear 8 = .ok (.iload_n 0, 1) := by decide +kernel
theorem dX8_isNear_9 : decode cX8_isNear 9 = .ok (.isub, 1) := by decide +kernel
theorem dX8_isNear_10 : decode cX8_isNear 10 = .ok (.iconst 1, 1) := by decide +kernel
theorem dX8_isNear_11 : decode cX8_isNear 11 = .ok (.if_icmp .gt 7, 3) := by decide +kernel
theorem dX8_isNear_14 : decode cX8_isNear 14 = .ok (.iconst 1, 1) := by decide +kernel
theorem dX8_isNear_15 : decode cX8_isNear 15 = .ok (.goto 4, 3) := by decide +kernel
theorem dX8_isNear_18 : decode cX8_isNear 18 = .ok (.iconst 0, 1) := by decide +kernel
theorem dX8_isNear_19 : decode cX8_isNear 19 = .ok (.ireturn, 1) := by decide +kernel
theorem dX8_laysSeam_0 : decode cX8_laysSeam 0 = .ok (.aload_n 0, 1) := by decide +kernel
theorem dX8_laysSeam_1 : decode cX8_laysSeam 1 = .ok (.iload_n 1, 1) := by decide +kernel
theorem dX8_laysSeam_2 : decode cX8_laysSeam 2 = .ok (.invokevirtual 205, 3) := by decide +kernel
theorem dX8_laysSeam_5 : decode cX8_laysSeam 5 = .ok (.istore_n 2, 1) := by decide +kernel
theorem dX8_laysSeam_6 : decode cX8_laysSeam 6 = .ok (.iconst 3, 1) := by decide +kernel
theorem dX8_laysSeam_7 : decode cX8_laysSeam 7 = .ok (.istore_n 3, 1) := by decide +kernel
theorem dX8_laysSeam_8 : decode cX8_laysSeam 8 = .ok (.iload_n 3, 1) := by decide +kernel
theorem dX8_laysSeam_9 : decode cX8_laysSeam 9 = .ok (.ifCond .lt 153, 3) := by decide +kernel
theorem dX8_laysSeam_12 : decode cX8_laysSeam 12 = .ok (.aload_n 0, 1) := by decide +kernel
theorem dX8_laysSeam_13 : decode cX8_laysSeam 13 = .ok (.getfield 47, 3) := by decide +kernel
theorem dX8_laysSeam_16 : decode cX8_laysSeam 16 = .ok (.iload_n 3, 1) := by decide +kernel
theorem dX8_laysSeam_17 : decode cX8_laysSeam 17 = .ok (.iconst (-1), 1) := by decide +kernel
theorem dX8_laysSeam_18 : decode cX8_laysSeam 18 = .ok (.iastore, 1) := by decide +kernel
theorem dX8_laysSeam_19 : decode cX8_laysSeam 19 = .ok (.iload_n 2, 1) := by decide +kernel
theorem dX8_laysSeam_20 : decode cX8_laysSeam 20 = .ok (.istore 4, 2) := by decide +kernel
theorem dX8_laysSeam_22 : decode cX8_laysSeam 22 = .ok (.iload 4, 2) := by decide +kernel
theorem dX8_laysSeam_24 : decode cX8_laysSeam 24 = .ok (.bipush 8, 2) := by decide +kernel
theorem dX8_laysSeam_26 : decode cX8_laysSeam 26 = .ok (.if_icmp .ge 130, 3) := by decide +kernel
theorem dX8_laysSeam_29 : decode cX8_laysSeam 29 = .ok (.aload_n 0, 1) := by decide +kernel
theorem dX8_laysSeam_30 : decode cX8_laysSeam 30 = .ok (.iload_n 1, 1) := by decide +kernel
theorem dX8_laysSeam_31 : decode cX8_laysSeam 31 = .ok (.iload_n 3, 1) := by decide +kernel
theorem dX8_laysSeam_32 : decode cX8_laysSeam 32 = .ok (.invokevirtual 228, 3) := by decide +kernel
theorem dX8_laysSeam_35 : decode cX8_laysSeam 35 = .ok (.ifCond .eq 121, 3) := by decide +kernel
theorem dX8_laysSeam_38 : decode cX8_laysSeam 38 = .ok (.iconst 0, 1) := by decide +kernel
theorem dX8_laysSeam_39 : decode cX8_laysSeam 39 = .ok (.istore 5, 2) := by decide +kernel
theorem dX8_laysSeam_41 : decode cX8_laysSeam 41 = .ok (.iconst 0, 1) := by decide +kernel
theorem dX8_laysSeam_42 : decode cX8_laysSeam 42 = .ok (.istore 6, 2) := by decide +kernel
theorem dX8_laysSeam_44 : decode cX8_laysSeam 44 = .ok (.iload_n 2, 1) := by decide +kernel
theorem dX8_laysSeam_45 : decode cX8_laysSeam 45 = .ok (.istore 7, 2) := by decide +kernel
theorem dX8_laysSeam_47 : decode cX8_laysSeam 47 = .ok (.iload 7, 2) := by decide +kernel
theorem dX8_laysSeam_49 : decode cX8_laysSeam 49 = .ok (.bipush 8, 2) := by decide +kernel
theorem dX8_laysSeam_51 : decode cX8_laysSeam 51 = .ok (.if_icmp .ge 73, 3) := by decide +kernel
theorem dX8_laysSeam_54 : decode cX8_laysSeam 54 = .ok (.aload_n 0, 1) := by decide +kernel
theorem dX8_laysSeam_55 : decode cX8_laysSeam 55 = .ok (.iload_n 1, 1) := by decide +kernel
theorem dX8_laysSeam_56 : decode cX8_laysSeam 56 = .ok (.iload_n 3, 1) := by decide +kernel
theorem dX8_laysSeam_57 : decode cX8_laysSeam 57 = .ok (.iconst 1, 1) := by decide +kernel
theorem dX8_laysSeam_58 : decode cX8_laysSeam 58 = .ok (.iadd, 1) := by decide +kernel
theorem dX8_laysSeam_59 : decode cX8_laysSeam 59 = .ok (.invokevirtual 228, 3) := by decide +kernel
theorem dX8_laysSeam_62 : decode cX8_laysSeam 62 = .ok (.ifCond .eq 62, 3) := by decide +kernel
theorem dX8_laysSeam_65 : decode cX8_laysSeam 65 = .ok (.iload 4, 2) := by decide +kernel
theorem dX8_laysSeam_67 : decode cX8_laysSeam 67 = .ok (.iload 7, 2) := by decide +kernel
theorem dX8_laysSeam_69 : decode cX8_laysSeam 69 = .ok (.invokestatic 231, 3) := by decide +kernel
theorem dX8_laysSeam_72 : decode cX8_laysSeam 72 = .ok (.ifCond .eq 46, 3) := by decide +kernel
theorem dX8_laysSeam_75 : decode cX8_laysSeam 75 = .ok (.iload 6, 2) := by decide +kernel
theorem dX8_laysSeam_77 : decode cX8_laysSeam 77 = .ok (.ifCond .eq 22, 3) := by decide +kernel
theorem dX8_laysSeam_80 : decode cX8_laysSeam 80 = .ok (.aload_n 0, 1) := by decide +kernel
theorem dX8_laysSeam_81 : decode cX8_laysSeam 81 = .ok (.getfield 44, 3) := by decide +kernel
theorem dX8_laysSeam_84 : decode cX8_laysSeam 84 = .ok (.bipush 8, 2) := by decide +kernel
theorem dX8_laysSeam_86 : decode cX8_laysSeam 86 = .ok (.iload_n 3, 1) := by decide +kernel
theorem dX8_laysSeam_87 : decode cX8_laysSeam 87 = .ok (.iconst 1, 1) := by decide +kernel
theorem dX8_laysSeam_88 : decode cX8_laysSeam 88 = .ok (.iadd, 1) := by decide +kernel
theorem dX8_laysSeam_89 : decode cX8_laysSeam 89 = .ok (.imul, 1) := by decide +kernel
theorem dX8_laysSeam_90 : decode cX8_laysSeam 90 = .ok (.iload 7, 2) := by decide +kernel
theorem dX8_laysSeam_92 : decode cX8_laysSeam 92 = .ok (.iadd, 1) := by decide +kernel
theorem dX8_laysSeam_93 : decode cX8_laysSeam 93 = .ok (.iaload, 1) := by decide +kernel
theorem dX8_laysSeam_94 : decode cX8_laysSeam 94 = .ok (.iload 5, 2) := by decide +kernel
theorem dX8_laysSeam_96 : decode cX8_laysSeam 96 = .ok (.if_icmp .ge 22, 3) := by decide +kernel
theorem dX8_laysSeam_99 : decode cX8_laysSeam 99 = .ok (.aload_n 0, 1) := by decide +kernel
theorem dX8_laysSeam_100 : decode cX8_laysSeam 100 = .ok (.getfield 44, 3) := by decide +kernel
theorem dX8_laysSeam_103 : decode cX8_laysSeam 103 = .ok (.bipush 8, 2) := by decide +kernel
theorem dX8_laysSeam_105 : decode cX8_laysSeam 105 = .ok (.iload_n 3, 1) := by decide +kernel
theorem dX8_laysSeam_106 : decode cX8_laysSeam 106 = .ok (.iconst 1, 1) := by decide +kernel
theorem dX8_laysSeam_107 : decode cX8_laysSeam 107 = .ok (.iadd, 1) := by decide +kernel
theorem dX8_laysSeam_108 : decode cX8_laysSeam 108 = .ok (.imul, 1) := by decide +kernel
theorem dX8_laysSeam_109 : decode cX8_laysSeam 109 = .ok (.iload 7, 2) := by decide +kernel
theorem dX8_laysSeam_111 : decode cX8_laysSeam 111 = .ok (.iadd, 1) := by decide +kernel
theorem dX8_laysSeam_112 : decode cX8_laysSeam 112 = .ok (.iaload, 1) := by decide +kernel
theorem dX8_laysSeam_113 : decode cX8_laysSeam 113 = .ok (.istore 5, 2) := by decide +kernel
theorem dX8_laysSeam_115 : decode cX8_laysSeam 115 = .ok (.iconst 1, 1) := by decide +kernel
theorem dX8_laysSeam_116 : decode cX8_laysSeam 116 = .ok (.istore 6, 2) := by decide +kernel
theorem dX8_laysSeam_118 : decode cX8_laysSeam 118 = .ok (.iinc 7 1, 3) := by decide +kernel
theorem dX8_laysSeam_121 : decode cX8_laysSeam 121 = .ok (.goto (-74), 3) := by decide +kernel
theorem dX8_laysSeam_124 : decode cX8_laysSeam 124 = .ok (.aload_n 0, 1) := by decide +kernel
theorem dX8_laysSeam_125 : decode cX8_laysSeam 125 = .ok (.getfield 44, 3) := by decide +kernel
theorem dX8_laysSeam_128 : decode cX8_laysSeam 128 = .ok (.bipush 8, 2) := by decide +kernel
theorem dX8_laysSeam_130 : decode cX8_laysSeam 130 = .ok (.iload_n 3, 1) := by decide +kernel
theorem dX8_laysSeam_131 : decode cX8_laysSeam 131 = .ok (.imul, 1) := by decide +kernel
theorem dX8_laysSeam_132 : decode cX8_laysSeam 132 = .ok (.iload 4, 2) := by decide +kernel
theorem dX8_laysSeam_134 : decode cX8_laysSeam 134 = .ok (.iadd, 1) := by decide +kernel
theorem dX8_laysSeam_135 : decode cX8_laysSeam 135 = .ok (.aload_n 0, 1) := by decide +kernel
theorem dX8_laysSeam_136 : decode cX8_laysSeam 136 = .ok (.iload_n 1, 1) := by decide +kernel
theorem dX8_laysSeam_137 : decode cX8_laysSeam 137 = .ok (.iload_n 3, 1) := by decide +kernel
theorem dX8_laysSeam_138 : decode cX8_laysSeam 138 = .ok (.iload 4, 2) := by decide +kernel
theorem dX8_laysSeam_140 : decode cX8_laysSeam 140 = .ok (.invokevirtual 234, 3) := by decide +kernel
theorem dX8_laysSeam_143 : decode cX8_laysSeam 143 = .ok (.invokestatic 146, 3) := by decide +kernel
theorem dX8_laysSeam_146 : decode cX8_laysSeam 146 = .ok (.iload 5, 2) := by decide +kernel
theorem dX8_laysSeam_148 : decode cX8_laysSeam 148 = .ok (.iadd, 1) := by decide +kernel
theorem dX8_laysSeam_149 : decode cX8_laysSeam 149 = .ok (.iastore, 1) := by decide +kernel
theorem dX8_laysSeam_150 : decode cX8_laysSeam 150 = .ok (.iinc 4 1, 3) := by decide +kernel
theorem dX8_laysSeam_153 : decode cX8_laysSeam 153 = .ok (.goto (-131), 3) := by decide +kernel
theorem dX8_laysSeam_156 : decode cX8_laysSeam 156 = .ok (.iinc 3 (-1), 3) := by decide +kernel
theorem dX8_laysSeam_159 : decode cX8_laysSeam 159 = .ok (.goto (-151), 3) := by decide +kernel
theorem dX8_laysSeam_162 : decode cX8_laysSeam 162 = .ok (.iconst 0, 1) := by decide +kernel
theorem dX8_laysSeam_163 : decode cX8_laysSeam 163 = .ok (.istore_n 3, 1) := by decide +kernel
theorem dX8_laysSeam_164 : decode cX8_laysSeam 164 = .ok (.iload_n 3, 1) := by decide +kernel
theorem dX8_laysSeam_165 : decode cX8_laysSeam 165 = .ok (.iconst 4, 1) := by decide +kernel
theorem dX8_laysSeam_166 : decode cX8_laysSeam 166 = .ok (.if_icmp .ge 127, 3) := by decide +kernel
theorem dX8_laysSeam_169 : decode cX8_laysSeam 169 = .ok (.iload_n 2, 1) := by decide +kernel
theorem dX8_laysSeam_170 : decode cX8_laysSeam 170 = .ok (.istore 4, 2) := by decide +kernel
theorem dX8_laysSeam_172 : decode cX8_laysSeam 172 = .ok (.iload 4, 2) := by decide +kernel
theorem dX8_laysSeam_174 : decode cX8_laysSeam 174 = .ok (.bipush 8, 2) := by decide +kernel
theorem dX8_laysSeam_176 : decode cX8_laysSeam 176 = .ok (.if_icmp .ge 111, 3) := by decide +kernel
theorem dX8_laysSeam_179 : decode cX8_laysSeam 179 = .ok (.aload_n 0, 1) := by decide +kernel
theorem dX8_laysSeam_180 : decode cX8_laysSeam 180 = .ok (.iload_n 1, 1) := by decide +kernel
theorem dX8_laysSeam_181 : decode cX8_laysSeam 181 = .ok (.iload_n 3, 1) := by decide +kernel
theorem dX8_laysSeam_182 : decode cX8_laysSeam 182 = .ok (.invokevirtual 228, 3) := by decide +kernel
theorem dX8_laysSeam_185 : decode cX8_laysSeam 185 = .ok (.ifCond .eq 102, 3) := by decide +kernel
theorem dX8_laysSeam_188 : decode cX8_laysSeam 188 = .ok (.iload_n 3, 1) := by decide +kernel
theorem dX8_laysSeam_189 : decode cX8_laysSeam 189 = .ok (.ifCond .eq 31, 3) := by decide +kernel
theorem dX8_laysSeam_192 : decode cX8_laysSeam 192 = .ok (.aload_n 0, 1) := by decide +kernel
theorem dX8_laysSeam_193 : decode cX8_laysSeam 193 = .ok (.getfield 47, 3) := by decide +kernel
theorem dX8_laysSeam_196 : decode cX8_laysSeam 196 = .ok (.iload_n 3, 1) := by decide +kernel
theorem dX8_laysSeam_197 : decode cX8_laysSeam 197 = .ok (.iconst 1, 1) := by decide +kernel
theorem dX8_laysSeam_198 : decode cX8_laysSeam 198 = .ok (.isub, 1) := by decide +kernel
theorem dX8_laysSeam_199 : decode cX8_laysSeam 199 = .ok (.iaload, 1) := by decide +kernel
theorem dX8_laysSeam_200 : decode cX8_laysSeam 200 = .ok (.iconst (-1), 1) := by decide +kernel
theorem dX8_laysSeam_201 : decode cX8_laysSeam 201 = .ok (.if_icmp .eq 19, 3) := by decide +kernel
theorem dX8_laysSeam_204 : decode cX8_laysSeam 204 = .ok (.iload 4, 2) := by decide +kernel
theorem dX8_laysSeam_206 : decode cX8_laysSeam 206 = .ok (.aload_n 0, 1) := by decide +kernel
theorem dX8_laysSeam_207 : decode cX8_laysSeam 207 = .ok (.getfield 47, 3) := by decide +kernel
theorem dX8_laysSeam_210 : decode cX8_laysSeam 210 = .ok (.iload_n 3, 1) := by decide +kernel
theorem dX8_laysSeam_211 : decode cX8_laysSeam 211 = .ok (.iconst 1, 1) := by decide +kernel
theorem dX8_laysSeam_212 : decode cX8_laysSeam 212 = .ok (.isub, 1) := by decide +kernel
theorem dX8_laysSeam_213 : decode cX8_laysSeam 213 = .ok (.iaload, 1) := by decide +kernel
theorem dX8_laysSeam_214 : decode cX8_laysSeam 214 = .ok (.invokestatic 231, 3) := by decide +kernel
theorem dX8_laysSeam_217 : decode cX8_laysSeam 217 = .ok (.ifCond .eq 7, 3) := by decide +kernel
theorem dX8_laysSeam_220 : decode cX8_laysSeam 220 = .ok (.iconst 1, 1) := by decide +kernel
theorem dX8_laysSeam_221 : decode cX8_laysSeam 221 = .ok (.goto 4, 3) := by decide +kernel
theorem dX8_laysSeam_224 : decode cX8_laysSeam 224 = .ok (.iconst 0, 1) := by decide +kernel
theorem dX8_laysSeam_225 : decode cX8_laysSeam 225 = .ok (.istore 5, 2) := by decide +kernel
theorem dX8_laysSeam_227 : decode cX8_laysSeam 227 = .ok (.iload 5, 2) := by decide +kernel
theorem dX8_laysSeam_229 : decode cX8_laysSeam 229 = .ok (.ifCond .eq 52, 3) := by decide +kernel
theorem dX8_laysSeam_232 : decode cX8_laysSeam 232 = .ok (.aload_n 0, 1) := by decide +kernel
theorem dX8_laysSeam_233 : decode cX8_laysSeam 233 = .ok (.getfield 47, 3) := by decide +kernel
theorem dX8_laysSeam_236 : decode cX8_laysSeam 236 = .ok (.iload_n 3, 1) := by decide +kernel
theorem dX8_laysSeam_237 : decode cX8_laysSeam 237 = .ok (.iaload, 1) := by decide +kernel
theorem dX8_laysSeam_238 : decode cX8_laysSeam 238 = .ok (.iconst (-1), 1) := by decide +kernel
theorem dX8_laysSeam_239 : decode cX8_laysSeam 239 = .ok (.if_icmp .eq 34, 3) := by decide +kernel
theorem dX8_laysSeam_242 : decode cX8_laysSeam 242 = .ok (.aload_n 0, 1) := by decide +kernel
theorem dX8_laysSeam_243 : decode cX8_laysSeam 243 = .ok (.getfield 44, 3) := by decide +kernel
theorem dX8_laysSeam_246 : decode cX8_laysSeam 246 = .ok (.bipush 8, 2) := by decide +kernel
theorem dX8_laysSeam_248 : decode cX8_laysSeam 248 = .ok (.iload_n 3, 1) := by decide +kernel
theorem dX8_laysSeam_249 : decode cX8_laysSeam 249 = .ok (.imul, 1) := by decide +kernel
theorem dX8_laysSeam_250 : decode cX8_laysSeam 250 = .ok (.iload 4, 2) := by decide +kernel
theorem dX8_laysSeam_252 : decode cX8_laysSeam 252 = .ok (.iadd, 1) := by decide +kernel
theorem dX8_laysSeam_253 : decode cX8_laysSeam 253 = .ok (.iaload, 1) := by decide +kernel
theorem dX8_laysSeam_254 : decode cX8_laysSeam 254 = .ok (.aload_n 0, 1) := by decide +kernel
theorem dX8_laysSeam_255 : decode cX8_laysSeam 255 = .ok (.getfield 44, 3) := by decide +kernel
theorem dX8_laysSeam_258 : decode cX8_laysSeam 258 = .ok (.bipush 8, 2) := by decide +kernel
theorem dX8_laysSeam_260 : decode cX8_laysSeam 260 = .ok (.iload_n 3, 1) := by decide +kernel
theorem dX8_laysSeam_261 : decode cX8_laysSeam 261 = .ok (.imul, 1) := by decide +kernel
theorem dX8_laysSeam_262 : decode cX8_laysSeam 262 = .ok (.aload_n 0, 1) := by decide +kernel
theorem dX8_laysSeam_263 : decode cX8_laysSeam 263 = .ok (.getfield 47, 3) := by decide +kernel
theorem dX8_laysSeam_266 : decode cX8_laysSeam 266 = .ok (.iload_n 3, 1) := by decide +kernel
theorem dX8_laysSeam_267 : decode cX8_laysSeam 267 = .ok (.iaload, 1) := by decide +kernel
theorem dX8_laysSeam_268 : decode cX8_laysSeam 268 = .ok (.iadd, 1) := by decide +kernel
theorem dX8_laysSeam_269 : decode cX8_laysSeam 269 = .ok (.iaload, 1) := by decide +kernel
theorem dX8_laysSeam_270 : decode cX8_laysSeam 270 = .ok (.if_icmp .ge 11, 3) := by decide +kernel
theorem dX8_laysSeam_273 : decode cX8_laysSeam 273 = .ok (.aload_n 0, 1) := by decide +kernel
theorem dX8_laysSeam_274 : decode cX8_laysSeam 274 = .ok (.getfield 47, 3) := by decide +kernel
theorem dX8_laysSeam_277 : decode cX8_laysSeam 277 = .ok (.iload_n 3, 1) := by decide +kernel
theorem dX8_laysSeam_278 : decode cX8_laysSeam 278 = .ok (.iload 4, 2) := by decide +kernel
theorem dX8_laysSeam_280 : decode cX8_laysSeam 280 = .ok (.iastore, 1) := by decide +kernel
theorem dX8_laysSeam_281 : decode cX8_laysSeam 281 = .ok (.iinc 4 1, 3) := by decide +kernel
theorem dX8_laysSeam_284 : decode cX8_laysSeam 284 = .ok (.goto (-112), 3) := by decide +kernel
theorem dX8_laysSeam_287 : decode cX8_laysSeam 287 = .ok (.iinc 3 1, 3) := by decide +kernel
theorem dX8_laysSeam_290 : decode cX8_laysSeam 290 = .ok (.goto (-126), 3) := by decide +kernel
theorem dX8_laysSeam_293 : decode cX8_laysSeam 293 = .ok (.return_, 1) := by decide +kernel
theorem dX8_seamSum_0 : decode cX8_seamSum 0 = .ok (.iconst 0, 1) := by decide +kernel
theorem dX8_seamSum_1 : decode cX8_seamSum 1 = .ok (.istore_n 2, 1) := by decide +kernel
theorem dX8_seamSum_2 : decode cX8_seamSum 2 = .ok (.aload_n 0, 1) := by decide +kernel
theorem dX8_seamSum_3 : decode cX8_seamSum 3 = .ok (.iload_n 1, 1) := by decide +kernel
theorem dX8_seamSum_4 : decode cX8_seamSum 4 = .ok (.invokevirtual 237, 3) := by decide +kernel
theorem dX8_seamSum_7 : decode cX8_seamSum 7 = .ok (.iconst 0, 1) := by decide +kernel
theorem dX8_seamSum_8 : decode cX8_seamSum 8 = .ok (.istore_n 3, 1) := by decide +kernel
theorem dX8_seamSum_9 : decode cX8_seamSum 9 = .ok (.iload_n 3, 1) := by decide +kernel
theorem dX8_seamSum_10 : decode cX8_seamSum 10 = .ok (.iconst 4, 1) := by decide +kernel
theorem dX8_seamSum_11 : decode cX8_seamSum 11 = .ok (.if_icmp .ge 41, 3) := by decide +kernel
theorem dX8_seamSum_14 : decode cX8_seamSum 14 = .ok (.iload_n 2, 1) := by decide +kernel
theorem dX8_seamSum_15 : decode cX8_seamSum 15 = .ok (.aload_n 0, 1) := by decide +kernel
theorem dX8_seamSum_16 : decode cX8_seamSum 16 = .ok (.getfield 47, 3) := by decide +kernel
theorem dX8_seamSum_19 : decode cX8_seamSum 19 = .ok (.iload_n 3, 1) := by decide +kernel
theorem dX8_seamSum_20 : decode cX8_seamSum 20 = .ok (.iaload, 1) := by decide +kernel
theorem dX8_seamSum_21 : decode cX8_seamSum 21 = .ok (.iconst (-1), 1) := by decide +kernel
theorem dX8_seamSum_22 : decode cX8_seamSum 22 = .ok (.if_icmp .ne 7, 3) := by decide +kernel
theorem dX8_seamSum_25 : decode cX8_seamSum 25 = .ok (.iconst 0, 1) := by decide +kernel
theorem dX8_seamSum_26 : decode cX8_seamSum 26 = .ok (.goto 18, 3) := by decide +kernel
theorem dX8_seamSum_29 : decode cX8_seamSum 29 = .ok (.aload_n 0, 1) := by decide +kernel
theorem dX8_seamSum_30 : decode cX8_seamSum 30 = .ok (.iload_n 1, 1) := by decide +kernel
theorem dX8_seamSum_31 : decode cX8_seamSum 31 = .ok (.iload_n 3, 1) := by decide +kernel
theorem dX8_seamSum_32 : decode cX8_seamSum 32 = .ok (.aload_n 0, 1) := by decide +kernel
theorem dX8_seamSum_33 : decode cX8_seamSum 33 = .ok (.getfield 47, 3) := by decide +kernel
theorem dX8_seamSum_36 : decode cX8_seamSum 36 = .ok (.iload_n 3, 1) := by decide +kernel
theorem dX8_seamSum_37 : decode cX8_seamSum 37 = .ok (.iaload, 1) := by decide +kernel
theorem dX8_seamSum_38 : decode cX8_seamSum 38 = .ok (.invokevirtual 234, 3) := by decide +kernel
theorem dX8_seamSum_41 : decode cX8_seamSum 41 = .ok (.invokestatic 146, 3) := by decide +kernel
theorem dX8_seamSum_44 : decode cX8_seamSum 44 = .ok (.iadd, 1) := by decide +kernel
theorem dX8_seamSum_45 : decode cX8_seamSum 45 = .ok (.istore_n 2, 1) := by decide +kernel
theorem dX8_seamSum_46 : decode cX8_seamSum 46 = .ok (.iinc 3 1, 3) := by decide +kernel
theorem dX8_seamSum_49 : decode cX8_seamSum 49 = .ok (.goto (-40), 3) := by decide +kernel
theorem dX8_seamSum_52 : decode cX8_seamSum 52 = .ok (.iload_n 2, 1) := by decide +kernel
theorem dX8_seamSum_53 : decode cX8_seamSum 53 = .ok (.ireturn, 1) := by decide +kernel
theorem dX8_cells_0 : decode cX8_cells 0 = .ok (.iconst 4, 1) := by decide +kernel
theorem dX8_cells_1 : decode cX8_cells 1 = .ok (.aload_n 0, 1) := by decide +kernel
theorem dX8_cells_2 : decode cX8_cells 2 = .ok (.iload_n 1, 1) := by decide +kernel
theorem dX8_cells_3 : decode cX8_cells 3 = .ok (.invokevirtual 202, 3) := by decide +kernel
theorem dX8_cells_6 : decode cX8_cells 6 = .ok (.invokestatic 146, 3) := by decide +kernel
theorem dX8_cells_9 : decode cX8_cells 9 = .ok (.isub, 1) := by decide +kernel
theorem dX8_cells_10 : decode cX8_cells 10 = .ok (.bipush 8, 2) := by decide +kernel
theorem dX8_cells_12 : decode cX8_cells 12 = .ok (.aload_n 0, 1) := by decide +kernel
theorem dX8_cells_13 : decode cX8_cells 13 = .ok (.iload_n 1, 1) := by decide +kernel
theorem dX8_cells_14 : decode cX8_cells 14 = .ok (.invokevirtual 205, 3) := by decide +kernel
theorem dX8_cells_17 : decode cX8_cells 17 = .ok (.isub, 1) := by decide +kernel
theorem dX8_cells_18 : decode cX8_cells 18 = .ok (.imul, 1) := by decide +kernel
theorem dX8_cells_19 : decode cX8_cells 19 = .ok (.ireturn, 1) := by decide +kernel
theorem dX8_differences_0 : decode cX8_differences 0 = .ok (.iconst 0, 1) := by decide +kernel
theorem dX8_differences_1 : decode cX8_differences 1 = .ok (.istore_n 3, 1) := by decide +kernel
theorem dX8_differences_2 : decode cX8_differences 2 = .ok (.iconst 0, 1) := by decide +kernel
theorem dX8_differences_3 : decode cX8_differences 3 = .ok (.istore 4, 2) := by decide +kernel
theorem dX8_differences_5 : decode cX8_differences 5 = .ok (.iload 4, 2) := by decide +kernel
theorem dX8_differences_7 : decode cX8_differences 7 = .ok (.iconst 4, 1) := by decide +kernel
theorem dX8_differences_8 : decode cX8_differences 8 = .ok (.if_icmp .ge 70, 3) := by decide +kernel
theorem dX8_differences_11 : decode cX8_differences 11 = .ok (.aload_n 0, 1) := by decide +kernel
theorem dX8_differences_12 : decode cX8_differences 12 = .ok (.iload_n 1, 1) := by decide +kernel
theorem dX8_differences_13 : decode cX8_differences 13 = .ok (.invokevirtual 205, 3) := by decide +kernel
theorem dX8_differences_16 : decode cX8_differences 16 = .ok (.istore 5, 2) := by decide +kernel
theorem dX8_differences_18 : decode cX8_differences 18 = .ok (.iload 5, 2) := by decide +kernel
theorem dX8_differences_20 : decode cX8_differences 20 = .ok (.bipush 8, 2) := by decide +kernel
theorem dX8_differences_22 : decode cX8_differences 22 = .ok (.if_icmp .ge 50, 3) := by decide +kernel
theorem dX8_differences_25 : decode cX8_differences 25 = .ok (.aload_n 0, 1) := by decide +kernel
theorem dX8_differences_26 : decode cX8_differences 26 = .ok (.iload_n 1, 1) := by decide +kernel
theorem dX8_differences_27 : decode cX8_differences 27 = .ok (.iload 4, 2) := by decide +kernel
theorem dX8_differences_29 : decode cX8_differences 29 = .ok (.invokevirtual 228, 3) := by decide +kernel
theorem dX8_differences_32 : decode cX8_differences 32 = .ok (.ifCond .eq 40, 3) := by decide +kernel
theorem dX8_differences_35 : decode cX8_differences 35 = .ok (.iload_n 3, 1) := by decide +kernel
theorem dX8_differences_36 : decode cX8_differences 36 = .ok (.iload_n 2, 1) := by decide +kernel
theorem dX8_differences_37 : decode cX8_differences 37 = .ok (.ifCond .eq 15, 3) := by decide +kernel
theorem dX8_differences_40 : decode cX8_differences 40 = .ok (.aload_n 0, 1) := by decide +kernel
theorem dX8_differences_41 : decode cX8_differences 41 = .ok (.iload_n 1, 1) := by decide +kernel
theorem dX8_differences_42 : decode cX8_differences 42 = .ok (.iload 4, 2) := by decide +kernel
theorem dX8_differences_44 : decode cX8_differences 44 = .ok (.iload 5, 2) := by decide +kernel
theorem dX8_differences_46 : decode cX8_differences 46 = .ok (.invokevirtual 234, 3) := by decide +kernel
theorem dX8_differences_49 : decode cX8_differences 49 = .ok (.goto 15, 3) := by decide +kernel
theorem dX8_differences_52 : decode cX8_differences 52 = .ok (.aload_n 0, 1) := by decide +kernel
theorem dX8_differences_53 : decode cX8_differences 53 = .ok (.iload_n 1, 1) := by decide +kernel
theorem dX8_differences_54 : decode cX8_differences 54 = .ok (.iload 4, 2) := by decide +kernel
theorem dX8_differences_56 : decode cX8_differences 56 = .ok (.iload 5, 2) := by decide +kernel
theorem dX8_differences_58 : decode cX8_differences 58 = .ok (.invokevirtual 234, 3) := by decide +kernel
theorem dX8_differences_61 : decode cX8_differences 61 = .ok (.invokestatic 146, 3) := by decide +kernel
theorem dX8_differences_64 : decode cX8_differences 64 = .ok (.iadd, 1) := by decide +kernel
theorem dX8_differences_65 : decode cX8_differences 65 = .ok (.istore_n 3, 1) := by decide +kernel
theorem dX8_differences_66 : decode cX8_differences 66 = .ok (.iinc 5 1, 3) := by decide +kernel
theorem dX8_differences_69 : decode cX8_differences 69 = .ok (.goto (-51), 3) := by decide +kernel
theorem dX8_differences_72 : decode cX8_differences 72 = .ok (.iinc 4 1, 3) := by decide +kernel
theorem dX8_differences_75 : decode cX8_differences 75 = .ok (.goto (-70), 3) := by decide +kernel
theorem dX8_differences_78 : decode cX8_differences 78 = .ok (.iload_n 3, 1) := by decide +kernel
theorem dX8_differences_79 : decode cX8_differences 79 = .ok (.ireturn, 1) := by decide +kernel
theorem dX8_overlap_0 : decode cX8_overlap 0 = .ok (.aload_n 0, 1) := by decide +kernel
theorem dX8_overlap_1 : decode cX8_overlap 1 = .ok (.iload_n 1, 1) := by decide +kernel
theorem dX8_overlap_2 : decode cX8_overlap 2 = .ok (.invokevirtual 128, 3) := by decide +kernel
theorem dX8_overlap_5 : decode cX8_overlap 5 = .ok (.ifCond .eq 15, 3) := by decide +kernel
theorem dX8_overlap_8 : decode cX8_overlap 8 = .ok (.iload_n 2, 1) := by decide +kernel
theorem dX8_overlap_9 : decode cX8_overlap 9 = .ok (.i2l, 1) := by decide +kernel
theorem dX8_overlap_10 : decode cX8_overlap 10 = .ok (.lconst 0, 1) := by decide +kernel
theorem dX8_overlap_11 : decode cX8_overlap 11 = .ok (.ldc2_w 67, 3) := by decide +kernel
theorem dX8_overlap_14 : decode cX8_overlap 14 = .ok (.invokestatic 63, 3) := by decide +kernel
theorem dX8_overlap_17 : decode cX8_overlap 17 = .ok (.ifCond .ne 10, 3) := by decide +kernel
theorem dX8_overlap_20 : decode cX8_overlap 20 = .ok (.aload_n 0, 1) := by decide +kernel
theorem dX8_overlap_21 : decode cX8_overlap 21 = .ok (.bipush (-2), 2) := by decide +kernel
theorem dX8_overlap_23 : decode cX8_overlap 23 = .ok (.invokevirtual 91, 3) := by decide +kernel
theorem dX8_overlap_26 : decode cX8_overlap 26 = .ok (.ireturn, 1) := by decide +kernel
theorem dX8_overlap_27 : decode cX8_overlap 27 = .ok (.aload_n 0, 1) := by decide +kernel
theorem dX8_overlap_28 : decode cX8_overlap 28 = .ok (.invokevirtual 196, 3) := by decide +kernel
theorem dX8_overlap_31 : decode cX8_overlap 31 = .ok (.aload_n 0, 1) := by decide +kernel
theorem dX8_overlap_32 : decode cX8_overlap 32 = .ok (.getfield 38, 3) := by decide +kernel
theorem dX8_overlap_35 : decode cX8_overlap 35 = .ok (.iload_n 1, 1) := by decide +kernel
theorem dX8_overlap_36 : decode cX8_overlap 36 = .ok (.iaload, 1) := by decide +kernel
theorem dX8_overlap_37 : decode cX8_overlap 37 = .ok (.iconst (-1), 1) := by decide +kernel
theorem dX8_overlap_38 : decode cX8_overlap 38 = .ok (.if_icmp .ne 10, 3) := by decide +kernel
theorem dX8_overlap_41 : decode cX8_overlap 41 = .ok (.aload_n 0, 1) := by decide +kernel
theorem dX8_overlap_42 : decode cX8_overlap 42 = .ok (.bipush (-3), 2) := by decide +kernel
theorem dX8_overlap_44 : decode cX8_overlap 44 = .ok (.invokevirtual 91, 3) := by decide +kernel
theorem dX8_overlap_47 : decode cX8_overlap 47 = .ok (.ireturn, 1) := by decide +kernel
theorem dX8_overlap_48 : decode cX8_overlap 48 = .ok (.iload_n 2, 1) := by decide +kernel
theorem dX8_overlap_49 : decode cX8_overlap 49 = .ok (.ifCond .ne 11, 3) := by decide +kernel
theorem dX8_overlap_52 : decode cX8_overlap 52 = .ok (.aload_n 0, 1) := by decide +kernel
theorem dX8_overlap_53 : decode cX8_overlap 53 = .ok (.iload_n 1, 1) := by decide +kernel
theorem dX8_overlap_54 : decode cX8_overlap 54 = .ok (.invokevirtual 241, 3) := by decide +kernel
theorem dX8_overlap_57 : decode cX8_overlap 57 = .ok (.goto 40, 3) := by decide +kernel
theorem dX8_overlap_60 : decode cX8_overlap 60 = .ok (.iload_n 2, 1) := by decide +kernel
theorem dX8_overlap_61 : decode cX8_overlap 61 = .ok (.iconst 1, 1) := by decide +kernel
theorem dX8_overlap_62 : decode cX8_overlap 62 = .ok (.if_icmp .ne 12, 3) := by decide +kernel
theorem dX8_overlap_65 : decode cX8_overlap 65 = .ok (.aload_n 0, 1) := by decide +kernel
theorem dX8_overlap_66 : decode cX8_overlap 66 = .ok (.iload_n 1, 1) := by decide +kernel
theorem dX8_overlap_67 : decode cX8_overlap 67 = .ok (.iconst 0, 1) := by decide +kernel
theorem dX8_overlap_68 : decode cX8_overlap 68 = .ok (.invokevirtual 244, 3) := by decide +kernel
theorem dX8_overlap_71 : decode cX8_overlap 71 = .ok (.goto 26, 3) := by decide +kernel
theorem dX8_overlap_74 : decode cX8_overlap 74 = .ok (.iload_n 2, 1) := by decide +kernel
theorem dX8_overlap_75 : decode cX8_overlap 75 = .ok (.iconst 2, 1) := by decide +kernel
theorem dX8_overlap_76 : decode cX8_overlap 76 = .ok (.if_icmp .ne 11, 3) := by decide +kernel
theorem dX8_overlap_79 : decode cX8_overlap 79 = .ok (.aload_n 0, 1) := by decide +kernel
theorem dX8_overlap_80 : decode cX8_overlap 80 = .ok (.iload_n 1, 1) := by decide +kernel
theorem dX8_overlap_81 : decode cX8_overlap 81 = .ok (.invokevirtual 248, 3) := by decide +kernel
theorem dX8_overlap_84 : decode cX8_overlap 84 = .ok (.goto 13, 3) := by decide +kernel
theorem dX8_overlap_87 : decode cX8_overlap 87 = .ok (.aload_n 0, 1) := by decide +kernel
theorem dX8_overlap_88 : decode cX8_overlap 88 = .ok (.iload_n 1, 1) := by decide +kernel
theorem dX8_overlap_89 : decode cX8_overlap 89 = .ok (.iconst 1, 1) := by decide +kernel
theorem dX8_overlap_90 : decode cX8_overlap 90 = .ok (.invokevirtual 244, 3) := by decide +kernel
theorem dX8_overlap_93 : decode cX8_overlap 93 = .ok (.sipush 2000, 3) := by decide +kernel
theorem dX8_overlap_96 : decode cX8_overlap 96 = .ok (.iadd, 1) := by decide +kernel
theorem dX8_overlap_97 : decode cX8_overlap 97 = .ok (.ireturn, 1) := by decide +kernel
theorem dX8_seam_0 : decode cX8_seam 0 = .ok (.aload_n 0, 1) := by decide +kernel
theorem dX8_seam_1 : decode cX8_seam 1 = .ok (.iload_n 1, 1) := by decide +kernel
theorem dX8_seam_2 : decode cX8_seam 2 = .ok (.invokevirtual 128, 3) := by decide +kernel
theorem dX8_seam_5 : decode cX8_seam 5 = .ok (.ifCond .eq 15, 3) := by decide +kernel
theorem dX8_seam_8 : decode cX8_seam 8 = .ok (.iload_n 2, 1) := by decide +kernel
theorem dX8_seam_9 : decode cX8_seam 9 = .ok (.i2l, 1) := by decide +kernel
theorem dX8_seam_10 : decode cX8_seam 10 = .ok (.lconst 0, 1) := by decide +kernel
theorem dX8_seam_11 : decode cX8_seam 11 = .ok (.ldc2_w 67, 3) := by decide +kernel
theorem dX8_seam_14 : decode cX8_seam 14 = .ok (.invokestatic 63, 3) := by decide +kernel
theorem dX8_seam_17 : decode cX8_seam 17 = .ok (.ifCond .ne 10, 3) := by decide +kernel
theorem dX8_seam_20 : decode cX8_seam 20 = .ok (.aload_n 0, 1) := by decide +kernel
theorem dX8_seam_21 : decode cX8_seam 21 = .ok (.bipush (-2), 2) := by decide +kernel
theorem dX8_seam_23 : decode cX8_seam 23 = .ok (.invokevirtual 91, 3) := by decide +kernel
theorem dX8_seam_26 : decode cX8_seam 26 = .ok (.ireturn, 1) := by decide +kernel
theorem dX8_seam_27 : decode cX8_seam 27 = .ok (.aload_n 0, 1) := by decide +kernel
theorem dX8_seam_28 : decode cX8_seam 28 = .ok (.invokevirtual 196, 3) := by decide +kernel
theorem dX8_seam_31 : decode cX8_seam 31 = .ok (.aload_n 0, 1) := by decide +kernel
theorem dX8_seam_32 : decode cX8_seam 32 = .ok (.getfield 38, 3) := by decide +kernel
theorem dX8_seam_35 : decode cX8_seam 35 = .ok (.iload_n 1, 1) := by decide +kernel
theorem dX8_seam_36 : decode cX8_seam 36 = .ok (.iaload, 1) := by decide +kernel
theorem dX8_seam_37 : decode cX8_seam 37 = .ok (.iconst (-1), 1) := by decide +kernel
theorem dX8_seam_38 : decode cX8_seam 38 = .ok (.if_icmp .ne 10, 3) := by decide +kernel
theorem dX8_seam_41 : decode cX8_seam 41 = .ok (.aload_n 0, 1) := by decide +kernel
theorem dX8_seam_42 : decode cX8_seam 42 = .ok (.bipush (-3), 2) := by decide +kernel
theorem dX8_seam_44 : decode cX8_seam 44 = .ok (.invokevirtual 91, 3) := by decide +kernel
theorem dX8_seam_47 : decode cX8_seam 47 = .ok (.ireturn, 1) := by decide +kernel
theorem dX8_seam_48 : decode cX8_seam 48 = .ok (.aload_n 0, 1) := by decide +kernel
theorem dX8_seam_49 : decode cX8_seam 49 = .ok (.iload_n 1, 1) := by decide +kernel
theorem dX8_seam_50 : decode cX8_seam 50 = .ok (.invokevirtual 237, 3) := by decide +kernel
theorem dX8_seam_53 : decode cX8_seam 53 = .ok (.aload_n 0, 1) := by decide +kernel
theorem dX8_seam_54 : decode cX8_seam 54 = .ok (.getfield 47, 3) := by decide +kernel
theorem dX8_seam_57 : decode cX8_seam 57 = .ok (.iload_n 2, 1) := by decide +kernel
theorem dX8_seam_58 : decode cX8_seam 58 = .ok (.iaload, 1) := by decide +kernel
theorem dX8_seam_59 : decode cX8_seam 59 = .ok (.ireturn, 1) := by decide +kernel
theorem dX8_lowest_0 : decode cX8_lowest 0 = .ok (.aload_n 0, 1) := by decide +kernel
theorem dX8_lowest_1 : decode cX8_lowest 1 = .ok (.getfield 251, 3) := by decide +kernel
theorem dX8_lowest_4 : decode cX8_lowest 4 = .ok (.lconst 0, 1) := by decide +kernel
theorem dX8_lowest_5 : decode cX8_lowest 5 = .ok (.lcmp, 1) := by decide +kernel
theorem dX8_lowest_6 : decode cX8_lowest 6 = .ok (.ifCond .ge 11, 3) := by decide +kernel
theorem dX8_lowest_9 : decode cX8_lowest 9 = .ok (.aload_n 0, 1) := by decide +kernel
theorem dX8_lowest_10 : decode cX8_lowest 10 = .ok (.getfield 251, 3) := by decide +kernel
theorem dX8_lowest_13 : decode cX8_lowest 13 = .ok (.lneg, 1) := by decide +kernel
theorem dX8_lowest_14 : decode cX8_lowest 14 = .ok (.goto 7, 3) := by decide +kernel
theorem dX8_lowest_17 : decode cX8_lowest 17 = .ok (.aload_n 0, 1) := by decide +kernel
theorem dX8_lowest_18 : decode cX8_lowest 18 = .ok (.getfield 251, 3) := by decide +kernel
theorem dX8_lowest_21 : decode cX8_lowest 21 = .ok (.lstore_n 1, 1) := by decide +kernel
theorem dX8_lowest_22 : decode cX8_lowest 22 = .ok (.aload_n 0, 1) := by decide +kernel
theorem dX8_lowest_23 : decode cX8_lowest 23 = .ok (.getfield 255, 3) := by decide +kernel
theorem dX8_lowest_26 : decode cX8_lowest 26 = .ok (.lstore_n 3, 1) := by decide +kernel
theorem dX8_lowest_27 : decode cX8_lowest 27 = .ok (.lload_n 3, 1) := by decide +kernel
theorem dX8_lowest_28 : decode cX8_lowest 28 = .ok (.lconst 0, 1) := by decide +kernel
theorem dX8_lowest_29 : decode cX8_lowest 29 = .ok (.lcmp, 1) := by decide +kernel
theorem dX8_lowest_30 : decode cX8_lowest 30 = .ok (.ifCond .eq 16, 3) := by decide +kernel
theorem dX8_lowest_33 : decode cX8_lowest 33 = .ok (.lload_n 1, 1) := by decide +kernel
theorem dX8_lowest_34 : decode cX8_lowest 34 = .ok (.lload_n 3, 1) := by decide +kernel
theorem dX8_lowest_35 : decode cX8_lowest 35 = .ok (.lrem, 1) := by decide +kernel
theorem dX8_lowest_36 : decode cX8_lowest 36 = .ok (.lstore 5, 2) := by decide +kernel
theorem dX8_lowest_38 : decode cX8_lowest 38 = .ok (.lload_n 3, 1) := by decide +kernel
theorem dX8_lowest_39 : decode cX8_lowest 39 = .ok (.lstore_n 1, 1) := by decide +kernel
theorem dX8_lowest_40 : decode cX8_lowest 40 = .ok (.lload 5, 2) := by decide +kernel
theorem dX8_lowest_42 : decode cX8_lowest 42 = .ok (.lstore_n 3, 1) := by decide +kernel
theorem dX8_lowest_43 : decode cX8_lowest 43 = .ok (.goto (-16), 3) := by decide +kernel
theorem dX8_lowest_46 : decode cX8_lowest 46 = .ok (.aload_n 0, 1) := by decide +kernel
theorem dX8_lowest_47 : decode cX8_lowest 47 = .ok (.dup, 1) := by decide +kernel
theorem dX8_lowest_48 : decode cX8_lowest 48 = .ok (.getfield 251, 3) := by decide +kernel
theorem dX8_lowest_51 : decode cX8_lowest 51 = .ok (.lload_n 1, 1) := by decide +kernel
theorem dX8_lowest_52 : decode cX8_lowest 52 = .ok (.ldiv, 1) := by decide +kernel
theorem dX8_lowest_53 : decode cX8_lowest 53 = .ok (.putfield 251, 3) := by decide +kernel
theorem dX8_lowest_56 : decode cX8_lowest 56 = .ok (.aload_n 0, 1) := by decide +kernel
theorem dX8_lowest_57 : decode cX8_lowest 57 = .ok (.dup, 1) := by decide +kernel
theorem dX8_lowest_58 : decode cX8_lowest 58 = .ok (.getfield 255, 3) := by decide +kernel
theorem dX8_lowest_61 : decode cX8_lowest 61 = .ok (.lload_n 1, 1) := by decide +kernel
theorem dX8_lowest_62 : decode cX8_lowest 62 = .ok (.ldiv, 1) := by decide +kernel
theorem dX8_lowest_63 : decode cX8_lowest 63 = .ok (.putfield 255, 3) := by decide +kernel
theorem dX8_lowest_66 : decode cX8_lowest 66 = .ok (.return_, 1) := by decide +kernel
theorem dX8_share_0 : decode cX8_share 0 = .ok (.sipush 5040, 3) := by decide +kernel
theorem dX8_share_3 : decode cX8_share 3 = .ok (.aload_n 0, 1) := by decide +kernel
theorem dX8_share_4 : decode cX8_share 4 = .ok (.iload_n 1, 1) := by decide +kernel
theorem dX8_share_5 : decode cX8_share 5 = .ok (.invokevirtual 241, 3) := by decide +kernel
theorem dX8_share_8 : decode cX8_share 8 = .ok (.idiv, 1) := by decide +kernel
theorem dX8_share_9 : decode cX8_share 9 = .ok (.i2l, 1) := by decide +kernel
theorem dX8_share_10 : decode cX8_share 10 = .ok (.lreturn, 1) := by decide +kernel
theorem dX8_shares_0 : decode cX8_shares 0 = .ok (.lconst 0, 1) := by decide +kernel
theorem dX8_shares_1 : decode cX8_shares 1 = .ok (.lstore_n 1, 1) := by decide +kernel
theorem dX8_shares_2 : decode cX8_shares 2 = .ok (.iconst 0, 1) := by decide +kernel
theorem dX8_shares_3 : decode cX8_shares 3 = .ok (.istore_n 3, 1) := by decide +kernel
theorem dX8_shares_4 : decode cX8_shares 4 = .ok (.iload_n 3, 1) := by decide +kernel
theorem dX8_shares_5 : decode cX8_shares 5 = .ok (.aload_n 0, 1) := by decide +kernel
theorem dX8_shares_6 : decode cX8_shares 6 = .ok (.invokevirtual 59, 3) := by decide +kernel
theorem dX8_shares_9 : decode cX8_shares 9 = .ok (.if_icmp .ge 17, 3) := by decide +kernel
theorem dX8_shares_12 : decode cX8_shares 12 = .ok (.lload_n 1, 1) := by decide +kernel
theorem dX8_shares_13 : decode cX8_shares 13 = .ok (.aload_n 0, 1) := by decide +kernel
theorem dX8_shares_14 : decode cX8_shares 14 = .ok (.iload_n 3, 1) := by decide +kernel
theorem dX8_shares_15 : decode cX8_shares 15 = .ok (.invokevirtual 258, 3) := by decide +kernel
theorem dX8_shares_18 : decode cX8_shares 18 = .ok (.ladd, 1) := by decide +kernel
theorem dX8_shares_19 : decode cX8_shares 19 = .ok (.lstore_n 1, 1) := by decide +kernel
theorem dX8_shares_20 : decode cX8_shares 20 = .ok (.iinc 3 1, 3) := by decide +kernel
theorem dX8_shares_23 : decode cX8_shares 23 = .ok (.goto (-19), 3) := by decide +kernel
theorem dX8_shares_26 : decode cX8_shares 26 = .ok (.lload_n 1, 1) := by decide +kernel
theorem dX8_shares_27 : decode cX8_shares 27 = .ok (.lreturn, 1) := by decide +kernel
theorem dX8_leftOver_0 : decode cX8_leftOver 0 = .ok (.lconst 0, 1) := by decide +kernel
theorem dX8_leftOver_1 : decode cX8_leftOver 1 = .ok (.lstore_n 1, 1) := by decide +kernel
theorem dX8_leftOver_2 : decode cX8_leftOver 2 = .ok (.iconst 0, 1) := by decide +kernel
theorem dX8_leftOver_3 : decode cX8_leftOver 3 = .ok (.istore_n 3, 1) := by decide +kernel
theorem dX8_leftOver_4 : decode cX8_leftOver 4 = .ok (.iload_n 3, 1) := by decide +kernel
theorem dX8_leftOver_5 : decode cX8_leftOver 5 = .ok (.aload_n 0, 1) := by decide +kernel
theorem dX8_leftOver_6 : decode cX8_leftOver 6 = .ok (.invokevirtual 59, 3) := by decide +kernel
theorem dX8_leftOver_9 : decode cX8_leftOver 9 = .ok (.if_icmp .ge 25, 3) := by decide +kernel
theorem dX8_leftOver_12 : decode cX8_leftOver 12 = .ok (.lload_n 1, 1) := by decide +kernel
theorem dX8_leftOver_13 : decode cX8_leftOver 13 = .ok (.aload_n 0, 1) := by decide +kernel
theorem dX8_leftOver_14 : decode cX8_leftOver 14 = .ok (.iload_n 3, 1) := by decide +kernel
theorem dX8_leftOver_15 : decode cX8_leftOver 15 = .ok (.iconst 1, 1) := by decide +kernel
theorem dX8_leftOver_16 : decode cX8_leftOver 16 = .ok (.invokevirtual 244, 3) := by decide +kernel
theorem dX8_leftOver_19 : decode cX8_leftOver 19 = .ok (.i2l, 1) := by decide +kernel
theorem dX8_leftOver_20 : decode cX8_leftOver 20 = .ok (.aload_n 0, 1) := by decide +kernel
theorem dX8_leftOver_21 : decode cX8_leftOver 21 = .ok (.iload_n 3, 1) := by decide +kernel
theorem dX8_leftOver_22 : decode cX8_leftOver 22 = .ok (.invokevirtual 258, 3) := by decide +kernel
theorem dX8_leftOver_25 : decode cX8_leftOver 25 = .ok (.lmul, 1) := by decide +kernel
theorem dX8_leftOver_26 : decode cX8_leftOver 26 = .ok (.ladd, 1) := by decide +kernel
theorem dX8_leftOver_27 : decode cX8_leftOver 27 = .ok (.lstore_n 1, 1) := by decide +kernel
theorem dX8_leftOver_28 : decode cX8_leftOver 28 = .ok (.iinc 3 1, 3) := by decide +kernel
theorem dX8_leftOver_31 : decode cX8_leftOver 31 = .ok (.goto (-27), 3) := by decide +kernel
theorem dX8_leftOver_34 : decode cX8_leftOver 34 = .ok (.lload_n 1, 1) := by decide +kernel
theorem dX8_leftOver_35 : decode cX8_leftOver 35 = .ok (.lreturn, 1) := by decide +kernel
theorem dX8_laysLevel_0 : decode cX8_laysLevel 0 = .ok (.aload_n 0, 1) := by decide +kernel
theorem dX8_laysLevel_1 : decode cX8_laysLevel 1 = .ok (.lconst 0, 1) := by decide +kernel
theorem dX8_laysLevel_2 : decode cX8_laysLevel 2 = .ok (.putfield 251, 3) := by decide +kernel
theorem dX8_laysLevel_5 : decode cX8_laysLevel 5 = .ok (.aload_n 0, 1) := by decide +kernel
theorem dX8_laysLevel_6 : decode cX8_laysLevel 6 = .ok (.ldc2_w 262, 3) := by decide +kernel
theorem dX8_laysLevel_9 : decode cX8_laysLevel 9 = .ok (.putfield 255, 3) := by decide +kernel
theorem dX8_laysLevel_12 : decode cX8_laysLevel 12 = .ok (.aload_n 0, 1) := by decide +kernel
theorem dX8_laysLevel_13 : decode cX8_laysLevel 13 = .ok (.invokevirtual 214, 3) := by decide +kernel
theorem dX8_laysLevel_16 : decode cX8_laysLevel 16 = .ok (.ifCond .eq 76, 3) := by decide +kernel
theorem dX8_laysLevel_19 : decode cX8_laysLevel 19 = .ok (.aload_n 0, 1) := by decide +kernel
theorem dX8_laysLevel_20 : decode cX8_laysLevel 20 = .ok (.invokevirtual 264, 3) := by decide +kernel
theorem dX8_laysLevel_23 : decode cX8_laysLevel 23 = .ok (.lstore_n 2, 1) := by decide +kernel
theorem dX8_laysLevel_24 : decode cX8_laysLevel 24 = .ok (.aload_n 0, 1) := by decide +kernel
theorem dX8_laysLevel_25 : decode cX8_laysLevel 25 = .ok (.invokevirtual 268, 3) := by decide +kernel
theorem dX8_laysLevel_28 : decode cX8_laysLevel 28 = .ok (.lstore 4, 2) := by decide +kernel
theorem dX8_laysLevel_30 : decode cX8_laysLevel 30 = .ok (.iconst 0, 1) := by decide +kernel
theorem dX8_laysLevel_31 : decode cX8_laysLevel 31 = .ok (.istore 6, 2) := by decide +kernel
theorem dX8_laysLevel_33 : decode cX8_laysLevel 33 = .ok (.iload 6, 2) := by decide +kernel
theorem dX8_laysLevel_35 : decode cX8_laysLevel 35 = .ok (.iload_n 1, 1) := by decide +kernel
theorem dX8_laysLevel_36 : decode cX8_laysLevel 36 = .ok (.if_icmp .eq 44, 3) := by decide +kernel
theorem dX8_laysLevel_39 : decode cX8_laysLevel 39 = .ok (.aload_n 0, 1) := by decide +kernel
theorem dX8_laysLevel_40 : decode cX8_laysLevel 40 = .ok (.dup, 1) := by decide +kernel
theorem dX8_laysLevel_41 : decode cX8_laysLevel 41 = .ok (.getfield 251, 3) := by decide +kernel
theorem dX8_laysLevel_44 : decode cX8_laysLevel 44 = .ok (.aload_n 0, 1) := by decide +kernel
theorem dX8_laysLevel_45 : decode cX8_laysLevel 45 = .ok (.iload 6, 2) := by decide +kernel
theorem dX8_laysLevel_47 : decode cX8_laysLevel 47 = .ok (.iconst 1, 1) := by decide +kernel
theorem dX8_laysLevel_48 : decode cX8_laysLevel 48 = .ok (.invokevirtual 244, 3) := by decide +kernel
theorem dX8_laysLevel_51 : decode cX8_laysLevel 51 = .ok (.i2l, 1) := by decide +kernel
theorem dX8_laysLevel_52 : decode cX8_laysLevel 52 = .ok (.lload_n 2, 1) := by decide +kernel
theorem dX8_laysLevel_53 : decode cX8_laysLevel 53 = .ok (.lmul, 1) := by decide +kernel
theorem dX8_laysLevel_54 : decode cX8_laysLevel 54 = .ok (.lload 4, 2) := by decide +kernel
theorem dX8_laysLevel_56 : decode cX8_laysLevel 56 = .ok (.lsub, 1) := by decide +kernel
theorem dX8_laysLevel_57 : decode cX8_laysLevel 57 = .ok (.aload_n 0, 1) := by decide +kernel
theorem dX8_laysLevel_58 : decode cX8_laysLevel 58 = .ok (.iload 6, 2) := by decide +kernel
theorem dX8_laysLevel_60 : decode cX8_laysLevel 60 = .ok (.invokevirtual 258, 3) := by decide +kernel
theorem dX8_laysLevel_63 : decode cX8_laysLevel 63 = .ok (.lmul, 1) := by decide +kernel
theorem dX8_laysLevel_64 : decode cX8_laysLevel 64 = .ok (.ladd, 1) := by decide +kernel
theorem dX8_laysLevel_65 : decode cX8_laysLevel 65 = .ok (.putfield 251, 3) := by decide +kernel
theorem dX8_laysLevel_68 : decode cX8_laysLevel 68 = .ok (.aload_n 0, 1) := by decide +kernel
theorem dX8_laysLevel_69 : decode cX8_laysLevel 69 = .ok (.getfield 38, 3) := by decide +kernel
theorem dX8_laysLevel_72 : decode cX8_laysLevel 72 = .ok (.iload 6, 2) := by decide +kernel
theorem dX8_laysLevel_74 : decode cX8_laysLevel 74 = .ok (.iaload, 1) := by decide +kernel
theorem dX8_laysLevel_75 : decode cX8_laysLevel 75 = .ok (.istore 6, 2) := by decide +kernel
theorem dX8_laysLevel_77 : decode cX8_laysLevel 77 = .ok (.goto (-44), 3) := by decide +kernel
theorem dX8_laysLevel_80 : decode cX8_laysLevel 80 = .ok (.aload_n 0, 1) := by decide +kernel
theorem dX8_laysLevel_81 : decode cX8_laysLevel 81 = .ok (.ldc2_w 262, 3) := by decide +kernel
theorem dX8_laysLevel_84 : decode cX8_laysLevel 84 = .ok (.lload_n 2, 1) := by decide +kernel
theorem dX8_laysLevel_85 : decode cX8_laysLevel 85 = .ok (.lmul, 1) := by decide +kernel
theorem dX8_laysLevel_86 : decode cX8_laysLevel 86 = .ok (.putfield 255, 3) := by decide +kernel
theorem dX8_laysLevel_89 : decode cX8_laysLevel 89 = .ok (.goto 47, 3) := by decide +kernel
theorem dX8_laysLevel_92 : decode cX8_laysLevel 92 = .ok (.aload_n 0, 1) := by decide +kernel
theorem dX8_laysLevel_93 : decode cX8_laysLevel 93 = .ok (.getfield 41, 3) := by decide +kernel
theorem dX8_laysLevel_96 : decode cX8_laysLevel 96 = .ok (.iload_n 1, 1) := by decide +kernel
theorem dX8_laysLevel_97 : decode cX8_laysLevel 97 = .ok (.iaload, 1) := by decide +kernel
theorem dX8_laysLevel_98 : decode cX8_laysLevel 98 = .ok (.istore_n 2, 1) := by decide +kernel
theorem dX8_laysLevel_99 : decode cX8_laysLevel 99 = .ok (.iload_n 2, 1) := by decide +kernel
theorem dX8_laysLevel_100 : decode cX8_laysLevel 100 = .ok (.iconst (-1), 1) := by decide +kernel
theorem dX8_laysLevel_101 : decode cX8_laysLevel 101 = .ok (.if_icmp .eq 35, 3) := by decide +kernel
theorem dX8_laysLevel_104 : decode cX8_laysLevel 104 = .ok (.aload_n 0, 1) := by decide +kernel
theorem dX8_laysLevel_105 : decode cX8_laysLevel 105 = .ok (.dup, 1) := by decide +kernel
theorem dX8_laysLevel_106 : decode cX8_laysLevel 106 = .ok (.getfield 251, 3) := by decide +kernel
theorem dX8_laysLevel_109 : decode cX8_laysLevel 109 = .ok (.aload_n 0, 1) := by decide +kernel
theorem dX8_laysLevel_110 : decode cX8_laysLevel 110 = .ok (.iload_n 2, 1) := by decide +kernel
theorem dX8_laysLevel_111 : decode cX8_laysLevel 111 = .ok (.iconst 1, 1) := by decide +kernel
theorem dX8_laysLevel_112 : decode cX8_laysLevel 112 = .ok (.invokevirtual 244, 3) := by decide +kernel
theorem dX8_laysLevel_115 : decode cX8_laysLevel 115 = .ok (.i2l, 1) := by decide +kernel
theorem dX8_laysLevel_116 : decode cX8_laysLevel 116 = .ok (.aload_n 0, 1) := by decide +kernel
theorem dX8_laysLevel_117 : decode cX8_laysLevel 117 = .ok (.iload_n 2, 1) := by decide +kernel
theorem dX8_laysLevel_118 : decode cX8_laysLevel 118 = .ok (.invokevirtual 258, 3) := by decide +kernel
theorem dX8_laysLevel_121 : decode cX8_laysLevel 121 = .ok (.lmul, 1) := by decide +kernel
theorem dX8_laysLevel_122 : decode cX8_laysLevel 122 = .ok (.ladd, 1) := by decide +kernel
theorem dX8_laysLevel_123 : decode cX8_laysLevel 123 = .ok (.putfield 251, 3) := by decide +kernel
theorem dX8_laysLevel_126 : decode cX8_laysLevel 126 = .ok (.aload_n 0, 1) := by decide +kernel
theorem dX8_laysLevel_127 : decode cX8_laysLevel 127 = .ok (.getfield 41, 3) := by decide +kernel
theorem dX8_laysLevel_130 : decode cX8_laysLevel 130 = .ok (.iload_n 2, 1) := by decide +kernel
theorem dX8_laysLevel_131 : decode cX8_laysLevel 131 = .ok (.iaload, 1) := by decide +kernel
theorem dX8_laysLevel_132 : decode cX8_laysLevel 132 = .ok (.istore_n 2, 1) := by decide +kernel
theorem dX8_laysLevel_133 : decode cX8_laysLevel 133 = .ok (.goto (-34), 3) := by decide +kernel
theorem dX8_laysLevel_136 : decode cX8_laysLevel 136 = .ok (.aload_n 0, 1) := by decide +kernel
theorem dX8_laysLevel_137 : decode cX8_laysLevel 137 = .ok (.invokevirtual 271, 3) := by decide +kernel
theorem dX8_laysLevel_140 : decode cX8_laysLevel 140 = .ok (.return_, 1) := by decide +kernel
theorem dX8_level_0 : decode cX8_level 0 = .ok (.aload_n 0, 1) := by decide +kernel
theorem dX8_level_1 : decode cX8_level 1 = .ok (.iload_n 1, 1) := by decide +kernel
theorem dX8_level_2 : decode cX8_level 2 = .ok (.invokevirtual 128, 3) := by decide +kernel
theorem dX8_level_5 : decode cX8_level 5 = .ok (.ifCond .eq 13, 3) := by decide +kernel
theorem dX8_level_8 : decode cX8_level 8 = .ok (.iload_n 2, 1) := by decide +kernel
theorem dX8_level_9 : decode cX8_level 9 = .ok (.i2l, 1) := by decide +kernel
theorem dX8_level_10 : decode cX8_level 10 = .ok (.lconst 0, 1) := by decide +kernel
theorem dX8_level_11 : decode cX8_level 11 = .ok (.lconst 1, 1) := by decide +kernel
theorem dX8_level_12 : decode cX8_level 12 = .ok (.invokestatic 63, 3) := by decide +kernel
theorem dX8_level_15 : decode cX8_level 15 = .ok (.ifCond .ne 17, 3) := by decide +kernel
theorem dX8_level_18 : decode cX8_level 18 = .ok (.aload_n 0, 1) := by decide +kernel
theorem dX8_level_19 : decode cX8_level 19 = .ok (.getfield 19, 3) := by decide +kernel
theorem dX8_level_22 : decode cX8_level 22 = .ok (.iconst 0, 1) := by decide +kernel
theorem dX8_level_23 : decode cX8_level 23 = .ok (.dup2, 1) := by decide +kernel
theorem dX8_level_24 : decode cX8_level 24 = .ok (.iaload, 1) := by decide +kernel
theorem dX8_level_25 : decode cX8_level 25 = .ok (.iconst 1, 1) := by decide +kernel
theorem dX8_level_26 : decode cX8_level 26 = .ok (.iadd, 1) := by decide +kernel
theorem dX8_level_27 : decode cX8_level 27 = .ok (.iastore, 1) := by decide +kernel
theorem dX8_level_28 : decode cX8_level 28 = .ok (.ldc2_w 274, 3) := by decide +kernel
theorem dX8_level_31 : decode cX8_level 31 = .ok (.lreturn, 1) := by decide +kernel
theorem dX8_level_32 : decode cX8_level 32 = .ok (.aload_n 0, 1) := by decide +kernel
theorem dX8_level_33 : decode cX8_level 33 = .ok (.invokevirtual 196, 3) := by decide +kernel
theorem dX8_level_36 : decode cX8_level 36 = .ok (.aload_n 0, 1) := by decide +kernel
theorem dX8_level_37 : decode cX8_level 37 = .ok (.iload_n 1, 1) := by decide +kernel
theorem dX8_level_38 : decode cX8_level 38 = .ok (.invokevirtual 276, 3) := by decide +kernel
theorem dX8_level_41 : decode cX8_level 41 = .ok (.iload_n 2, 1) := by decide +kernel
theorem dX8_level_42 : decode cX8_level 42 = .ok (.ifCond .ne 10, 3) := by decide +kernel
theorem dX8_level_45 : decode cX8_level 45 = .ok (.aload_n 0, 1) := by decide +kernel
theorem dX8_level_46 : decode cX8_level 46 = .ok (.getfield 251, 3) := by decide +kernel
theorem dX8_level_49 : decode cX8_level 49 = .ok (.goto 7, 3) := by decide +kernel
theorem dX8_level_52 : decode cX8_level 52 = .ok (.aload_n 0, 1) := by decide +kernel
theorem dX8_level_53 : decode cX8_level 53 = .ok (.getfield 255, 3) := by decide +kernel
theorem dX8_level_56 : decode cX8_level 56 = .ok (.lreturn, 1) := by decide +kernel
theorem dX8_rest_0 : decode cX8_rest 0 = .ok (.iload_n 1, 1) := by decide +kernel
theorem dX8_rest_1 : decode cX8_rest 1 = .ok (.i2l, 1) := by decide +kernel
theorem dX8_rest_2 : decode cX8_rest 2 = .ok (.lconst 0, 1) := by decide +kernel
theorem dX8_rest_3 : decode cX8_rest 3 = .ok (.lconst 1, 1) := by decide +kernel
theorem dX8_rest_4 : decode cX8_rest 4 = .ok (.invokestatic 63, 3) := by decide +kernel
theorem dX8_rest_7 : decode cX8_rest 7 = .ok (.ifCond .ne 11, 3) := by decide +kernel
theorem dX8_rest_10 : decode cX8_rest 10 = .ok (.aload_n 0, 1) := by decide +kernel
theorem dX8_rest_11 : decode cX8_rest 11 = .ok (.bipush (-2), 2) := by decide +kernel
theorem dX8_rest_13 : decode cX8_rest 13 = .ok (.invokevirtual 91, 3) := by decide +kernel
theorem dX8_rest_16 : decode cX8_rest 16 = .ok (.i2l, 1) := by decide +kernel
theorem dX8_rest_17 : decode cX8_rest 17 = .ok (.lreturn, 1) := by decide +kernel
theorem dX8_rest_18 : decode cX8_rest 18 = .ok (.aload_n 0, 1) := by decide +kernel
theorem dX8_rest_19 : decode cX8_rest 19 = .ok (.invokevirtual 196, 3) := by decide +kernel
theorem dX8_rest_22 : decode cX8_rest 22 = .ok (.aload_n 0, 1) := by decide +kernel
theorem dX8_rest_23 : decode cX8_rest 23 = .ok (.lconst 0, 1) := by decide +kernel
theorem dX8_rest_24 : decode cX8_rest 24 = .ok (.putfield 251, 3) := by decide +kernel
theorem dX8_rest_27 : decode cX8_rest 27 = .ok (.aload_n 0, 1) := by decide +kernel
theorem dX8_rest_28 : decode cX8_rest 28 = .ok (.lconst 1, 1) := by decide +kernel
theorem dX8_rest_29 : decode cX8_rest 29 = .ok (.putfield 255, 3) := by decide +kernel
theorem dX8_rest_32 : decode cX8_rest 32 = .ok (.aload_n 0, 1) := by decide +kernel
theorem dX8_rest_33 : decode cX8_rest 33 = .ok (.invokevirtual 214, 3) := by decide +kernel
theorem dX8_rest_36 : decode cX8_rest 36 = .ok (.ifCond .eq 32, 3) := by decide +kernel
theorem dX8_rest_39 : decode cX8_rest 39 = .ok (.aload_n 0, 1) := by decide +kernel
theorem dX8_rest_40 : decode cX8_rest 40 = .ok (.aload_n 0, 1) := by decide +kernel
theorem dX8_rest_41 : decode cX8_rest 41 = .ok (.invokevirtual 268, 3) := by decide +kernel
theorem dX8_rest_44 : decode cX8_rest 44 = .ok (.aload_n 0, 1) := by decide +kernel
theorem dX8_rest_45 : decode cX8_rest 45 = .ok (.invokevirtual 268, 3) := by decide +kernel
theorem dX8_rest_48 : decode cX8_rest 48 = .ok (.lmul, 1) := by decide +kernel
theorem dX8_rest_49 : decode cX8_rest 49 = .ok (.putfield 251, 3) := by decide +kernel
theorem dX8_rest_52 : decode cX8_rest 52 = .ok (.aload_n 0, 1) := by decide +kernel
theorem dX8_rest_53 : decode cX8_rest 53 = .ok (.ldc2_w 262, 3) := by decide +kernel
theorem dX8_rest_56 : decode cX8_rest 56 = .ok (.aload_n 0, 1) := by decide +kernel
theorem dX8_rest_57 : decode cX8_rest 57 = .ok (.invokevirtual 264, 3) := by decide +kernel
theorem dX8_rest_60 : decode cX8_rest 60 = .ok (.lmul, 1) := by decide +kernel
theorem dX8_rest_61 : decode cX8_rest 61 = .ok (.putfield 255, 3) := by decide +kernel
theorem dX8_rest_64 : decode cX8_rest 64 = .ok (.aload_n 0, 1) := by decide +kernel
theorem dX8_rest_65 : decode cX8_rest 65 = .ok (.invokevirtual 271, 3) := by decide +kernel
theorem dX8_rest_68 : decode cX8_rest 68 = .ok (.iload_n 1, 1) := by decide +kernel
theorem dX8_rest_69 : decode cX8_rest 69 = .ok (.ifCond .ne 10, 3) := by decide +kernel
theorem dX8_rest_72 : decode cX8_rest 72 = .ok (.aload_n 0, 1) := by decide +kernel
theorem dX8_rest_73 : decode cX8_rest 73 = .ok (.getfield 251, 3) := by decide +kernel
theorem dX8_rest_76 : decode cX8_rest 76 = .ok (.goto 7, 3) := by decide +kernel
theorem dX8_rest_79 : decode cX8_rest 79 = .ok (.aload_n 0, 1) := by decide +kernel
theorem dX8_rest_80 : decode cX8_rest 80 = .ok (.getfield 255, 3) := by decide +kernel
theorem dX8_rest_83 : decode cX8_rest 83 = .ok (.lreturn, 1) := by decide +kernel
theorem dX8_shows_0 : decode cX8_shows 0 = .ok (.aload_n 0, 1) := by decide +kernel
theorem dX8_shows_1 : decode cX8_shows 1 = .ok (.iload_n 1, 1) := by decide +kernel
theorem dX8_shows_2 : decode cX8_shows 2 = .ok (.invokevirtual 128, 3) := by decide +kernel
theorem dX8_shows_5 : decode cX8_shows 5 = .ok (.ifCond .eq 15, 3) := by decide +kernel
theorem dX8_shows_8 : decode cX8_shows 8 = .ok (.iload_n 2, 1) := by decide +kernel
theorem dX8_shows_9 : decode cX8_shows 9 = .ok (.i2l, 1) := by decide +kernel
theorem dX8_shows_10 : decode cX8_shows 10 = .ok (.lconst 0, 1) := by decide +kernel
theorem dX8_shows_11 : decode cX8_shows 11 = .ok (.ldc2_w 67, 3) := by decide +kernel
theorem dX8_shows_14 : decode cX8_shows 14 = .ok (.invokestatic 63, 3) := by decide +kernel
theorem dX8_shows_17 : decode cX8_shows 17 = .ok (.ifCond .ne 10, 3) := by decide +kernel
theorem dX8_shows_20 : decode cX8_shows 20 = .ok (.aload_n 0, 1) := by decide +kernel
theorem dX8_shows_21 : decode cX8_shows 21 = .ok (.bipush (-2), 2) := by decide +kernel
theorem dX8_shows_23 : decode cX8_shows 23 = .ok (.invokevirtual 91, 3) := by decide +kernel
theorem dX8_shows_26 : decode cX8_shows 26 = .ok (.ireturn, 1) := by decide +kernel
theorem dX8_shows_27 : decode cX8_shows 27 = .ok (.aload_n 0, 1) := by decide +kernel
theorem dX8_shows_28 : decode cX8_shows 28 = .ok (.invokevirtual 196, 3) := by decide +kernel
theorem dX8_shows_31 : decode cX8_shows 31 = .ok (.iconst 0, 1) := by decide +kernel
theorem dX8_shows_32 : decode cX8_shows 32 = .ok (.istore_n 3, 1) := by decide +kernel
theorem dX8_shows_33 : decode cX8_shows 33 = .ok (.bipush 8, 2) := by decide +kernel
theorem dX8_shows_35 : decode cX8_shows 35 = .ok (.istore 4, 2) := by decide +kernel
theorem dX8_shows_37 : decode cX8_shows 37 = .ok (.aload_n 0, 1) := by decide +kernel
theorem dX8_shows_38 : decode cX8_shows 38 = .ok (.getfield 41, 3) := by decide +kernel
theorem dX8_shows_41 : decode cX8_shows 41 = .ok (.iload_n 1, 1) := by decide +kernel
theorem dX8_shows_42 : decode cX8_shows 42 = .ok (.iaload, 1) := by decide +kernel
theorem dX8_shows_43 : decode cX8_shows 43 = .ok (.istore 5, 2) := by decide +kernel
theorem dX8_shows_45 : decode cX8_shows 45 = .ok (.iload 5, 2) := by decide +kernel
theorem dX8_shows_47 : decode cX8_shows 47 = .ok (.iconst (-1), 1) := by decide +kernel
theorem dX8_shows_48 : decode cX8_shows 48 = .ok (.if_icmp .eq 47, 3) := by decide +kernel
theorem dX8_shows_51 : decode cX8_shows 51 = .ok (.aload_n 0, 1) := by decide +kernel
theorem dX8_shows_52 : decode cX8_shows 52 = .ok (.iload 5, 2) := by decide +kernel
theorem dX8_shows_54 : decode cX8_shows 54 = .ok (.iload_n 2, 1) := by decide +kernel
theorem dX8_shows_55 : decode cX8_shows 55 = .ok (.aload_n 0, 1) := by decide +kernel
theorem dX8_shows_56 : decode cX8_shows 56 = .ok (.iload 5, 2) := by decide +kernel
theorem dX8_shows_58 : decode cX8_shows 58 = .ok (.invokevirtual 202, 3) := by decide +kernel
theorem dX8_shows_61 : decode cX8_shows 61 = .ok (.iadd, 1) := by decide +kernel
theorem dX8_shows_62 : decode cX8_shows 62 = .ok (.invokevirtual 228, 3) := by decide +kernel
theorem dX8_shows_65 : decode cX8_shows 65 = .ok (.ifCond .eq 30, 3) := by decide +kernel
theorem dX8_shows_68 : decode cX8_shows 68 = .ok (.aload_n 0, 1) := by decide +kernel
theorem dX8_shows_69 : decode cX8_shows 69 = .ok (.iload 5, 2) := by decide +kernel
theorem dX8_shows_71 : decode cX8_shows 71 = .ok (.invokevirtual 237, 3) := by decide +kernel
theorem dX8_shows_74 : decode cX8_shows 74 = .ok (.aload_n 0, 1) := by decide +kernel
theorem dX8_shows_75 : decode cX8_shows 75 = .ok (.getfield 47, 3) := by decide +kernel
theorem dX8_shows_78 : decode cX8_shows 78 = .ok (.iload_n 2, 1) := by decide +kernel
theorem dX8_shows_79 : decode cX8_shows 79 = .ok (.aload_n 0, 1) := by decide +kernel
theorem dX8_shows_80 : decode cX8_shows 80 = .ok (.iload 5, 2) := by decide +kernel
theorem dX8_shows_82 : decode cX8_shows 82 = .ok (.invokevirtual 202, 3) := by decide +kernel
theorem dX8_shows_85 : decode cX8_shows 85 = .ok (.iadd, 1) := by decide +kernel
theorem dX8_shows_86 : decode cX8_shows 86 = .ok (.iaload, 1) := by decide +kernel
theorem dX8_shows_87 : decode cX8_shows 87 = .ok (.aload_n 0, 1) := by decide +kernel
theorem dX8_shows_88 : decode cX8_shows 88 = .ok (.iload 5, 2) := by decide +kernel
theorem dX8_shows_90 : decode cX8_shows 90 = .ok (.invokevirtual 205, 3) := by decide +kernel
theorem dX8_shows_93 : decode cX8_shows 93 = .ok (.isub, 1) := by decide +kernel
theorem dX8_shows_94 : decode cX8_shows 94 = .ok (.istore_n 3, 1) := by decide +kernel
theorem dX8_shows_95 : decode cX8_shows 95 = .ok (.aload_n 0, 1) := by decide +kernel
theorem dX8_shows_96 : decode cX8_shows 96 = .ok (.getfield 38, 3) := by decide +kernel
theorem dX8_shows_99 : decode cX8_shows 99 = .ok (.iload_n 1, 1) := by decide +kernel
theorem dX8_shows_100 : decode cX8_shows 100 = .ok (.iaload, 1) := by decide +kernel
theorem dX8_shows_101 : decode cX8_shows 101 = .ok (.iconst (-1), 1) := by decide +kernel
theorem dX8_shows_102 : decode cX8_shows 102 = .ok (.if_icmp .eq 25, 3) := by decide +kernel
theorem dX8_shows_105 : decode cX8_shows 105 = .ok (.aload_n 0, 1) := by decide +kernel
theorem dX8_shows_106 : decode cX8_shows 106 = .ok (.iload_n 1, 1) := by decide +kernel
theorem dX8_shows_107 : decode cX8_shows 107 = .ok (.iload_n 2, 1) := by decide +kernel
theorem dX8_shows_108 : decode cX8_shows 108 = .ok (.invokevirtual 228, 3) := by decide +kernel
theorem dX8_shows_111 : decode cX8_shows 111 = .ok (.ifCond .eq 16, 3) := by decide +kernel
theorem dX8_shows_114 : decode cX8_shows 114 = .ok (.aload_n 0, 1) := by decide +kernel
theorem dX8_shows_115 : decode cX8_shows 115 = .ok (.iload_n 1, 1) := by decide +kernel
theorem dX8_shows_116 : decode cX8_shows 116 = .ok (.invokevirtual 237, 3) := by decide +kernel
theorem dX8_shows_119 : decode cX8_shows 119 = .ok (.aload_n 0, 1) := by decide +kernel
theorem dX8_shows_120 : decode cX8_shows 120 = .ok (.getfield 47, 3) := by decide +kernel
theorem dX8_shows_123 : decode cX8_shows 123 = .ok (.iload_n 2, 1) := by decide +kernel
theorem dX8_shows_124 : decode cX8_shows 124 = .ok (.iaload, 1) := by decide +kernel
theorem dX8_shows_125 : decode cX8_shows 125 = .ok (.istore 4, 2) := by decide +kernel
theorem dX8_shows_127 : decode cX8_shows 127 = .ok (.iconst 0, 1) := by decide +kernel
theorem dX8_shows_128 : decode cX8_shows 128 = .ok (.istore 6, 2) := by decide +kernel
theorem dX8_shows_130 : decode cX8_shows 130 = .ok (.iload_n 3, 1) := by decide +kernel
theorem dX8_shows_131 : decode cX8_shows 131 = .ok (.istore 7, 2) := by decide +kernel
theorem dX8_shows_133 : decode cX8_shows 133 = .ok (.iload 7, 2) := by decide +kernel
theorem dX8_shows_135 : decode cX8_shows 135 = .ok (.iload 4, 2) := by decide +kernel
theorem dX8_shows_137 : decode cX8_shows 137 = .ok (.if_icmp .ge 18, 3) := by decide +kernel
theorem dX8_shows_140 : decode cX8_shows 140 = .ok (.iload 6, 2) := by decide +kernel
theorem dX8_shows_142 : decode cX8_shows 142 = .ok (.iconst 1, 1) := by decide +kernel
theorem dX8_shows_143 : decode cX8_shows 143 = .ok (.iload 7, 2) := by decide +kernel
theorem dX8_shows_145 : decode cX8_shows 145 = .ok (.ishl, 1) := by decide +kernel
theorem dX8_shows_146 : decode cX8_shows 146 = .ok (.ior, 1) := by decide +kernel
theorem dX8_shows_147 : decode cX8_shows 147 = .ok (.istore 6, 2) := by decide +kernel
theorem dX8_shows_149 : decode cX8_shows 149 = .ok (.iinc 7 1, 3) := by decide +kernel
theorem dX8_shows_152 : decode cX8_shows 152 = .ok (.goto (-19), 3) := by decide +kernel
theorem dX8_shows_155 : decode cX8_shows 155 = .ok (.iload 6, 2) := by decide +kernel
theorem dX8_shows_157 : decode cX8_shows 157 = .ok (.ireturn, 1) := by decide +kernel
theorem dX8_seen_0 : decode cX8_seen 0 = .ok (.aload_n 0, 1) := by decide +kernel
theorem dX8_seen_1 : decode cX8_seen 1 = .ok (.iload_n 1, 1) := by decide +kernel
theorem dX8_seen_2 : decode cX8_seen 2 = .ok (.invokevirtual 128, 3) := by decide +kernel
theorem dX8_seen_5 : decode cX8_seen 5 = .ok (.ifCond .eq 11, 3) := by decide +kernel
theorem dX8_seen_8 : decode cX8_seen 8 = .ok (.iload_n 2, 1) := by decide +kernel
theorem dX8_seen_9 : decode cX8_seen 9 = .ok (.iload_n 3, 1) := by decide +kernel
theorem dX8_seen_10 : decode cX8_seen 10 = .ok (.invokestatic 132, 3) := by decide +kernel
theorem dX8_seen_13 : decode cX8_seen 13 = .ok (.ifCond .ne 10, 3) := by decide +kernel
theorem dX8_seen_16 : decode cX8_seen 16 = .ok (.aload_n 0, 1) := by decide +kernel
theorem dX8_seen_17 : decode cX8_seen 17 = .ok (.bipush (-2), 2) := by decide +kernel
theorem dX8_seen_19 : decode cX8_seen 19 = .ok (.invokevirtual 91, 3) := by decide +kernel
theorem dX8_seen_22 : decode cX8_seen 22 = .ok (.ireturn, 1) := by decide +kernel
theorem dX8_seen_23 : decode cX8_seen 23 = .ok (.aload_n 0, 1) := by decide +kernel
theorem dX8_seen_24 : decode cX8_seen 24 = .ok (.invokevirtual 196, 3) := by decide +kernel
theorem dX8_seen_27 : decode cX8_seen 27 = .ok (.aload_n 0, 1) := by decide +kernel
theorem dX8_seen_28 : decode cX8_seen 28 = .ok (.iload_n 1, 1) := by decide +kernel
theorem dX8_seen_29 : decode cX8_seen 29 = .ok (.invokevirtual 276, 3) := by decide +kernel
theorem dX8_seen_32 : decode cX8_seen 32 = .ok (.ldc2_w 112, 3) := by decide +kernel
theorem dX8_seen_35 : decode cX8_seen 35 = .ok (.aload_n 0, 1) := by decide +kernel
theorem dX8_seen_36 : decode cX8_seen 36 = .ok (.iload_n 1, 1) := by decide +kernel
theorem dX8_seen_37 : decode cX8_seen 37 = .ok (.iload_n 2, 1) := by decide +kernel
theorem dX8_seen_38 : decode cX8_seen 38 = .ok (.iload_n 3, 1) := by decide +kernel
theorem dX8_seen_39 : decode cX8_seen 39 = .ok (.invokevirtual 143, 3) := by decide +kernel
theorem dX8_seen_42 : decode cX8_seen 42 = .ok (.i2l, 1) := by decide +kernel
theorem dX8_seen_43 : decode cX8_seen 43 = .ok (.aload_n 0, 1) := by decide +kernel
theorem dX8_seen_44 : decode cX8_seen 44 = .ok (.getfield 255, 3) := by decide +kernel
theorem dX8_seen_47 : decode cX8_seen 47 = .ok (.lmul, 1) := by decide +kernel
theorem dX8_seen_48 : decode cX8_seen 48 = .ok (.aload_n 0, 1) := by decide +kernel
theorem dX8_seen_49 : decode cX8_seen 49 = .ok (.getfield 251, 3) := by decide +kernel
theorem dX8_seen_52 : decode cX8_seen 52 = .ok (.ladd, 1) := by decide +kernel
theorem dX8_seen_53 : decode cX8_seen 53 = .ok (.lmul, 1) := by decide +kernel
theorem dX8_seen_54 : decode cX8_seen 54 = .ok (.aload_n 0, 1) := by decide +kernel
theorem dX8_seen_55 : decode cX8_seen 55 = .ok (.getfield 255, 3) := by decide +kernel
theorem dX8_seen_58 : decode cX8_seen 58 = .ok (.ladd, 1) := by decide +kernel
theorem dX8_seen_59 : decode cX8_seen 59 = .ok (.lstore 4, 2) := by decide +kernel
theorem dX8_seen_61 : decode cX8_seen 61 = .ok (.ldc2_w 112, 3) := by decide +kernel
theorem dX8_seen_64 : decode cX8_seen 64 = .ok (.aload_n 0, 1) := by decide +kernel
theorem dX8_seen_65 : decode cX8_seen 65 = .ok (.getfield 255, 3) := by decide +kernel
theorem dX8_seen_68 : decode cX8_seen 68 = .ok (.lmul, 1) := by decide +kernel
theorem dX8_seen_69 : decode cX8_seen 69 = .ok (.lstore 6, 2) := by decide +kernel
theorem dX8_seen_71 : decode cX8_seen 71 = .ok (.lload 4, 2) := by decide +kernel
theorem dX8_seen_73 : decode cX8_seen 73 = .ok (.lload 6, 2) := by decide +kernel
theorem dX8_seen_75 : decode cX8_seen 75 = .ok (.ldiv, 1) := by decide +kernel
theorem dX8_seen_76 : decode cX8_seen 76 = .ok (.lload 4, 2) := by decide +kernel
theorem dX8_seen_78 : decode cX8_seen 78 = .ok (.lload 6, 2) := by decide +kernel
theorem dX8_seen_80 : decode cX8_seen 80 = .ok (.lrem, 1) := by decide +kernel
theorem dX8_seen_81 : decode cX8_seen 81 = .ok (.lconst 0, 1) := by decide +kernel
theorem dX8_seen_82 : decode cX8_seen 82 = .ok (.lcmp, 1) := by decide +kernel
theorem dX8_seen_83 : decode cX8_seen 83 = .ok (.ifCond .ge 7, 3) := by decide +kernel
theorem dX8_seen_86 : decode cX8_seen 86 = .ok (.lconst 1, 1) := by decide +kernel
theorem dX8_seen_87 : decode cX8_seen 87 = .ok (.goto 4, 3) := by decide +kernel
theorem dX8_seen_90 : decode cX8_seen 90 = .ok (.lconst 0, 1) := by decide +kernel
theorem dX8_seen_91 : decode cX8_seen 91 = .ok (.lsub, 1) := by decide +kernel
theorem dX8_seen_92 : decode cX8_seen 92 = .ok (.lstore 8, 2) := by decide +kernel
theorem dX8_seen_94 : decode cX8_seen 94 = .ok (.lload 8, 2) := by decide +kernel
theorem dX8_seen_96 : decode cX8_seen 96 = .ok (.lconst 0, 1) := by decide +kernel
theorem dX8_seen_97 : decode cX8_seen 97 = .ok (.lcmp, 1) := by decide +kernel
theorem dX8_seen_98 : decode cX8_seen 98 = .ok (.ifCond .ge 7, 3) := by decide +kernel
theorem dX8_seen_101 : decode cX8_seen 101 = .ok (.iconst 0, 1) := by decide +kernel
theorem dX8_seen_102 : decode cX8_seen 102 = .ok (.goto 20, 3) := by decide +kernel
theorem dX8_seen_105 : decode cX8_seen 105 = .ok (.lload 8, 2) := by decide +kernel
theorem dX8_seen_107 : decode cX8_seen 107 = .ok (.ldc2_w 107, 3) := by decide +kernel
theorem dX8_seen_110 : decode cX8_seen 110 = .ok (.lcmp, 1) := by decide +kernel
theorem dX8_seen_111 : decode cX8_seen 111 = .ok (.ifCond .le 8, 3) := by decide +kernel
theorem dX8_seen_114 : decode cX8_seen 114 = .ok (.bipush 63, 2) := by decide +kernel
theorem dX8_seen_116 : decode cX8_seen 116 = .ok (.goto 6, 3) := by decide +kernel
theorem dX8_seen_119 : decode cX8_seen 119 = .ok (.lload 8, 2) := by decide +kernel
theorem dX8_seen_121 : decode cX8_seen 121 = .ok (.l2i, 1) := by decide +kernel
theorem dX8_seen_122 : decode cX8_seen 122 = .ok (.ireturn, 1) := by decide +kernel
theorem dX8_type_0 : decode cX8_type 0 = .ok (.iload_n 1, 1) := by decide +kernel
theorem dX8_type_1 : decode cX8_type 1 = .ok (.i2l, 1) := by decide +kernel
theorem dX8_type_2 : decode cX8_type 2 = .ok (.lconst 0, 1) := by decide +kernel
theorem dX8_type_3 : decode cX8_type 3 = .ok (.ldc2_w 279, 3) := by decide +kernel
theorem dX8_type_6 : decode cX8_type 6 = .ok (.invokestatic 63, 3) := by decide +kernel
theorem dX8_type_9 : decode cX8_type 9 = .ok (.ifCond .ne 10, 3) := by decide +kernel
theorem dX8_type_12 : decode cX8_type 12 = .ok (.aload_n 0, 1) := by decide +kernel
theorem dX8_type_13 : decode cX8_type 13 = .ok (.bipush (-2), 2) := by decide +kernel
theorem dX8_type_15 : decode cX8_type 15 = .ok (.invokevirtual 91, 3) := by decide +kernel
theorem dX8_type_18 : decode cX8_type 18 = .ok (.ireturn, 1) := by decide +kernel
theorem dX8_type_19 : decode cX8_type 19 = .ok (.aload_n 0, 1) := by decide +kernel
theorem dX8_type_20 : decode cX8_type 20 = .ok (.getfield 281, 3) := by decide +kernel
theorem dX8_type_23 : decode cX8_type 23 = .ok (.bipush 120, 2) := by decide +kernel
theorem dX8_type_25 : decode cX8_type 25 = .ok (.if_icmp .ne 10, 3) := by decide +kernel
theorem dX8_type_28 : decode cX8_type 28 = .ok (.aload_n 0, 1) := by decide +kernel
theorem dX8_type_29 : decode cX8_type 29 = .ok (.bipush (-4), 2) := by decide +kernel
theorem dX8_type_31 : decode cX8_type 31 = .ok (.invokevirtual 91, 3) := by decide +kernel
theorem dX8_type_34 : decode cX8_type 34 = .ok (.ireturn, 1) := by decide +kernel
theorem dX8_type_35 : decode cX8_type 35 = .ok (.aload_n 0, 1) := by decide +kernel
theorem dX8_type_36 : decode cX8_type 36 = .ok (.getfield 50, 3) := by decide +kernel
theorem dX8_type_39 : decode cX8_type 39 = .ok (.aload_n 0, 1) := by decide +kernel
theorem dX8_type_40 : decode cX8_type 40 = .ok (.getfield 281, 3) := by decide +kernel
theorem dX8_type_43 : decode cX8_type 43 = .ok (.iload_n 1, 1) := by decide +kernel
theorem dX8_type_44 : decode cX8_type 44 = .ok (.iastore, 1) := by decide +kernel
theorem dX8_type_45 : decode cX8_type 45 = .ok (.aload_n 0, 1) := by decide +kernel
theorem dX8_type_46 : decode cX8_type 46 = .ok (.dup, 1) := by decide +kernel
theorem dX8_type_47 : decode cX8_type 47 = .ok (.getfield 281, 3) := by decide +kernel
theorem dX8_type_50 : decode cX8_type 50 = .ok (.iconst 1, 1) := by decide +kernel
theorem dX8_type_51 : decode cX8_type 51 = .ok (.iadd, 1) := by decide +kernel
theorem dX8_type_52 : decode cX8_type 52 = .ok (.putfield 281, 3) := by decide +kernel
theorem dX8_type_55 : decode cX8_type 55 = .ok (.aload_n 0, 1) := by decide +kernel
theorem dX8_type_56 : decode cX8_type 56 = .ok (.getfield 281, 3) := by decide +kernel
theorem dX8_type_59 : decode cX8_type 59 = .ok (.ireturn, 1) := by decide +kernel
theorem dX8_clear_0 : decode cX8_clear 0 = .ok (.aload_n 0, 1) := by decide +kernel
theorem dX8_clear_1 : decode cX8_clear 1 = .ok (.getfield 281, 3) := by decide +kernel
theorem dX8_clear_4 : decode cX8_clear 4 = .ok (.istore_n 1, 1) := by decide +kernel
theorem dX8_clear_5 : decode cX8_clear 5 = .ok (.aload_n 0, 1) := by decide +kernel
theorem dX8_clear_6 : decode cX8_clear 6 = .ok (.iconst 0, 1) := by decide +kernel
theorem dX8_clear_7 : decode cX8_clear 7 = .ok (.putfield 281, 3) := by decide +kernel
theorem dX8_clear_10 : decode cX8_clear 10 = .ok (.iload_n 1, 1) := by decide +kernel
theorem dX8_clear_11 : decode cX8_clear 11 = .ok (.ireturn, 1) := by decide +kernel
theorem dX8_here_0 : decode cX8_here 0 = .ok (.aload_n 0, 1) := by decide +kernel
theorem dX8_here_1 : decode cX8_here 1 = .ok (.getfield 284, 3) := by decide +kernel
theorem dX8_here_4 : decode cX8_here 4 = .ok (.aload_n 0, 1) := by decide +kernel
theorem dX8_here_5 : decode cX8_here 5 = .ok (.getfield 281, 3) := by decide +kernel
theorem dX8_here_8 : decode cX8_here 8 = .ok (.if_icmp .ge 30, 3) := by decide +kernel
theorem dX8_here_11 : decode cX8_here 11 = .ok (.aload_n 0, 1) := by decide +kernel
theorem dX8_here_12 : decode cX8_here 12 = .ok (.getfield 50, 3) := by decide +kernel
theorem dX8_here_15 : decode cX8_here 15 = .ok (.aload_n 0, 1) := by decide +kernel
theorem dX8_here_16 : decode cX8_here 16 = .ok (.getfield 284, 3) := by decide +kernel
theorem dX8_here_19 : decode cX8_here 19 = .ok (.iaload, 1) := by decide +kernel
theorem dX8_here_20 : decode cX8_here 20 = .ok (.bipush 32, 2) := by decide +kernel
theorem dX8_here_22 : decode cX8_here 22 = .ok (.if_icmp .ne 16, 3) := by decide +kernel
theorem dX8_here_25 : decode cX8_here 25 = .ok (.aload_n 0, 1) := by decide +kernel
theorem dX8_here_26 : decode cX8_here 26 = .ok (.dup, 1) := by decide +kernel
theorem dX8_here_27 : decode cX8_here 27 = .ok (.getfield 284, 3) := by decide +kernel
theorem dX8_here_30 : decode cX8_here 30 = .ok (.iconst 1, 1) := by decide +kernel
theorem dX8_here_31 : decode cX8_here 31 = .ok (.iadd, 1) := by decide +kernel
theorem dX8_here_32 : decode cX8_here 32 = .ok (.putfield 284, 3) := by decide +kernel
theorem dX8_here_35 : decode cX8_here 35 = .ok (.goto (-35), 3) := by decide +kernel
theorem dX8_here_38 : decode cX8_here 38 = .ok (.aload_n 0, 1) := by decide +kernel
theorem dX8_here_39 : decode cX8_here 39 = .ok (.getfield 284, 3) := by decide +kernel
theorem dX8_here_42 : decode cX8_here 42 = .ok (.aload_n 0, 1) := by decide +kernel
theorem dX8_here_43 : decode cX8_here 43 = .ok (.getfield 281, 3) := by decide +kernel
theorem dX8_here_46 : decode cX8_here 46 = .ok (.if_icmp .ge 15, 3) := by decide +kernel
theorem dX8_here_49 : decode cX8_here 49 = .ok (.aload_n 0, 1) := by decide +kernel
theorem dX8_here_50 : decode cX8_here 50 = .ok (.getfield 50, 3) := by decide +kernel
theorem dX8_here_53 : decode cX8_here 53 = .ok (.aload_n 0, 1) := by decide +kernel
theorem dX8_here_54 : decode cX8_here 54 = .ok (.getfield 284, 3) := by decide +kernel
theorem dX8_here_57 : decode cX8_here 57 = .ok (.iaload, 1) := by decide +kernel
theorem dX8_here_58 : decode cX8_here 58 = .ok (.goto 4, 3) := by decide +kernel
theorem dX8_here_61 : decode cX8_here 61 = .ok (.iconst (-1), 1) := by decide +kernel
theorem dX8_here_62 : decode cX8_here 62 = .ok (.ireturn, 1) := by decide +kernel
theorem dX8_isFigure_0 : decode cX8_isFigure 0 = .ok (.iload_n 1, 1) := by decide +kernel
theorem dX8_isFigure_1 : decode cX8_isFigure 1 = .ok (.aload_n 0, 1) := by decide +kernel
theorem dX8_isFigure_2 : decode cX8_isFigure 2 = .ok (.getfield 281, 3) := by decide +kernel
theorem dX8_isFigure_5 : decode cX8_isFigure 5 = .ok (.if_icmp .ge 26, 3) := by decide +kernel
theorem dX8_isFigure_8 : decode cX8_isFigure 8 = .ok (.aload_n 0, 1) := by decide +kernel
theorem dX8_isFigure_9 : decode cX8_isFigure 9 = .ok (.getfield 50, 3) := by decide +kernel
theorem dX8_isFigure_12 : decode cX8_isFigure 12 = .ok (.iload_n 1, 1) := by decide +kernel
theorem dX8_isFigure_13 : decode cX8_isFigure 13 = .ok (.iaload, 1) := by decide +kernel
theorem dX8_isFigure_14 : decode cX8_isFigure 14 = .ok (.i2l, 1) := by decide +kernel
theorem dX8_isFigure_15 : decode cX8_isFigure 15 = .ok (.ldc2_w 287, 3) := by decide +kernel
theorem dX8_isFigure_18 : decode cX8_isFigure 18 = .ok (.ldc2_w 289, 3) := by decide +kernel
theorem dX8_isFigure_21 : decode cX8_isFigure 21 = .ok (.invokestatic 63, 3) := by decide +kernel
theorem dX8_isFigure_24 : decode cX8_isFigure 24 = .ok (.ifCond .eq 7, 3) := by decide +kernel
theorem dX8_isFigure_27 : decode cX8_isFigure 27 = .ok (.iconst 1, 1) := by decide +kernel
theorem dX8_isFigure_28 : decode cX8_isFigure 28 = .ok (.goto 4, 3) := by decide +kernel
theorem dX8_isFigure_31 : decode cX8_isFigure 31 = .ok (.iconst 0, 1) := by decide +kernel
theorem dX8_isFigure_32 : decode cX8_isFigure 32 = .ok (.ireturn, 1) := by decide +kernel
theorem dX8_takes_0 : decode cX8_takes 0 = .ok (.aload_n 0, 1) := by decide +kernel
theorem dX8_takes_1 : decode cX8_takes 1 = .ok (.invokevirtual 291, 3) := by decide +kernel
theorem dX8_takes_4 : decode cX8_takes 4 = .ok (.bipush 45, 2) := by decide +kernel
theorem dX8_takes_6 : decode cX8_takes 6 = .ok (.if_icmp .ne 11, 3) := by decide +kernel
theorem dX8_takes_9 : decode cX8_takes 9 = .ok (.iload_n 1, 1) := by decide +kernel
theorem dX8_takes_10 : decode cX8_takes 10 = .ok (.ifCond .eq 7, 3) := by decide +kernel
theorem dX8_takes_13 : decode cX8_takes 13 = .ok (.iconst 1, 1) := by decide +kernel
theorem dX8_takes_14 : decode cX8_takes 14 = .ok (.goto 4, 3) := by decide +kernel
theorem dX8_takes_17 : decode cX8_takes 17 = .ok (.iconst 0, 1) := by decide +kernel
theorem dX8_takes_18 : decode cX8_takes 18 = .ok (.istore_n 2, 1) := by decide +kernel
theorem dX8_takes_19 : decode cX8_takes 19 = .ok (.aload_n 0, 1) := by decide +kernel
theorem dX8_takes_20 : decode cX8_takes 20 = .ok (.dup, 1) := by decide +kernel
theorem dX8_takes_21 : decode cX8_takes 21 = .ok (.getfield 284, 3) := by decide +kernel
theorem dX8_takes_24 : decode cX8_takes 24 = .ok (.iload_n 2, 1) := by decide +kernel
theorem dX8_takes_25 : decode cX8_takes 25 = .ok (.ifCond .eq 7, 3) := by decide +kernel
theorem dX8_takes_28 : decode cX8_takes 28 = .ok (.iconst 1, 1) := by decide +kernel
theorem dX8_takes_29 : decode cX8_takes 29 = .ok (.goto 4, 3) := by decide +kernel
theorem dX8_takes_32 : decode cX8_takes 32 = .ok (.iconst 0, 1) := by decide +kernel
theorem dX8_takes_33 : decode cX8_takes 33 = .ok (.iadd, 1) := by decide +kernel
theorem dX8_takes_34 : decode cX8_takes 34 = .ok (.putfield 284, 3) := by decide +kernel
theorem dX8_takes_37 : decode cX8_takes 37 = .ok (.iload_n 2, 1) := by decide +kernel
theorem dX8_takes_38 : decode cX8_takes 38 = .ok (.ifCond .eq 7, 3) := by decide +kernel
theorem dX8_takes_41 : decode cX8_takes 41 = .ok (.iconst 0, 1) := by decide +kernel
theorem dX8_takes_42 : decode cX8_takes 42 = .ok (.goto 7, 3) := by decide +kernel
theorem dX8_takes_45 : decode cX8_takes 45 = .ok (.aload_n 0, 1) := by decide +kernel
theorem dX8_takes_46 : decode cX8_takes 46 = .ok (.invokevirtual 291, 3) := by decide +kernel
theorem dX8_takes_49 : decode cX8_takes 49 = .ok (.istore_n 3, 1) := by decide +kernel
theorem dX8_takes_50 : decode cX8_takes 50 = .ok (.iconst 0, 1) := by decide +kernel
theorem dX8_takes_51 : decode cX8_takes 51 = .ok (.istore 4, 2) := by decide +kernel
theorem dX8_takes_53 : decode cX8_takes 53 = .ok (.aload_n 0, 1) := by decide +kernel
theorem dX8_takes_54 : decode cX8_takes 54 = .ok (.iconst 0, 1) := by decide +kernel
theorem dX8_takes_55 : decode cX8_takes 55 = .ok (.putfield 294, 3) := by decide +kernel
theorem dX8_takes_58 : decode cX8_takes 58 = .ok (.aload_n 0, 1) := by decide +kernel
theorem dX8_takes_59 : decode cX8_takes 59 = .ok (.aload_n 0, 1) := by decide +kernel
theorem dX8_takes_60 : decode cX8_takes 60 = .ok (.getfield 284, 3) := by decide +kernel
theorem dX8_takes_63 : decode cX8_takes 63 = .ok (.invokevirtual 297, 3) := by decide +kernel
theorem dX8_takes_66 : decode cX8_takes 66 = .ok (.ifCond .eq 50, 3) := by decide +kernel
theorem dX8_takes_69 : decode cX8_takes 69 = .ok (.iload 4, 2) := by decide +kernel
theorem dX8_takes_71 : decode cX8_takes 71 = .ok (.bipush 6, 2) := by decide +kernel
theorem dX8_takes_73 : decode cX8_takes 73 = .ok (.if_icmp .ge 43, 3) := by decide +kernel
theorem dX8_takes_76 : decode cX8_takes 76 = .ok (.aload_n 0, 1) := by decide +kernel
theorem dX8_takes_77 : decode cX8_takes 77 = .ok (.bipush 10, 2) := by decide +kernel
theorem dX8_takes_79 : decode cX8_takes 79 = .ok (.aload_n 0, 1) := by decide +kernel
theorem dX8_takes_80 : decode cX8_takes 80 = .ok (.getfield 294, 3) := by decide +kernel
theorem dX8_takes_83 : decode cX8_takes 83 = .ok (.imul, 1) := by decide +kernel
theorem dX8_takes_84 : decode cX8_takes 84 = .ok (.aload_n 0, 1) := by decide +kernel
theorem dX8_takes_85 : decode cX8_takes 85 = .ok (.getfield 50, 3) := by decide +kernel
theorem dX8_takes_88 : decode cX8_takes 88 = .ok (.aload_n 0, 1) := by decide +kernel
theorem dX8_takes_89 : decode cX8_takes 89 = .ok (.getfield 284, 3) := by decide +kernel
theorem dX8_takes_92 : decode cX8_takes 92 = .ok (.iaload, 1) := by decide +kernel
theorem dX8_takes_93 : decode cX8_takes 93 = .ok (.iadd, 1) := by decide +kernel
theorem dX8_takes_94 : decode cX8_takes 94 = .ok (.bipush 48, 2) := by decide +kernel
theorem dX8_takes_96 : decode cX8_takes 96 = .ok (.isub, 1) := by decide +kernel
theorem dX8_takes_97 : decode cX8_takes 97 = .ok (.putfield 294, 3) := by decide +kernel
theorem dX8_takes_100 : decode cX8_takes 100 = .ok (.aload_n 0, 1) := by decide +kernel
theorem dX8_takes_101 : decode cX8_takes 101 = .ok (.dup, 1) := by decide +kernel
theorem dX8_takes_102 : decode cX8_takes 102 = .ok (.getfield 284, 3) := by decide +kernel
theorem dX8_takes_105 : decode cX8_takes 105 = .ok (.iconst 1, 1) := by decide +kernel
theorem dX8_takes_106 : decode cX8_takes 106 = .ok (.iadd, 1) := by decide +kernel
theorem dX8_takes_107 : decode cX8_takes 107 = .ok (.putfield 284, 3) := by decide +kernel
theorem dX8_takes_110 : decode cX8_takes 110 = .ok (.iinc 4 1, 3) := by decide +kernel
theorem dX8_takes_113 : decode cX8_takes 113 = .ok (.goto (-55), 3) := by decide +kernel
theorem dX8_takes_116 : decode cX8_takes 116 = .ok (.aload_n 0, 1) := by decide +kernel
theorem dX8_takes_117 : decode cX8_takes 117 = .ok (.iload_n 2, 1) := by decide +kernel
theorem dX8_takes_118 : decode cX8_takes 118 = .ok (.ifCond .eq 11, 3) := by decide +kernel
theorem dX8_takes_121 : decode cX8_takes 121 = .ok (.aload_n 0, 1) := by decide +kernel
theorem dX8_takes_122 : decode cX8_takes 122 = .ok (.getfield 294, 3) := by decide +kernel
theorem dX8_takes_125 : decode cX8_takes 125 = .ok (.ineg, 1) := by decide +kernel
theorem dX8_takes_126 : decode cX8_takes 126 = .ok (.goto 7, 3) := by decide +kernel
theorem dX8_takes_129 : decode cX8_takes 129 = .ok (.aload_n 0, 1) := by decide +kernel
theorem dX8_takes_130 : decode cX8_takes 130 = .ok (.getfield 294, 3) := by decide +kernel
theorem dX8_takes_133 : decode cX8_takes 133 = .ok (.putfield 294, 3) := by decide +kernel
theorem dX8_takes_136 : decode cX8_takes 136 = .ok (.iload_n 3, 1) := by decide +kernel
theorem dX8_takes_137 : decode cX8_takes 137 = .ok (.iconst (-1), 1) := by decide +kernel
theorem dX8_takes_138 : decode cX8_takes 138 = .ok (.if_icmp .eq 23, 3) := by decide +kernel
theorem dX8_takes_141 : decode cX8_takes 141 = .ok (.iload 4, 2) := by decide +kernel
theorem dX8_takes_143 : decode cX8_takes 143 = .ok (.ifCond .le 18, 3) := by decide +kernel
theorem dX8_takes_146 : decode cX8_takes 146 = .ok (.aload_n 0, 1) := by decide +kernel
theorem dX8_takes_147 : decode cX8_takes 147 = .ok (.aload_n 0, 1) := by decide +kernel
theorem dX8_takes_148 : decode cX8_takes 148 = .ok (.getfield 284, 3) := by decide +kernel
theorem dX8_takes_151 : decode cX8_takes 151 = .ok (.invokevirtual 297, 3) := by decide +kernel
theorem dX8_takes_154 : decode cX8_takes 154 = .ok (.ifCond .ne 7, 3) := by decide +kernel
theorem dX8_takes_157 : decode cX8_takes 157 = .ok (.iconst 1, 1) := by decide +kernel
theorem dX8_takes_158 : decode cX8_takes 158 = .ok (.goto 4, 3) := by decide +kernel
theorem dX8_takes_161 : decode cX8_takes 161 = .ok (.iconst 0, 1) := by decide +kernel
theorem dX8_takes_162 : decode cX8_takes 162 = .ok (.ireturn, 1) := by decide +kernel
theorem dX8_takesAll_0 : decode cX8_takesAll 0 = .ok (.iconst 0, 1) := by decide +kernel
theorem dX8_takesAll_1 : decode cX8_takesAll 1 = .ok (.istore_n 3, 1) := by decide +kernel
theorem dX8_takesAll_2 : decode cX8_takesAll 2 = .ok (.iload_n 3, 1) := by decide +kernel
theorem dX8_takesAll_3 : decode cX8_takesAll 3 = .ok (.iload_n 1, 1) := by decide +kernel
theorem dX8_takesAll_4 : decode cX8_takesAll 4 = .ok (.if_icmp .ge 38, 3) := by decide +kernel
theorem dX8_takesAll_7 : decode cX8_takesAll 7 = .ok (.aload_n 0, 1) := by decide +kernel
theorem dX8_takesAll_8 : decode cX8_takesAll 8 = .ok (.iload_n 3, 1) := by decide +kernel
theorem dX8_takesAll_9 : decode cX8_takesAll 9 = .ok (.iload_n 2, 1) := by decide +kernel
theorem dX8_takesAll_10 : decode cX8_takesAll 10 = .ok (.if_icmp .ne 7, 3) := by decide +kernel
theorem dX8_takesAll_13 : decode cX8_takesAll 13 = .ok (.iconst 1, 1) := by decide +kernel
theorem dX8_takesAll_14 : decode cX8_takesAll 14 = .ok (.goto 4, 3) := by decide +kernel
theorem dX8_takesAll_17 : decode cX8_takesAll 17 = .ok (.iconst 0, 1) := by decide +kernel
theorem dX8_takesAll_18 : decode cX8_takesAll 18 = .ok (.invokevirtual 300, 3) := by decide +kernel
theorem dX8_takesAll_21 : decode cX8_takesAll 21 = .ok (.ifCond .ne 5, 3) := by decide +kernel
theorem dX8_takesAll_24 : decode cX8_takesAll 24 = .ok (.iconst 0, 1) := by decide +kernel
theorem dX8_takesAll_25 : decode cX8_takesAll 25 = .ok (.ireturn, 1) := by decide +kernel
theorem dX8_takesAll_26 : decode cX8_takesAll 26 = .ok (.aload_n 0, 1) := by decide +kernel
theorem dX8_takesAll_27 : decode cX8_takesAll 27 = .ok (.getfield 53, 3) := by decide +kernel
theorem dX8_takesAll_30 : decode cX8_takesAll 30 = .ok (.iload_n 3, 1) := by decide +kernel
theorem dX8_takesAll_31 : decode cX8_takesAll 31 = .ok (.aload_n 0, 1) := by decide +kernel
theorem dX8_takesAll_32 : decode cX8_takesAll 32 = .ok (.getfield 294, 3) := by decide +kernel
theorem dX8_takesAll_35 : decode cX8_takesAll 35 = .ok (.iastore, 1) := by decide +kernel
theorem dX8_takesAll_36 : decode cX8_takesAll 36 = .ok (.iinc 3 1, 3) := by decide +kernel
theorem dX8_takesAll_39 : decode cX8_takesAll 39 = .ok (.goto (-37), 3) := by decide +kernel
theorem dX8_takesAll_42 : decode cX8_takesAll 42 = .ok (.iconst 1, 1) := by decide +kernel
theorem dX8_takesAll_43 : decode cX8_takesAll 43 = .ok (.ireturn, 1) := by decide +kernel
theorem dX8_numbersOf_0 : decode cX8_numbersOf 0 = .ok (.iload_n 0, 1) := by decide +kernel
theorem dX8_numbersOf_1 : decode cX8_numbersOf 1 = .ok (.bipush 119, 2) := by decide +kernel
theorem dX8_numbersOf_3 : decode cX8_numbersOf 3 = .ok (.if_icmp .ne 7, 3) := by decide +kernel
theorem dX8_numbersOf_6 : decode cX8_numbersOf 6 = .ok (.iconst 2, 1) := by decide +kernel
theorem dX8_numbersOf_7 : decode cX8_numbersOf 7 = .ok (.goto 30, 3) := by decide +kernel
theorem dX8_numbersOf_10 : decode cX8_numbersOf 10 = .ok (.iload_n 0, 1) := by decide +kernel
theorem dX8_numbersOf_11 : decode cX8_numbersOf 11 = .ok (.bipush 115, 2) := by decide +kernel
theorem dX8_numbersOf_13 : decode cX8_numbersOf 13 = .ok (.if_icmp .eq 9, 3) := by decide +kernel
theorem dX8_numbersOf_16 : decode cX8_numbersOf 16 = .ok (.iload_n 0, 1) := by decide +kernel
theorem dX8_numbersOf_17 : decode cX8_numbersOf 17 = .ok (.bipush 99, 2) := by decide +kernel
theorem dX8_numbersOf_19 : decode cX8_numbersOf 19 = .ok (.if_icmp .ne 7, 3) := by decide +kernel
theorem dX8_numbersOf_22 : decode cX8_numbersOf 22 = .ok (.iconst 3, 1) := by decide +kernel
theorem dX8_numbersOf_23 : decode cX8_numbersOf 23 = .ok (.goto 14, 3) := by decide +kernel
theorem dX8_numbersOf_26 : decode cX8_numbersOf 26 = .ok (.iload_n 0, 1) := by decide +kernel
theorem dX8_numbersOf_27 : decode cX8_numbersOf 27 = .ok (.bipush 112, 2) := by decide +kernel
theorem dX8_numbersOf_29 : decode cX8_numbersOf 29 = .ok (.if_icmp .ne 7, 3) := by decide +kernel
theorem dX8_numbersOf_32 : decode cX8_numbersOf 32 = .ok (.iconst 4, 1) := by decide +kernel
theorem dX8_numbersOf_33 : decode cX8_numbersOf 33 = .ok (.goto 4, 3) := by decide +kernel
theorem dX8_numbersOf_36 : decode cX8_numbersOf 36 = .ok (.iconst 1, 1) := by decide +kernel
theorem dX8_numbersOf_37 : decode cX8_numbersOf 37 = .ok (.ireturn, 1) := by decide +kernel
theorem dX8_can_0 : decode cX8_can 0 = .ok (.aload_n 0, 1) := by decide +kernel
theorem dX8_can_1 : decode cX8_can 1 = .ok (.getfield 53, 3) := by decide +kernel
theorem dX8_can_4 : decode cX8_can 4 = .ok (.iconst 0, 1) := by decide +kernel
theorem dX8_can_5 : decode cX8_can 5 = .ok (.iaload, 1) := by decide +kernel
theorem dX8_can_6 : decode cX8_can 6 = .ok (.istore_n 2, 1) := by decide +kernel
theorem dX8_can_7 : decode cX8_can 7 = .ok (.aload_n 0, 1) := by decide +kernel
theorem dX8_can_8 : decode cX8_can 8 = .ok (.getfield 53, 3) := by decide +kernel
theorem dX8_can_11 : decode cX8_can 11 = .ok (.iconst 1, 1) := by decide +kernel
theorem dX8_can_12 : decode cX8_can 12 = .ok (.iaload, 1) := by decide +kernel
theorem dX8_can_13 : decode cX8_can 13 = .ok (.istore_n 3, 1) := by decide +kernel
theorem dX8_can_14 : decode cX8_can 14 = .ok (.iload_n 1, 1) := by decide +kernel
theorem dX8_can_15 : decode cX8_can 15 = .ok (.lookupswitch 193 #[(97, 178), (99, 130), (112, 85), (115, 72), (116, 163), (119, 57)], 57) := by decide +kernel
theorem dX8_can_72 : decode cX8_can 72 = .ok (.iload_n 2, 1) := by decide +kernel
theorem dX8_can_73 : decode cX8_can 73 = .ok (.iload_n 3, 1) := by decide +kernel
theorem dX8_can_74 : decode cX8_can 74 = .ok (.invokestatic 87, 3) := by decide +kernel
theorem dX8_can_77 : decode cX8_can 77 = .ok (.ifCond .eq 7, 3) := by decide +kernel
theorem dX8_can_80 : decode cX8_can 80 = .ok (.iconst 0, 1) := by decide +kernel
theorem dX8_can_81 : decode cX8_can 81 = .ok (.goto 5, 3) := by decide +kernel
theorem dX8_can_84 : decode cX8_can 84 = .ok (.bipush (-2), 2) := by decide +kernel
theorem dX8_can_86 : decode cX8_can 86 = .ok (.ireturn, 1) := by decide +kernel
theorem dX8_can_87 : decode cX8_can 87 = .ok (.aload_n 0, 1) := by decide +kernel
theorem dX8_can_88 : decode cX8_can 88 = .ok (.iload_n 2, 1) := by decide +kernel
theorem dX8_can_89 : decode cX8_can 89 = .ok (.iload_n 3, 1) := by decide +kernel
theorem dX8_can_90 : decode cX8_can 90 = .ok (.aload_n 0, 1) := by decide +kernel
theorem dX8_can_91 : decode cX8_can 91 = .ok (.getfield 53, 3) := by decide +kernel
theorem dX8_can_94 : decode cX8_can 94 = .ok (.iconst 2, 1) := by decide +kernel
theorem dX8_can_95 : decode cX8_can 95 = .ok (.iaload, 1) := by decide +kernel
theorem dX8_can_96 : decode cX8_can 96 = .ok (.invokevirtual 121, 3) := by decide +kernel
theorem dX8_can_99 : decode cX8_can 99 = .ok (.ireturn, 1) := by decide +kernel
theorem dX8_can_100 : decode cX8_can 100 = .ok (.aload_n 0, 1) := by decide +kernel
theorem dX8_can_101 : decode cX8_can 101 = .ok (.iload_n 2, 1) := by decide +kernel
theorem dX8_can_102 : decode cX8_can 102 = .ok (.invokevirtual 128, 3) := by decide +kernel
theorem dX8_can_105 : decode cX8_can 105 = .ok (.ifCond .eq 37, 3) := by decide +kernel
theorem dX8_can_108 : decode cX8_can 108 = .ok (.iload_n 3, 1) := by decide +kernel
theorem dX8_can_109 : decode cX8_can 109 = .ok (.aload_n 0, 1) := by decide +kernel
theorem dX8_can_110 : decode cX8_can 110 = .ok (.getfield 53, 3) := by decide +kernel
theorem dX8_can_113 : decode cX8_can 113 = .ok (.iconst 2, 1) := by decide +kernel
theorem dX8_can_114 : decode cX8_can 114 = .ok (.iaload, 1) := by decide +kernel
theorem dX8_can_115 : decode cX8_can 115 = .ok (.invokestatic 132, 3) := by decide +kernel
theorem dX8_can_118 : decode cX8_can 118 = .ok (.ifCond .eq 24, 3) := by decide +kernel
theorem dX8_can_121 : decode cX8_can 121 = .ok (.aload_n 0, 1) := by decide +kernel
theorem dX8_can_122 : decode cX8_can 122 = .ok (.getfield 53, 3) := by decide +kernel
theorem dX8_can_125 : decode cX8_can 125 = .ok (.iconst 3, 1) := by decide +kernel
theorem dX8_can_126 : decode cX8_can 126 = .ok (.iaload, 1) := by decide +kernel
theorem dX8_can_127 : decode cX8_can 127 = .ok (.i2l, 1) := by decide +kernel
theorem dX8_can_128 : decode cX8_can 128 = .ok (.lconst 0, 1) := by decide +kernel
theorem dX8_can_129 : decode cX8_can 129 = .ok (.ldc2_w 107, 3) := by decide +kernel
theorem dX8_can_132 : decode cX8_can 132 = .ok (.invokestatic 63, 3) := by decide +kernel
theorem dX8_can_135 : decode cX8_can 135 = .ok (.ifCond .eq 7, 3) := by decide +kernel
theorem dX8_can_138 : decode cX8_can 138 = .ok (.iconst 0, 1) := by decide +kernel
theorem dX8_can_139 : decode cX8_can 139 = .ok (.goto 5, 3) := by decide +kernel
theorem dX8_can_142 : decode cX8_can 142 = .ok (.bipush (-2), 2) := by decide +kernel
theorem dX8_can_144 : decode cX8_can 144 = .ok (.ireturn, 1) := by decide +kernel
theorem dX8_can_145 : decode cX8_can 145 = .ok (.aload_n 0, 1) := by decide +kernel
theorem dX8_can_146 : decode cX8_can 146 = .ok (.iload_n 2, 1) := by decide +kernel
theorem dX8_can_147 : decode cX8_can 147 = .ok (.iload_n 3, 1) := by decide +kernel
theorem dX8_can_148 : decode cX8_can 148 = .ok (.invokevirtual 104, 3) := by decide +kernel
theorem dX8_can_151 : decode cX8_can 151 = .ok (.ifCond .eq 24, 3) := by decide +kernel
theorem dX8_can_154 : decode cX8_can 154 = .ok (.aload_n 0, 1) := by decide +kernel
theorem dX8_can_155 : decode cX8_can 155 = .ok (.getfield 53, 3) := by decide +kernel
theorem dX8_can_158 : decode cX8_can 158 = .ok (.iconst 2, 1) := by decide +kernel
theorem dX8_can_159 : decode cX8_can 159 = .ok (.iaload, 1) := by decide +kernel
theorem dX8_can_160 : decode cX8_can 160 = .ok (.i2l, 1) := by decide +kernel
theorem dX8_can_161 : decode cX8_can 161 = .ok (.lconst 0, 1) := by decide +kernel
theorem dX8_can_162 : decode cX8_can 162 = .ok (.ldc2_w 107, 3) := by decide +kernel
theorem dX8_can_165 : decode cX8_can 165 = .ok (.invokestatic 63, 3) := by decide +kernel
theorem dX8_can_168 : decode cX8_can 168 = .ok (.ifCond .eq 7, 3) := by decide +kernel
theorem dX8_can_171 : decode cX8_can 171 = .ok (.iconst 0, 1) := by decide +kernel
theorem dX8_can_172 : decode cX8_can 172 = .ok (.goto 5, 3) := by decide +kernel
theorem dX8_can_175 : decode cX8_can 175 = .ok (.bipush (-2), 2) := by decide +kernel
theorem dX8_can_177 : decode cX8_can 177 = .ok (.ireturn, 1) := by decide +kernel
theorem dX8_can_178 : decode cX8_can 178 = .ok (.iconst 0, 1) := by decide +kernel
theorem dX8_can_179 : decode cX8_can 179 = .ok (.iload_n 2, 1) := by decide +kernel
theorem dX8_can_180 : decode cX8_can 180 = .ok (.invokestatic 140, 3) := by decide +kernel
theorem dX8_can_183 : decode cX8_can 183 = .ok (.ifCond .eq 7, 3) := by decide +kernel
theorem dX8_can_186 : decode cX8_can 186 = .ok (.iconst 0, 1) := by decide +kernel
theorem dX8_can_187 : decode cX8_can 187 = .ok (.goto 5, 3) := by decide +kernel
theorem dX8_can_190 : decode cX8_can 190 = .ok (.bipush (-2), 2) := by decide +kernel
theorem dX8_can_192 : decode cX8_can 192 = .ok (.ireturn, 1) := by decide +kernel
theorem dX8_can_193 : decode cX8_can 193 = .ok (.iconst 1, 1) := by decide +kernel
theorem dX8_can_194 : decode cX8_can 194 = .ok (.iload_n 2, 1) := by decide +kernel
theorem dX8_can_195 : decode cX8_can 195 = .ok (.invokestatic 140, 3) := by decide +kernel
theorem dX8_can_198 : decode cX8_can 198 = .ok (.ifCond .eq 7, 3) := by decide +kernel
theorem dX8_can_201 : decode cX8_can 201 = .ok (.iconst 0, 1) := by decide +kernel
theorem dX8_can_202 : decode cX8_can 202 = .ok (.goto 5, 3) := by decide +kernel
theorem dX8_can_205 : decode cX8_can 205 = .ok (.bipush (-2), 2) := by decide +kernel
theorem dX8_can_207 : decode cX8_can 207 = .ok (.ireturn, 1) := by decide +kernel
theorem dX8_can_208 : decode cX8_can 208 = .ok (.aload_n 0, 1) := by decide +kernel
theorem dX8_can_209 : decode cX8_can 209 = .ok (.iload_n 2, 1) := by decide +kernel
theorem dX8_can_210 : decode cX8_can 210 = .ok (.invokevirtual 128, 3) := by decide +kernel
theorem dX8_can_213 : decode cX8_can 213 = .ok (.ifCond .eq 7, 3) := by decide +kernel
theorem dX8_can_216 : decode cX8_can 216 = .ok (.iconst 0, 1) := by decide +kernel
theorem dX8_can_217 : decode cX8_can 217 = .ok (.goto 5, 3) := by decide +kernel
theorem dX8_can_220 : decode cX8_can 220 = .ok (.bipush (-2), 2) := by decide +kernel
theorem dX8_can_222 : decode cX8_can 222 = .ok (.ireturn, 1) := by decide +kernel
theorem dX8_does_0 : decode cX8_does 0 = .ok (.aload_n 0, 1) := by decide +kernel
theorem dX8_does_1 : decode cX8_does 1 = .ok (.getfield 53, 3) := by decide +kernel
theorem dX8_does_4 : decode cX8_does 4 = .ok (.iconst 0, 1) := by decide +kernel
theorem dX8_does_5 : decode cX8_does 5 = .ok (.iaload, 1) := by decide +kernel
theorem dX8_does_6 : decode cX8_does 6 = .ok (.istore_n 2, 1) := by decide +kernel
theorem dX8_does_7 : decode cX8_does 7 = .ok (.aload_n 0, 1) := by decide +kernel
theorem dX8_does_8 : decode cX8_does 8 = .ok (.getfield 53, 3) := by decide +kernel
theorem dX8_does_11 : decode cX8_does 11 = .ok (.iconst 1, 1) := by decide +kernel
theorem dX8_does_12 : decode cX8_does 12 = .ok (.iaload, 1) := by decide +kernel
theorem dX8_does_13 : decode cX8_does 13 = .ok (.istore_n 3, 1) := by decide +kernel
theorem dX8_does_14 : decode cX8_does 14 = .ok (.iload_n 1, 1) := by decide +kernel
theorem dX8_does_15 : decode cX8_does 15 = .ok (.bipush 119, 2) := by decide +kernel
theorem dX8_does_17 : decode cX8_does 17 = .ok (.if_icmp .ne 12, 3) := by decide +kernel
theorem dX8_does_20 : decode cX8_does 20 = .ok (.aload_n 0, 1) := by decide +kernel
theorem dX8_does_21 : decode cX8_does 21 = .ok (.iload_n 2, 1) := by decide +kernel
theorem dX8_does_22 : decode cX8_does 22 = .ok (.iload_n 3, 1) := by decide +kernel
theorem dX8_does_23 : decode cX8_does 23 = .ok (.invokevirtual 98, 3) := by decide +kernel
theorem dX8_does_26 : decode cX8_does 26 = .ok (.goto 39, 3) := by decide +kernel
theorem dX8_does_29 : decode cX8_does 29 = .ok (.iload_n 1, 1) := by decide +kernel
theorem dX8_does_30 : decode cX8_does 30 = .ok (.bipush 115, 2) := by decide +kernel
theorem dX8_does_32 : decode cX8_does 32 = .ok (.if_icmp .ne 18, 3) := by decide +kernel
theorem dX8_does_35 : decode cX8_does 35 = .ok (.aload_n 0, 1) := by decide +kernel
theorem dX8_does_36 : decode cX8_does 36 = .ok (.iload_n 2, 1) := by decide +kernel
theorem dX8_does_37 : decode cX8_does 37 = .ok (.iload_n 3, 1) := by decide +kernel
theorem dX8_does_38 : decode cX8_does 38 = .ok (.aload_n 0, 1) := by decide +kernel
theorem dX8_does_39 : decode cX8_does 39 = .ok (.getfield 53, 3) := by decide +kernel
theorem dX8_does_42 : decode cX8_does 42 = .ok (.iconst 2, 1) := by decide +kernel
theorem dX8_does_43 : decode cX8_does 43 = .ok (.iaload, 1) := by decide +kernel
theorem dX8_does_44 : decode cX8_does 44 = .ok (.invokevirtual 125, 3) := by decide +kernel
theorem dX8_does_47 : decode cX8_does 47 = .ok (.goto 18, 3) := by decide +kernel
theorem dX8_does_50 : decode cX8_does 50 = .ok (.iload_n 1, 1) := by decide +kernel
theorem dX8_does_51 : decode cX8_does 51 = .ok (.bipush 120, 2) := by decide +kernel
theorem dX8_does_53 : decode cX8_does 53 = .ok (.if_icmp .ne 11, 3) := by decide +kernel
theorem dX8_does_56 : decode cX8_does 56 = .ok (.aload_n 0, 1) := by decide +kernel
theorem dX8_does_57 : decode cX8_does 57 = .ok (.iload_n 2, 1) := by decide +kernel
theorem dX8_does_58 : decode cX8_does 58 = .ok (.invokevirtual 135, 3) := by decide +kernel
theorem dX8_does_61 : decode cX8_does 61 = .ok (.goto 4, 3) := by decide +kernel
theorem dX8_does_64 : decode cX8_does 64 = .ok (.iconst 0, 1) := by decide +kernel
theorem dX8_does_65 : decode cX8_does 65 = .ok (.istore 4, 2) := by decide +kernel
theorem dX8_does_67 : decode cX8_does 67 = .ok (.iload_n 1, 1) := by decide +kernel
theorem dX8_does_68 : decode cX8_does 68 = .ok (.bipush 112, 2) := by decide +kernel
theorem dX8_does_70 : decode cX8_does 70 = .ok (.if_icmp .ne 37, 3) := by decide +kernel
theorem dX8_does_73 : decode cX8_does 73 = .ok (.aload_n 0, 1) := by decide +kernel
theorem dX8_does_74 : decode cX8_does 74 = .ok (.getfield 7, 3) := by decide +kernel
theorem dX8_does_77 : decode cX8_does 77 = .ok (.sipush 196, 3) := by decide +kernel
theorem dX8_does_80 : decode cX8_does 80 = .ok (.bipush 35, 2) := by decide +kernel
theorem dX8_does_82 : decode cX8_does 82 = .ok (.iload_n 2, 1) := by decide +kernel
theorem dX8_does_83 : decode cX8_does 83 = .ok (.imul, 1) := by decide +kernel
theorem dX8_does_84 : decode cX8_does 84 = .ok (.iadd, 1) := by decide +kernel
theorem dX8_does_85 : decode cX8_does 85 = .ok (.bipush 8, 2) := by decide +kernel
theorem dX8_does_87 : decode cX8_does 87 = .ok (.iload_n 3, 1) := by decide +kernel
theorem dX8_does_88 : decode cX8_does 88 = .ok (.imul, 1) := by decide +kernel
theorem dX8_does_89 : decode cX8_does 89 = .ok (.iadd, 1) := by decide +kernel
theorem dX8_does_90 : decode cX8_does 90 = .ok (.aload_n 0, 1) := by decide +kernel
theorem dX8_does_91 : decode cX8_does 91 = .ok (.getfield 53, 3) := by decide +kernel
theorem dX8_does_94 : decode cX8_does 94 = .ok (.iconst 2, 1) := by decide +kernel
theorem dX8_does_95 : decode cX8_does 95 = .ok (.iaload, 1) := by decide +kernel
theorem dX8_does_96 : decode cX8_does 96 = .ok (.iadd, 1) := by decide +kernel
theorem dX8_does_97 : decode cX8_does 97 = .ok (.aload_n 0, 1) := by decide +kernel
theorem dX8_does_98 : decode cX8_does 98 = .ok (.getfield 53, 3) := by decide +kernel
theorem dX8_does_101 : decode cX8_does 101 = .ok (.iconst 3, 1) := by decide +kernel
theorem dX8_does_102 : decode cX8_does 102 = .ok (.iaload, 1) := by decide +kernel
theorem dX8_does_103 : decode cX8_does 103 = .ok (.iastore, 1) := by decide +kernel
theorem dX8_does_104 : decode cX8_does 104 = .ok (.goto 60, 3) := by decide +kernel
theorem dX8_does_107 : decode cX8_does 107 = .ok (.iload_n 1, 1) := by decide +kernel
theorem dX8_does_108 : decode cX8_does 108 = .ok (.bipush 99, 2) := by decide +kernel
theorem dX8_does_110 : decode cX8_does 110 = .ok (.if_icmp .ne 25, 3) := by decide +kernel
theorem dX8_does_113 : decode cX8_does 113 = .ok (.aload_n 0, 1) := by decide +kernel
theorem dX8_does_114 : decode cX8_does 114 = .ok (.getfield 7, 3) := by decide +kernel
theorem dX8_does_117 : decode cX8_does 117 = .ok (.iconst 4, 1) := by decide +kernel
theorem dX8_does_118 : decode cX8_does 118 = .ok (.bipush 32, 2) := by decide +kernel
theorem dX8_does_120 : decode cX8_does 120 = .ok (.iload_n 2, 1) := by decide +kernel
theorem dX8_does_121 : decode cX8_does 121 = .ok (.imul, 1) := by decide +kernel
theorem dX8_does_122 : decode cX8_does 122 = .ok (.iadd, 1) := by decide +kernel
theorem dX8_does_123 : decode cX8_does 123 = .ok (.iload_n 3, 1) := by decide +kernel
theorem dX8_does_124 : decode cX8_does 124 = .ok (.iadd, 1) := by decide +kernel
theorem dX8_does_125 : decode cX8_does 125 = .ok (.aload_n 0, 1) := by decide +kernel
theorem dX8_does_126 : decode cX8_does 126 = .ok (.getfield 53, 3) := by decide +kernel
theorem dX8_does_129 : decode cX8_does 129 = .ok (.iconst 2, 1) := by decide +kernel
theorem dX8_does_130 : decode cX8_does 130 = .ok (.iaload, 1) := by decide +kernel
theorem dX8_does_131 : decode cX8_does 131 = .ok (.iastore, 1) := by decide +kernel
theorem dX8_does_132 : decode cX8_does 132 = .ok (.goto 32, 3) := by decide +kernel
theorem dX8_does_135 : decode cX8_does 135 = .ok (.iload_n 1, 1) := by decide +kernel
theorem dX8_does_136 : decode cX8_does 136 = .ok (.bipush 116, 2) := by decide +kernel
theorem dX8_does_138 : decode cX8_does 138 = .ok (.if_icmp .eq 9, 3) := by decide +kernel
theorem dX8_does_141 : decode cX8_does 141 = .ok (.iload_n 1, 1) := by decide +kernel
theorem dX8_does_142 : decode cX8_does 142 = .ok (.bipush 97, 2) := by decide +kernel
theorem dX8_does_144 : decode cX8_does 144 = .ok (.if_icmp .ne 20, 3) := by decide +kernel
theorem dX8_does_147 : decode cX8_does 147 = .ok (.aload_n 0, 1) := by decide +kernel
theorem dX8_does_148 : decode cX8_does 148 = .ok (.getfield 7, 3) := by decide +kernel
theorem dX8_does_151 : decode cX8_does 151 = .ok (.iload_n 1, 1) := by decide +kernel
theorem dX8_does_152 : decode cX8_does 152 = .ok (.bipush 116, 2) := by decide +kernel
theorem dX8_does_154 : decode cX8_does 154 = .ok (.if_icmp .ne 7, 3) := by decide +kernel
theorem dX8_does_157 : decode cX8_does 157 = .ok (.iconst 1, 1) := by decide +kernel
theorem dX8_does_158 : decode cX8_does 158 = .ok (.goto 4, 3) := by decide +kernel
theorem dX8_does_161 : decode cX8_does 161 = .ok (.iconst 2, 1) := by decide +kernel
theorem dX8_does_162 : decode cX8_does 162 = .ok (.iload_n 2, 1) := by decide +kernel
theorem dX8_does_163 : decode cX8_does 163 = .ok (.iastore, 1) := by decide +kernel
theorem dX8_does_164 : decode cX8_does 164 = .ok (.return_, 1) := by decide +kernel
theorem dX8_readsOrder_0 : decode cX8_readsOrder 0 = .ok (.aload_n 0, 1) := by decide +kernel
theorem dX8_readsOrder_1 : decode cX8_readsOrder 1 = .ok (.invokevirtual 291, 3) := by decide +kernel
theorem dX8_readsOrder_4 : decode cX8_readsOrder 4 = .ok (.istore_n 2, 1) := by decide +kernel
theorem dX8_readsOrder_5 : decode cX8_readsOrder 5 = .ok (.iload_n 2, 1) := by decide +kernel
theorem dX8_readsOrder_6 : decode cX8_readsOrder 6 = .ok (.bipush 119, 2) := by decide +kernel
theorem dX8_readsOrder_8 : decode cX8_readsOrder 8 = .ok (.if_icmp .eq 41, 3) := by decide +kernel
theorem dX8_readsOrder_11 : decode cX8_readsOrder 11 = .ok (.iload_n 2, 1) := by decide +kernel
theorem dX8_readsOrder_12 : decode cX8_readsOrder 12 = .ok (.bipush 115, 2) := by decide +kernel
theorem dX8_readsOrder_14 : decode cX8_readsOrder 14 = .ok (.if_icmp .eq 35, 3) := by decide +kernel
theorem dX8_readsOrder_17 : decode cX8_readsOrder 17 = .ok (.iload_n 2, 1) := by decide +kernel
theorem dX8_readsOrder_18 : decode cX8_readsOrder 18 = .ok (.bipush 112, 2) := by decide +kernel
theorem dX8_readsOrder_20 : decode cX8_readsOrder 20 = .ok (.if_icmp .eq 29, 3) := by decide +kernel
theorem dX8_readsOrder_23 : decode cX8_readsOrder 23 = .ok (.iload_n 2, 1) := by decide +kernel
theorem dX8_readsOrder_24 : decode cX8_readsOrder 24 = .ok (.bipush 99, 2) := by decide +kernel
theorem dX8_readsOrder_26 : decode cX8_readsOrder 26 = .ok (.if_icmp .eq 23, 3) := by decide +kernel
theorem dX8_readsOrder_29 : decode cX8_readsOrder 29 = .ok (.iload_n 2, 1) := by decide +kernel
theorem dX8_readsOrder_30 : decode cX8_readsOrder 30 = .ok (.bipush 116, 2) := by decide +kernel
theorem dX8_readsOrder_32 : decode cX8_readsOrder 32 = .ok (.if_icmp .eq 17, 3) := by decide +kernel
theorem dX8_readsOrder_35 : decode cX8_readsOrder 35 = .ok (.iload_n 2, 1) := by decide +kernel
theorem dX8_readsOrder_36 : decode cX8_readsOrder 36 = .ok (.bipush 97, 2) := by decide +kernel
theorem dX8_readsOrder_38 : decode cX8_readsOrder 38 = .ok (.if_icmp .eq 11, 3) := by decide +kernel
theorem dX8_readsOrder_41 : decode cX8_readsOrder 41 = .ok (.iload_n 2, 1) := by decide +kernel
theorem dX8_readsOrder_42 : decode cX8_readsOrder 42 = .ok (.bipush 120, 2) := by decide +kernel
theorem dX8_readsOrder_44 : decode cX8_readsOrder 44 = .ok (.if_icmp .eq 5, 3) := by decide +kernel
theorem dX8_readsOrder_47 : decode cX8_readsOrder 47 = .ok (.iconst 0, 1) := by decide +kernel
theorem dX8_readsOrder_48 : decode cX8_readsOrder 48 = .ok (.ireturn, 1) := by decide +kernel
theorem dX8_readsOrder_49 : decode cX8_readsOrder 49 = .ok (.aload_n 0, 1) := by decide +kernel
theorem dX8_readsOrder_50 : decode cX8_readsOrder 50 = .ok (.dup, 1) := by decide +kernel
theorem dX8_readsOrder_51 : decode cX8_readsOrder 51 = .ok (.getfield 284, 3) := by decide +kernel
theorem dX8_readsOrder_54 : decode cX8_readsOrder 54 = .ok (.iconst 1, 1) := by decide +kernel
theorem dX8_readsOrder_55 : decode cX8_readsOrder 55 = .ok (.iadd, 1) := by decide +kernel
theorem dX8_readsOrder_56 : decode cX8_readsOrder 56 = .ok (.putfield 284, 3) := by decide +kernel
theorem dX8_readsOrder_59 : decode cX8_readsOrder 59 = .ok (.aload_n 0, 1) := by decide +kernel
theorem dX8_readsOrder_60 : decode cX8_readsOrder 60 = .ok (.iload_n 2, 1) := by decide +kernel
theorem dX8_readsOrder_61 : decode cX8_readsOrder 61 = .ok (.invokestatic 304, 3) := by decide +kernel
theorem dX8_readsOrder_64 : decode cX8_readsOrder 64 = .ok (.iload_n 2, 1) := by decide +kernel
theorem dX8_readsOrder_65 : decode cX8_readsOrder 65 = .ok (.bipush 115, 2) := by decide +kernel
theorem dX8_readsOrder_67 : decode cX8_readsOrder 67 = .ok (.if_icmp .ne 7, 3) := by decide +kernel
theorem dX8_readsOrder_70 : decode cX8_readsOrder 70 = .ok (.iconst 2, 1) := by decide +kernel
theorem dX8_readsOrder_71 : decode cX8_readsOrder 71 = .ok (.goto 4, 3) := by decide +kernel
theorem dX8_readsOrder_74 : decode cX8_readsOrder 74 = .ok (.iconst (-1), 1) := by decide +kernel
theorem dX8_readsOrder_75 : decode cX8_readsOrder 75 = .ok (.invokevirtual 307, 3) := by decide +kernel
theorem dX8_readsOrder_78 : decode cX8_readsOrder 78 = .ok (.ifCond .eq 12, 3) := by decide +kernel
theorem dX8_readsOrder_81 : decode cX8_readsOrder 81 = .ok (.aload_n 0, 1) := by decide +kernel
theorem dX8_readsOrder_82 : decode cX8_readsOrder 82 = .ok (.invokevirtual 291, 3) := by decide +kernel
theorem dX8_readsOrder_85 : decode cX8_readsOrder 85 = .ok (.bipush 59, 2) := by decide +kernel
theorem dX8_readsOrder_87 : decode cX8_readsOrder 87 = .ok (.if_icmp .eq 5, 3) := by decide +kernel
theorem dX8_readsOrder_90 : decode cX8_readsOrder 90 = .ok (.iconst 0, 1) := by decide +kernel
theorem dX8_readsOrder_91 : decode cX8_readsOrder 91 = .ok (.ireturn, 1) := by decide +kernel
theorem dX8_readsOrder_92 : decode cX8_readsOrder 92 = .ok (.aload_n 0, 1) := by decide +kernel
theorem dX8_readsOrder_93 : decode cX8_readsOrder 93 = .ok (.dup, 1) := by decide +kernel
theorem dX8_readsOrder_94 : decode cX8_readsOrder 94 = .ok (.getfield 284, 3) := by decide +kernel
theorem dX8_readsOrder_97 : decode cX8_readsOrder 97 = .ok (.iconst 1, 1) := by decide +kernel
theorem dX8_readsOrder_98 : decode cX8_readsOrder 98 = .ok (.iadd, 1) := by decide +kernel
theorem dX8_readsOrder_99 : decode cX8_readsOrder 99 = .ok (.putfield 284, 3) := by decide +kernel
theorem dX8_readsOrder_102 : decode cX8_readsOrder 102 = .ok (.iload_n 1, 1) := by decide +kernel
theorem dX8_readsOrder_103 : decode cX8_readsOrder 103 = .ok (.ifCond .eq 24, 3) := by decide +kernel
theorem dX8_readsOrder_106 : decode cX8_readsOrder 106 = .ok (.aload_n 0, 1) := by decide +kernel
theorem dX8_readsOrder_107 : decode cX8_readsOrder 107 = .ok (.aload_n 0, 1) := by decide +kernel
theorem dX8_readsOrder_108 : decode cX8_readsOrder 108 = .ok (.iload_n 2, 1) := by decide +kernel
theorem dX8_readsOrder_109 : decode cX8_readsOrder 109 = .ok (.invokevirtual 310, 3) := by decide +kernel
theorem dX8_readsOrder_112 : decode cX8_readsOrder 112 = .ok (.putfield 313, 3) := by decide +kernel
theorem dX8_readsOrder_115 : decode cX8_readsOrder 115 = .ok (.aload_n 0, 1) := by decide +kernel
theorem dX8_readsOrder_116 : decode cX8_readsOrder 116 = .ok (.getfield 313, 3) := by decide +kernel
theorem dX8_readsOrder_119 : decode cX8_readsOrder 119 = .ok (.ifCond .ne 8, 3) := by decide +kernel
theorem dX8_readsOrder_122 : decode cX8_readsOrder 122 = .ok (.aload_n 0, 1) := by decide +kernel
theorem dX8_readsOrder_123 : decode cX8_readsOrder 123 = .ok (.iload_n 2, 1) := by decide +kernel
theorem dX8_readsOrder_124 : decode cX8_readsOrder 124 = .ok (.invokevirtual 316, 3) := by decide +kernel
theorem dX8_readsOrder_127 : decode cX8_readsOrder 127 = .ok (.iconst 1, 1) := by decide +kernel
theorem dX8_readsOrder_128 : decode cX8_readsOrder 128 = .ok (.ireturn, 1) := by decide +kernel
theorem dX8_reads_0 : decode cX8_reads 0 = .ok (.aload_n 0, 1) := by decide +kernel
theorem dX8_reads_1 : decode cX8_reads 1 = .ok (.iconst 0, 1) := by decide +kernel
theorem dX8_reads_2 : decode cX8_reads 2 = .ok (.putfield 284, 3) := by decide +kernel
theorem dX8_reads_5 : decode cX8_reads 5 = .ok (.aload_n 0, 1) := by decide +kernel
theorem dX8_reads_6 : decode cX8_reads 6 = .ok (.iconst 0, 1) := by decide +kernel
theorem dX8_reads_7 : decode cX8_reads 7 = .ok (.invokevirtual 319, 3) := by decide +kernel
theorem dX8_reads_10 : decode cX8_reads 10 = .ok (.istore_n 1, 1) := by decide +kernel
theorem dX8_reads_11 : decode cX8_reads 11 = .ok (.iload_n 1, 1) := by decide +kernel
theorem dX8_reads_12 : decode cX8_reads 12 = .ok (.ifCond .eq 20, 3) := by decide +kernel
theorem dX8_reads_15 : decode cX8_reads 15 = .ok (.aload_n 0, 1) := by decide +kernel
theorem dX8_reads_16 : decode cX8_reads 16 = .ok (.invokevirtual 291, 3) := by decide +kernel
theorem dX8_reads_19 : decode cX8_reads 19 = .ok (.iconst (-1), 1) := by decide +kernel
theorem dX8_reads_20 : decode cX8_reads 20 = .ok (.if_icmp .eq 12, 3) := by decide +kernel
theorem dX8_reads_23 : decode cX8_reads 23 = .ok (.aload_n 0, 1) := by decide +kernel
theorem dX8_reads_24 : decode cX8_reads 24 = .ok (.iconst 0, 1) := by decide +kernel
theorem dX8_reads_25 : decode cX8_reads 25 = .ok (.invokevirtual 319, 3) := by decide +kernel
theorem dX8_reads_28 : decode cX8_reads 28 = .ok (.istore_n 1, 1) := by decide +kernel
theorem dX8_reads_29 : decode cX8_reads 29 = .ok (.goto (-18), 3) := by decide +kernel
theorem dX8_reads_32 : decode cX8_reads 32 = .ok (.iload_n 1, 1) := by decide +kernel
theorem dX8_reads_33 : decode cX8_reads 33 = .ok (.ifCond .ne 11, 3) := by decide +kernel
theorem dX8_reads_36 : decode cX8_reads 36 = .ok (.bipush (-10), 2) := by decide +kernel
theorem dX8_reads_38 : decode cX8_reads 38 = .ok (.aload_n 0, 1) := by decide +kernel
theorem dX8_reads_39 : decode cX8_reads 39 = .ok (.getfield 284, 3) := by decide +kernel
theorem dX8_reads_42 : decode cX8_reads 42 = .ok (.isub, 1) := by decide +kernel
theorem dX8_reads_43 : decode cX8_reads 43 = .ok (.ireturn, 1) := by decide +kernel
theorem dX8_reads_44 : decode cX8_reads 44 = .ok (.iconst 0, 1) := by decide +kernel
theorem dX8_reads_45 : decode cX8_reads 45 = .ok (.istore_n 2, 1) := by decide +kernel
theorem dX8_reads_46 : decode cX8_reads 46 = .ok (.iload_n 2, 1) := by decide +kernel
theorem dX8_reads_47 : decode cX8_reads 47 = .ok (.sipush 406, 3) := by decide +kernel
theorem dX8_reads_50 : decode cX8_reads 50 = .ok (.if_icmp .ge 21, 3) := by decide +kernel
theorem dX8_reads_53 : decode cX8_reads 53 = .ok (.aload_n 0, 1) := by decide +kernel
theorem dX8_reads_54 : decode cX8_reads 54 = .ok (.getfield 16, 3) := by decide +kernel
theorem dX8_reads_57 : decode cX8_reads 57 = .ok (.iload_n 2, 1) := by decide +kernel
theorem dX8_reads_58 : decode cX8_reads 58 = .ok (.aload_n 0, 1) := by decide +kernel
theorem dX8_reads_59 : decode cX8_reads 59 = .ok (.getfield 7, 3) := by decide +kernel
theorem dX8_reads_62 : decode cX8_reads 62 = .ok (.iload_n 2, 1) := by decide +kernel
theorem dX8_reads_63 : decode cX8_reads 63 = .ok (.iaload, 1) := by decide +kernel
theorem dX8_reads_64 : decode cX8_reads 64 = .ok (.iastore, 1) := by decide +kernel
theorem dX8_reads_65 : decode cX8_reads 65 = .ok (.iinc 2 1, 3) := by decide +kernel
theorem dX8_reads_68 : decode cX8_reads 68 = .ok (.goto (-22), 3) := by decide +kernel
theorem dX8_reads_71 : decode cX8_reads 71 = .ok (.iconst 0, 1) := by decide +kernel
theorem dX8_reads_72 : decode cX8_reads 72 = .ok (.istore_n 2, 1) := by decide +kernel
theorem dX8_reads_73 : decode cX8_reads 73 = .ok (.aload_n 0, 1) := by decide +kernel
theorem dX8_reads_74 : decode cX8_reads 74 = .ok (.iconst 0, 1) := by decide +kernel
theorem dX8_reads_75 : decode cX8_reads 75 = .ok (.putfield 284, 3) := by decide +kernel
theorem dX8_reads_78 : decode cX8_reads 78 = .ok (.aload_n 0, 1) := by decide +kernel
theorem dX8_reads_79 : decode cX8_reads 79 = .ok (.iconst 0, 1) := by decide +kernel
theorem dX8_reads_80 : decode cX8_reads 80 = .ok (.putfield 313, 3) := by decide +kernel
theorem dX8_reads_83 : decode cX8_reads 83 = .ok (.aload_n 0, 1) := by decide +kernel
theorem dX8_reads_84 : decode cX8_reads 84 = .ok (.invokevirtual 291, 3) := by decide +kernel
theorem dX8_reads_87 : decode cX8_reads 87 = .ok (.iconst (-1), 1) := by decide +kernel
theorem dX8_reads_88 : decode cX8_reads 88 = .ok (.if_icmp .eq 69, 3) := by decide +kernel
theorem dX8_reads_91 : decode cX8_reads 91 = .ok (.aload_n 0, 1) := by decide +kernel
theorem dX8_reads_92 : decode cX8_reads 92 = .ok (.iconst 1, 1) := by decide +kernel
theorem dX8_reads_93 : decode cX8_reads 93 = .ok (.invokevirtual 319, 3) := by decide +kernel
theorem dX8_reads_96 : decode cX8_reads 96 = .ok (.istore_n 1, 1) := by decide +kernel
theorem dX8_reads_97 : decode cX8_reads 97 = .ok (.aload_n 0, 1) := by decide +kernel
theorem dX8_reads_98 : decode cX8_reads 98 = .ok (.getfield 313, 3) := by decide +kernel
theorem dX8_reads_101 : decode cX8_reads 101 = .ok (.ifCond .ge 50, 3) := by decide +kernel
theorem dX8_reads_104 : decode cX8_reads 104 = .ok (.iconst 0, 1) := by decide +kernel
theorem dX8_reads_105 : decode cX8_reads 105 = .ok (.istore_n 3, 1) := by decide +kernel
theorem dX8_reads_106 : decode cX8_reads 106 = .ok (.iload_n 3, 1) := by decide +kernel
theorem dX8_reads_107 : decode cX8_reads 107 = .ok (.sipush 406, 3) := by decide +kernel
theorem dX8_reads_110 : decode cX8_reads 110 = .ok (.if_icmp .ge 21, 3) := by decide +kernel
theorem dX8_reads_113 : decode cX8_reads 113 = .ok (.aload_n 0, 1) := by decide +kernel
theorem dX8_reads_114 : decode cX8_reads 114 = .ok (.getfield 7, 3) := by decide +kernel
theorem dX8_reads_117 : decode cX8_reads 117 = .ok (.iload_n 3, 1) := by decide +kernel
theorem dX8_reads_118 : decode cX8_reads 118 = .ok (.aload_n 0, 1) := by decide +kernel
theorem dX8_reads_119 : decode cX8_reads 119 = .ok (.getfield 16, 3) := by decide +kernel
theorem dX8_reads_122 : decode cX8_reads 122 = .ok (.iload_n 3, 1) := by decide +kernel
theorem dX8_reads_123 : decode cX8_reads 123 = .ok (.iaload, 1) := by decide +kernel
theorem dX8_reads_124 : decode cX8_reads 124 = .ok (.iastore, 1) := by decide +kernel
theorem dX8_reads_125 : decode cX8_reads 125 = .ok (.iinc 3 1, 3) := by decide +kernel
theorem dX8_reads_128 : decode cX8_reads 128 = .ok (.goto (-22), 3) := by decide +kernel
theorem dX8_reads_131 : decode cX8_reads 131 = .ok (.aload_n 0, 1) := by decide +kernel
theorem dX8_reads_132 : decode cX8_reads 132 = .ok (.aload_n 0, 1) := by decide +kernel
theorem dX8_reads_133 : decode cX8_reads 133 = .ok (.getfield 313, 3) := by decide +kernel
theorem dX8_reads_136 : decode cX8_reads 136 = .ok (.ineg, 1) := by decide +kernel
theorem dX8_reads_137 : decode cX8_reads 137 = .ok (.putfield 322, 3) := by decide +kernel
theorem dX8_reads_140 : decode cX8_reads 140 = .ok (.aload_n 0, 1) := by decide +kernel
theorem dX8_reads_141 : decode cX8_reads 141 = .ok (.iload_n 2, 1) := by decide +kernel
theorem dX8_reads_142 : decode cX8_reads 142 = .ok (.putfield 22, 3) := by decide +kernel
theorem dX8_reads_145 : decode cX8_reads 145 = .ok (.sipush (-1000), 3) := by decide +kernel
theorem dX8_reads_148 : decode cX8_reads 148 = .ok (.iload_n 2, 1) := by decide +kernel
theorem dX8_reads_149 : decode cX8_reads 149 = .ok (.isub, 1) := by decide +kernel
theorem dX8_reads_150 : decode cX8_reads 150 = .ok (.ireturn, 1) := by decide +kernel
theorem dX8_reads_151 : decode cX8_reads 151 = .ok (.iinc 2 1, 3) := by decide +kernel
theorem dX8_reads_154 : decode cX8_reads 154 = .ok (.goto (-71), 3) := by decide +kernel
theorem dX8_reads_157 : decode cX8_reads 157 = .ok (.aload_n 0, 1) := by decide +kernel
theorem dX8_reads_158 : decode cX8_reads 158 = .ok (.invokevirtual 325, 3) := by decide +kernel
theorem dX8_reads_161 : decode cX8_reads 161 = .ok (.iload_n 2, 1) := by decide +kernel
theorem dX8_reads_162 : decode cX8_reads 162 = .ok (.ireturn, 1) := by decide +kernel
theorem dX8_keepsAside_0 : decode cX8_keepsAside 0 = .ok (.iconst 0, 1) := by decide +kernel
theorem dX8_keepsAside_1 : decode cX8_keepsAside 1 = .ok (.istore_n 1, 1) := by decide +kernel
theorem dX8_keepsAside_2 : decode cX8_keepsAside 2 = .ok (.iload_n 1, 1) := by decide +kernel
theorem dX8_keepsAside_3 : decode cX8_keepsAside 3 = .ok (.sipush 406, 3) := by decide +kernel
theorem dX8_keepsAside_6 : decode cX8_keepsAside 6 = .ok (.if_icmp .ge 35, 3) := by decide +kernel
theorem dX8_keepsAside_9 : decode cX8_keepsAside 9 = .ok (.aload_n 0, 1) := by decide +kernel
theorem dX8_keepsAside_10 : decode cX8_keepsAside 10 = .ok (.getfield 7, 3) := by decide +kernel
theorem dX8_keepsAside_13 : decode cX8_keepsAside 13 = .ok (.iload_n 1, 1) := by decide +kernel
theorem dX8_keepsAside_14 : decode cX8_keepsAside 14 = .ok (.iaload, 1) := by decide +kernel
theorem dX8_keepsAside_15 : decode cX8_keepsAside 15 = .ok (.istore_n 2, 1) := by decide +kernel
theorem dX8_keepsAside_16 : decode cX8_keepsAside 16 = .ok (.aload_n 0, 1) := by decide +kernel
theorem dX8_keepsAside_17 : decode cX8_keepsAside 17 = .ok (.getfield 7, 3) := by decide +kernel
theorem dX8_keepsAside_20 : decode cX8_keepsAside 20 = .ok (.iload_n 1, 1) := by decide +kernel
theorem dX8_keepsAside_21 : decode cX8_keepsAside 21 = .ok (.aload_n 0, 1) := by decide +kernel
theorem dX8_keepsAside_22 : decode cX8_keepsAside 22 = .ok (.getfield 16, 3) := by decide +kernel
theorem dX8_keepsAside_25 : decode cX8_keepsAside 25 = .ok (.iload_n 1, 1) := by decide +kernel
theorem dX8_keepsAside_26 : decode cX8_keepsAside 26 = .ok (.iaload, 1) := by decide +kernel
theorem dX8_keepsAside_27 : decode cX8_keepsAside 27 = .ok (.iastore, 1) := by decide +kernel
theorem dX8_keepsAside_28 : decode cX8_keepsAside 28 = .ok (.aload_n 0, 1) := by decide +kernel
theorem dX8_keepsAside_29 : decode cX8_keepsAside 29 = .ok (.getfield 16, 3) := by decide +kernel
theorem dX8_keepsAside_32 : decode cX8_keepsAside 32 = .ok (.iload_n 1, 1) := by decide +kernel
theorem dX8_keepsAside_33 : decode cX8_keepsAside 33 = .ok (.iload_n 2, 1) := by decide +kernel
theorem dX8_keepsAside_34 : decode cX8_keepsAside 34 = .ok (.iastore, 1) := by decide +kernel
theorem dX8_keepsAside_35 : decode cX8_keepsAside 35 = .ok (.iinc 1 1, 3) := by decide +kernel
theorem dX8_keepsAside_38 : decode cX8_keepsAside 38 = .ok (.goto (-36), 3) := by decide +kernel
theorem dX8_keepsAside_41 : decode cX8_keepsAside 41 = .ok (.aload_n 0, 1) := by decide +kernel
theorem dX8_keepsAside_42 : decode cX8_keepsAside 42 = .ok (.invokevirtual 95, 3) := by decide +kernel
theorem dX8_keepsAside_45 : decode cX8_keepsAside 45 = .ok (.iconst 0, 1) := by decide +kernel
theorem dX8_keepsAside_46 : decode cX8_keepsAside 46 = .ok (.istore_n 1, 1) := by decide +kernel
theorem dX8_keepsAside_47 : decode cX8_keepsAside 47 = .ok (.iload_n 1, 1) := by decide +kernel
theorem dX8_keepsAside_48 : decode cX8_keepsAside 48 = .ok (.sipush 406, 3) := by decide +kernel
theorem dX8_keepsAside_51 : decode cX8_keepsAside 51 = .ok (.if_icmp .ge 21, 3) := by decide +kernel
theorem dX8_keepsAside_54 : decode cX8_keepsAside 54 = .ok (.aload_n 0, 1) := by decide +kernel
theorem dX8_keepsAside_55 : decode cX8_keepsAside 55 = .ok (.getfield 7, 3) := by decide +kernel
theorem dX8_keepsAside_58 : decode cX8_keepsAside 58 = .ok (.iload_n 1, 1) := by decide +kernel
theorem dX8_keepsAside_59 : decode cX8_keepsAside 59 = .ok (.aload_n 0, 1) := by decide +kernel
theorem dX8_keepsAside_60 : decode cX8_keepsAside 60 = .ok (.getfield 16, 3) := by decide +kernel
theorem dX8_keepsAside_63 : decode cX8_keepsAside 63 = .ok (.iload_n 1, 1) := by decide +kernel
theorem dX8_keepsAside_64 : decode cX8_keepsAside 64 = .ok (.iaload, 1) := by decide +kernel
theorem dX8_keepsAside_65 : decode cX8_keepsAside 65 = .ok (.iastore, 1) := by decide +kernel
theorem dX8_keepsAside_66 : decode cX8_keepsAside 66 = .ok (.iinc 1 1, 3) := by decide +kernel
theorem dX8_keepsAside_69 : decode cX8_keepsAside 69 = .ok (.goto (-22), 3) := by decide +kernel
theorem dX8_keepsAside_72 : decode cX8_keepsAside 72 = .ok (.return_, 1) := by decide +kernel
theorem dX8_why_0 : decode cX8_why 0 = .ok (.iload_n 1, 1) := by decide +kernel
theorem dX8_why_1 : decode cX8_why 1 = .ok (.i2l, 1) := by decide +kernel
theorem dX8_why_2 : decode cX8_why 2 = .ok (.lconst 0, 1) := by decide +kernel
theorem dX8_why_3 : decode cX8_why 3 = .ok (.lconst 1, 1) := by decide +kernel
theorem dX8_why_4 : decode cX8_why 4 = .ok (.invokestatic 63, 3) := by decide +kernel
theorem dX8_why_7 : decode cX8_why 7 = .ok (.ifCond .ne 16, 3) := by decide +kernel
theorem dX8_why_10 : decode cX8_why 10 = .ok (.aload_n 0, 1) := by decide +kernel
theorem dX8_why_11 : decode cX8_why 11 = .ok (.getfield 19, 3) := by decide +kernel
theorem dX8_why_14 : decode cX8_why 14 = .ok (.iconst 0, 1) := by decide +kernel
theorem dX8_why_15 : decode cX8_why 15 = .ok (.dup2, 1) := by decide +kernel
theorem dX8_why_16 : decode cX8_why 16 = .ok (.iaload, 1) := by decide +kernel
theorem dX8_why_17 : decode cX8_why 17 = .ok (.iconst 1, 1) := by decide +kernel
theorem dX8_why_18 : decode cX8_why 18 = .ok (.iadd, 1) := by decide +kernel
theorem dX8_why_19 : decode cX8_why 19 = .ok (.iastore, 1) := by decide +kernel
theorem dX8_why_20 : decode cX8_why 20 = .ok (.bipush (-10), 2) := by decide +kernel
theorem dX8_why_22 : decode cX8_why 22 = .ok (.ireturn, 1) := by decide +kernel
theorem dX8_why_23 : decode cX8_why 23 = .ok (.iload_n 1, 1) := by decide +kernel
theorem dX8_why_24 : decode cX8_why 24 = .ok (.ifCond .ne 10, 3) := by decide +kernel
theorem dX8_why_27 : decode cX8_why 27 = .ok (.aload_n 0, 1) := by decide +kernel
theorem dX8_why_28 : decode cX8_why 28 = .ok (.getfield 322, 3) := by decide +kernel
theorem dX8_why_31 : decode cX8_why 31 = .ok (.goto 7, 3) := by decide +kernel
theorem dX8_why_34 : decode cX8_why 34 = .ok (.aload_n 0, 1) := by decide +kernel
theorem dX8_why_35 : decode cX8_why 35 = .ok (.getfield 22, 3) := by decide +kernel
theorem dX8_why_38 : decode cX8_why 38 = .ok (.ireturn, 1) := by decide +kernel
theorem dX8_back_0 : decode cX8_back 0 = .ok (.aload_n 0, 1) := by decide +kernel
theorem dX8_back_1 : decode cX8_back 1 = .ok (.getfield 56, 3) := by decide +kernel
theorem dX8_back_4 : decode cX8_back 4 = .ok (.ifCond .ne 10, 3) := by decide +kernel
theorem dX8_back_7 : decode cX8_back 7 = .ok (.aload_n 0, 1) := by decide +kernel
theorem dX8_back_8 : decode cX8_back 8 = .ok (.bipush (-3), 2) := by decide +kernel
theorem dX8_back_10 : decode cX8_back 10 = .ok (.invokevirtual 91, 3) := by decide +kernel
theorem dX8_back_13 : decode cX8_back 13 = .ok (.ireturn, 1) := by decide +kernel
theorem dX8_back_14 : decode cX8_back 14 = .ok (.aload_n 0, 1) := by decide +kernel
theorem dX8_back_15 : decode cX8_back 15 = .ok (.dup, 1) := by decide +kernel
theorem dX8_back_16 : decode cX8_back 16 = .ok (.getfield 56, 3) := by decide +kernel
theorem dX8_back_19 : decode cX8_back 19 = .ok (.iconst 1, 1) := by decide +kernel
theorem dX8_back_20 : decode cX8_back 20 = .ok (.isub, 1) := by decide +kernel
theorem dX8_back_21 : decode cX8_back 21 = .ok (.putfield 56, 3) := by decide +kernel
theorem dX8_back_24 : decode cX8_back 24 = .ok (.iconst 0, 1) := by decide +kernel
theorem dX8_back_25 : decode cX8_back 25 = .ok (.istore_n 1, 1) := by decide +kernel
theorem dX8_back_26 : decode cX8_back 26 = .ok (.iload_n 1, 1) := by decide +kernel
theorem dX8_back_27 : decode cX8_back 27 = .ok (.sipush 406, 3) := by decide +kernel
theorem dX8_back_30 : decode cX8_back 30 = .ok (.if_icmp .ge 30, 3) := by decide +kernel
theorem dX8_back_33 : decode cX8_back 33 = .ok (.aload_n 0, 1) := by decide +kernel
theorem dX8_back_34 : decode cX8_back 34 = .ok (.getfield 7, 3) := by decide +kernel
theorem dX8_back_37 : decode cX8_back 37 = .ok (.iload_n 1, 1) := by decide +kernel
theorem dX8_back_38 : decode cX8_back 38 = .ok (.aload_n 0, 1) := by decide +kernel
theorem dX8_back_39 : decode cX8_back 39 = .ok (.getfield 13, 3) := by decide +kernel
theorem dX8_back_42 : decode cX8_back 42 = .ok (.sipush 406, 3) := by decide +kernel
theorem dX8_back_45 : decode cX8_back 45 = .ok (.aload_n 0, 1) := by decide +kernel
theorem dX8_back_46 : decode cX8_back 46 = .ok (.getfield 56, 3) := by decide +kernel
theorem dX8_back_49 : decode cX8_back 49 = .ok (.imul, 1) := by decide +kernel
theorem dX8_back_50 : decode cX8_back 50 = .ok (.iload_n 1, 1) := by decide +kernel
theorem dX8_back_51 : decode cX8_back 51 = .ok (.iadd, 1) := by decide +kernel
theorem dX8_back_52 : decode cX8_back 52 = .ok (.iaload, 1) := by decide +kernel
theorem dX8_back_53 : decode cX8_back 53 = .ok (.iastore, 1) := by decide +kernel
theorem dX8_back_54 : decode cX8_back 54 = .ok (.iinc 1 1, 3) := by decide +kernel
theorem dX8_back_57 : decode cX8_back 57 = .ok (.goto (-31), 3) := by decide +kernel
theorem dX8_back_60 : decode cX8_back 60 = .ok (.aload_n 0, 1) := by decide +kernel
theorem dX8_back_61 : decode cX8_back 61 = .ok (.getfield 56, 3) := by decide +kernel
theorem dX8_back_64 : decode cX8_back 64 = .ok (.ireturn, 1) := by decide +kernel
theorem dX8_toldOf_0 : decode cX8_toldOf 0 = .ok (.iload_n 1, 1) := by decide +kernel
theorem dX8_toldOf_1 : decode cX8_toldOf 1 = .ok (.tableswitch 75 3 8 #[39, 44, 51, 56, 63, 70], 39) := by decide +kernel
theorem dX8_toldOf_40 : decode cX8_toldOf 40 = .ok (.aload_n 0, 1) := by decide +kernel
theorem dX8_toldOf_41 : decode cX8_toldOf 41 = .ok (.getfield 281, 3) := by decide +kernel
theorem dX8_toldOf_44 : decode cX8_toldOf 44 = .ok (.ireturn, 1) := by decide +kernel
theorem dX8_toldOf_45 : decode cX8_toldOf 45 = .ok (.aload_n 0, 1) := by decide +kernel
theorem dX8_toldOf_46 : decode cX8_toldOf 46 = .ok (.getfield 7, 3) := by decide +kernel
theorem dX8_toldOf_49 : decode cX8_toldOf 49 = .ok (.iconst 0, 1) := by decide +kernel
theorem dX8_toldOf_50 : decode cX8_toldOf 50 = .ok (.iaload, 1) := by decide +kernel
theorem dX8_toldOf_51 : decode cX8_toldOf 51 = .ok (.ireturn, 1) := by decide +kernel
theorem dX8_toldOf_52 : decode cX8_toldOf 52 = .ok (.aload_n 0, 1) := by decide +kernel
theorem dX8_toldOf_53 : decode cX8_toldOf 53 = .ok (.invokevirtual 59, 3) := by decide +kernel
theorem dX8_toldOf_56 : decode cX8_toldOf 56 = .ok (.ireturn, 1) := by decide +kernel
theorem dX8_toldOf_57 : decode cX8_toldOf 57 = .ok (.aload_n 0, 1) := by decide +kernel
theorem dX8_toldOf_58 : decode cX8_toldOf 58 = .ok (.getfield 7, 3) := by decide +kernel
theorem dX8_toldOf_61 : decode cX8_toldOf 61 = .ok (.iconst 1, 1) := by decide +kernel
theorem dX8_toldOf_62 : decode cX8_toldOf 62 = .ok (.iaload, 1) := by decide +kernel
theorem dX8_toldOf_63 : decode cX8_toldOf 63 = .ok (.ireturn, 1) := by decide +kernel
theorem dX8_toldOf_64 : decode cX8_toldOf 64 = .ok (.aload_n 0, 1) := by decide +kernel
theorem dX8_toldOf_65 : decode cX8_toldOf 65 = .ok (.getfield 7, 3) := by decide +kernel
theorem dX8_toldOf_68 : decode cX8_toldOf 68 = .ok (.iconst 2, 1) := by decide +kernel
theorem dX8_toldOf_69 : decode cX8_toldOf 69 = .ok (.iaload, 1) := by decide +kernel
theorem dX8_toldOf_70 : decode cX8_toldOf 70 = .ok (.ireturn, 1) := by decide +kernel
theorem dX8_toldOf_71 : decode cX8_toldOf 71 = .ok (.aload_n 0, 1) := by decide +kernel
theorem dX8_toldOf_72 : decode cX8_toldOf 72 = .ok (.getfield 56, 3) := by decide +kernel
theorem dX8_toldOf_75 : decode cX8_toldOf 75 = .ok (.ireturn, 1) := by decide +kernel
theorem dX8_toldOf_76 : decode cX8_toldOf 76 = .ok (.aload_n 0, 1) := by decide +kernel
theorem dX8_toldOf_77 : decode cX8_toldOf 77 = .ok (.getfield 19, 3) := by decide +kernel
theorem dX8_toldOf_80 : decode cX8_toldOf 80 = .ok (.iload_n 1, 1) := by decide +kernel
theorem dX8_toldOf_81 : decode cX8_toldOf 81 = .ok (.iaload, 1) := by decide +kernel
theorem dX8_toldOf_82 : decode cX8_toldOf 82 = .ok (.ireturn, 1) := by decide +kernel
theorem dX8_told_0 : decode cX8_told 0 = .ok (.iload_n 1, 1) := by decide +kernel
theorem dX8_told_1 : decode cX8_told 1 = .ok (.i2l, 1) := by decide +kernel
theorem dX8_told_2 : decode cX8_told 2 = .ok (.lconst 0, 1) := by decide +kernel
theorem dX8_told_3 : decode cX8_told 3 = .ok (.ldc2_w 328, 3) := by decide +kernel
theorem dX8_told_6 : decode cX8_told 6 = .ok (.invokestatic 63, 3) := by decide +kernel
theorem dX8_told_9 : decode cX8_told 9 = .ok (.ifCond .eq 11, 3) := by decide +kernel
theorem dX8_told_12 : decode cX8_told 12 = .ok (.aload_n 0, 1) := by decide +kernel
theorem dX8_told_13 : decode cX8_told 13 = .ok (.iload_n 1, 1) := by decide +kernel
theorem dX8_told_14 : decode cX8_told 14 = .ok (.invokevirtual 330, 3) := by decide +kernel
theorem dX8_told_17 : decode cX8_told 17 = .ok (.goto 9, 3) := by decide +kernel
theorem dX8_told_20 : decode cX8_told 20 = .ok (.aload_n 0, 1) := by decide +kernel
theorem dX8_told_21 : decode cX8_told 21 = .ok (.bipush (-2), 2) := by decide +kernel
theorem dX8_told_23 : decode cX8_told 23 = .ok (.invokevirtual 91, 3) := by decide +kernel
theorem dX8_told_26 : decode cX8_told 26 = .ok (.ireturn, 1) := by decide +kernel
theorem dX8_digest_0 : decode cX8_digest 0 = .ok (.ldc2_w 333, 3) := by decide +kernel
theorem dX8_digest_3 : decode cX8_digest 3 = .ok (.lstore_n 1, 1) := by decide +kernel
theorem dX8_digest_4 : decode cX8_digest 4 = .ok (.iconst 0, 1) := by decide +kernel
theorem dX8_digest_5 : decode cX8_digest 5 = .ok (.istore_n 3, 1) := by decide +kernel
theorem dX8_digest_6 : decode cX8_digest 6 = .ok (.iload_n 3, 1) := by decide +kernel
theorem dX8_digest_7 : decode cX8_digest 7 = .ok (.bipush 9, 2) := by decide +kernel
theorem dX8_digest_9 : decode cX8_digest 9 = .ok (.if_icmp .ge 22, 3) := by decide +kernel
theorem dX8_digest_12 : decode cX8_digest 12 = .ok (.ldc2_w 335, 3) := by decide +kernel
theorem dX8_digest_15 : decode cX8_digest 15 = .ok (.lload_n 1, 1) := by decide +kernel
theorem dX8_digest_16 : decode cX8_digest 16 = .ok (.lmul, 1) := by decide +kernel
theorem dX8_digest_17 : decode cX8_digest 17 = .ok (.aload_n 0, 1) := by decide +kernel
theorem dX8_digest_18 : decode cX8_digest 18 = .ok (.iload_n 3, 1) := by decide +kernel
theorem dX8_digest_19 : decode cX8_digest 19 = .ok (.invokevirtual 330, 3) := by decide +kernel
theorem dX8_digest_22 : decode cX8_digest 22 = .ok (.i2l, 1) := by decide +kernel
theorem dX8_digest_23 : decode cX8_digest 23 = .ok (.ladd, 1) := by decide +kernel
theorem dX8_digest_24 : decode cX8_digest 24 = .ok (.lstore_n 1, 1) := by decide +kernel
theorem dX8_digest_25 : decode cX8_digest 25 = .ok (.iinc 3 1, 3) := by decide +kernel
theorem dX8_digest_28 : decode cX8_digest 28 = .ok (.goto (-22), 3) := by decide +kernel
theorem dX8_digest_31 : decode cX8_digest 31 = .ok (.ldc2_w 335, 3) := by decide +kernel
theorem dX8_digest_34 : decode cX8_digest 34 = .ok (.ldc2_w 335, 3) := by decide +kernel
theorem dX8_digest_37 : decode cX8_digest 37 = .ok (.lload_n 1, 1) := by decide +kernel
theorem dX8_digest_38 : decode cX8_digest 38 = .ok (.lmul, 1) := by decide +kernel
theorem dX8_digest_39 : decode cX8_digest 39 = .ok (.aload_n 0, 1) := by decide +kernel
theorem dX8_digest_40 : decode cX8_digest 40 = .ok (.getfield 322, 3) := by decide +kernel
theorem dX8_digest_43 : decode cX8_digest 43 = .ok (.i2l, 1) := by decide +kernel
theorem dX8_digest_44 : decode cX8_digest 44 = .ok (.ladd, 1) := by decide +kernel
theorem dX8_digest_45 : decode cX8_digest 45 = .ok (.lmul, 1) := by decide +kernel
theorem dX8_digest_46 : decode cX8_digest 46 = .ok (.aload_n 0, 1) := by decide +kernel
theorem dX8_digest_47 : decode cX8_digest 47 = .ok (.getfield 22, 3) := by decide +kernel
theorem dX8_digest_50 : decode cX8_digest 50 = .ok (.i2l, 1) := by decide +kernel
theorem dX8_digest_51 : decode cX8_digest 51 = .ok (.ladd, 1) := by decide +kernel
theorem dX8_digest_52 : decode cX8_digest 52 = .ok (.lstore_n 1, 1) := by decide +kernel
theorem dX8_digest_53 : decode cX8_digest 53 = .ok (.aload_n 0, 1) := by decide +kernel
theorem dX8_digest_54 : decode cX8_digest 54 = .ok (.invokevirtual 196, 3) := by decide +kernel
theorem dX8_digest_57 : decode cX8_digest 57 = .ok (.iconst 0, 1) := by decide +kernel
theorem dX8_digest_58 : decode cX8_digest 58 = .ok (.istore_n 3, 1) := by decide +kernel
theorem dX8_digest_59 : decode cX8_digest 59 = .ok (.iload_n 3, 1) := by decide +kernel
theorem dX8_digest_60 : decode cX8_digest 60 = .ok (.aload_n 0, 1) := by decide +kernel
theorem dX8_digest_61 : decode cX8_digest 61 = .ok (.invokevirtual 59, 3) := by decide +kernel
theorem dX8_digest_64 : decode cX8_digest 64 = .ok (.if_icmp .ge 74, 3) := by decide +kernel
theorem dX8_digest_67 : decode cX8_digest 67 = .ok (.iconst 0, 1) := by decide +kernel
theorem dX8_digest_68 : decode cX8_digest 68 = .ok (.istore 4, 2) := by decide +kernel
theorem dX8_digest_70 : decode cX8_digest 70 = .ok (.iload 4, 2) := by decide +kernel
theorem dX8_digest_72 : decode cX8_digest 72 = .ok (.bipush 32, 2) := by decide +kernel
theorem dX8_digest_74 : decode cX8_digest 74 = .ok (.if_icmp .ge 32, 3) := by decide +kernel
theorem dX8_digest_77 : decode cX8_digest 77 = .ok (.ldc2_w 335, 3) := by decide +kernel
theorem dX8_digest_80 : decode cX8_digest 80 = .ok (.lload_n 1, 1) := by decide +kernel
theorem dX8_digest_81 : decode cX8_digest 81 = .ok (.lmul, 1) := by decide +kernel
theorem dX8_digest_82 : decode cX8_digest 82 = .ok (.aload_n 0, 1) := by decide +kernel
theorem dX8_digest_83 : decode cX8_digest 83 = .ok (.iload_n 3, 1) := by decide +kernel
theorem dX8_digest_84 : decode cX8_digest 84 = .ok (.iload 4, 2) := by decide +kernel
theorem dX8_digest_86 : decode cX8_digest 86 = .ok (.bipush 8, 2) := by decide +kernel
theorem dX8_digest_88 : decode cX8_digest 88 = .ok (.idiv, 1) := by decide +kernel
theorem dX8_digest_89 : decode cX8_digest 89 = .ok (.iload 4, 2) := by decide +kernel
theorem dX8_digest_91 : decode cX8_digest 91 = .ok (.bipush 8, 2) := by decide +kernel
theorem dX8_digest_93 : decode cX8_digest 93 = .ok (.irem, 1) := by decide +kernel
theorem dX8_digest_94 : decode cX8_digest 94 = .ok (.invokevirtual 143, 3) := by decide +kernel
theorem dX8_digest_97 : decode cX8_digest 97 = .ok (.i2l, 1) := by decide +kernel
theorem dX8_digest_98 : decode cX8_digest 98 = .ok (.ladd, 1) := by decide +kernel
theorem dX8_digest_99 : decode cX8_digest 99 = .ok (.lstore_n 1, 1) := by decide +kernel
theorem dX8_digest_100 : decode cX8_digest 100 = .ok (.iinc 4 1, 3) := by decide +kernel
theorem dX8_digest_103 : decode cX8_digest 103 = .ok (.goto (-33), 3) := by decide +kernel
theorem dX8_digest_106 : decode cX8_digest 106 = .ok (.ldc2_w 335, 3) := by decide +kernel
theorem dX8_digest_109 : decode cX8_digest 109 = .ok (.ldc2_w 335, 3) := by decide +kernel
theorem dX8_digest_112 : decode cX8_digest 112 = .ok (.lload_n 1, 1) := by decide +kernel
theorem dX8_digest_113 : decode cX8_digest 113 = .ok (.lmul, 1) := by decide +kernel
theorem dX8_digest_114 : decode cX8_digest 114 = .ok (.aload_n 0, 1) := by decide +kernel
theorem dX8_digest_115 : decode cX8_digest 115 = .ok (.getfield 26, 3) := by decide +kernel
theorem dX8_digest_118 : decode cX8_digest 118 = .ok (.iload_n 3, 1) := by decide +kernel
theorem dX8_digest_119 : decode cX8_digest 119 = .ok (.iaload, 1) := by decide +kernel
theorem dX8_digest_120 : decode cX8_digest 120 = .ok (.i2l, 1) := by decide +kernel
theorem dX8_digest_121 : decode cX8_digest 121 = .ok (.ladd, 1) := by decide +kernel
theorem dX8_digest_122 : decode cX8_digest 122 = .ok (.lmul, 1) := by decide +kernel
theorem dX8_digest_123 : decode cX8_digest 123 = .ok (.aload_n 0, 1) := by decide +kernel
theorem dX8_digest_124 : decode cX8_digest 124 = .ok (.getfield 38, 3) := by decide +kernel
theorem dX8_digest_127 : decode cX8_digest 127 = .ok (.iload_n 3, 1) := by decide +kernel
theorem dX8_digest_128 : decode cX8_digest 128 = .ok (.iaload, 1) := by decide +kernel
theorem dX8_digest_129 : decode cX8_digest 129 = .ok (.i2l, 1) := by decide +kernel
theorem dX8_digest_130 : decode cX8_digest 130 = .ok (.ladd, 1) := by decide +kernel
theorem dX8_digest_131 : decode cX8_digest 131 = .ok (.lstore_n 1, 1) := by decide +kernel
theorem dX8_digest_132 : decode cX8_digest 132 = .ok (.iinc 3 1, 3) := by decide +kernel
theorem dX8_digest_135 : decode cX8_digest 135 = .ok (.goto (-76), 3) := by decide +kernel
theorem dX8_digest_138 : decode cX8_digest 138 = .ok (.iconst 0, 1) := by decide +kernel
theorem dX8_digest_139 : decode cX8_digest 139 = .ok (.istore_n 3, 1) := by decide +kernel
theorem dX8_digest_140 : decode cX8_digest 140 = .ok (.iload_n 3, 1) := by decide +kernel
theorem dX8_digest_141 : decode cX8_digest 141 = .ok (.bipush 6, 2) := by decide +kernel
theorem dX8_digest_143 : decode cX8_digest 143 = .ok (.if_icmp .ge 22, 3) := by decide +kernel
theorem dX8_digest_146 : decode cX8_digest 146 = .ok (.ldc2_w 335, 3) := by decide +kernel
theorem dX8_digest_149 : decode cX8_digest 149 = .ok (.lload_n 1, 1) := by decide +kernel
theorem dX8_digest_150 : decode cX8_digest 150 = .ok (.lmul, 1) := by decide +kernel
theorem dX8_digest_151 : decode cX8_digest 151 = .ok (.aload_n 0, 1) := by decide +kernel
theorem dX8_digest_152 : decode cX8_digest 152 = .ok (.iload_n 3, 1) := by decide +kernel
theorem dX8_digest_153 : decode cX8_digest 153 = .ok (.invokevirtual 222, 3) := by decide +kernel
theorem dX8_digest_156 : decode cX8_digest 156 = .ok (.i2l, 1) := by decide +kernel
theorem dX8_digest_157 : decode cX8_digest 157 = .ok (.ladd, 1) := by decide +kernel
theorem dX8_digest_158 : decode cX8_digest 158 = .ok (.lstore_n 1, 1) := by decide +kernel
theorem dX8_digest_159 : decode cX8_digest 159 = .ok (.iinc 3 1, 3) := by decide +kernel
theorem dX8_digest_162 : decode cX8_digest 162 = .ok (.goto (-22), 3) := by decide +kernel
theorem dX8_digest_165 : decode cX8_digest 165 = .ok (.lload_n 1, 1) := by decide +kernel
theorem dX8_digest_166 : decode cX8_digest 166 = .ok (.lreturn, 1) := by decide +kernel
theorem dJ9_floorDiv_f86c9_0 : decode cJ9_floorDiv_f86c9 0 = .ok (.lload_n 0, 1) := by decide +kernel
theorem dJ9_floorDiv_f86c9_1 : decode cJ9_floorDiv_f86c9 1 = .ok (.lload_n 2, 1) := by decide +kernel
theorem dJ9_floorDiv_f86c9_2 : decode cJ9_floorDiv_f86c9 2 = .ok (.ldiv, 1) := by decide +kernel
theorem dJ9_floorDiv_f86c9_3 : decode cJ9_floorDiv_f86c9 3 = .ok (.lstore 4, 2) := by decide +kernel
theorem dJ9_floorDiv_f86c9_5 : decode cJ9_floorDiv_f86c9 5 = .ok (.lload_n 0, 1) := by decide +kernel
theorem dJ9_floorDiv_f86c9_6 : decode cJ9_floorDiv_f86c9 6 = .ok (.lload_n 2, 1) := by decide +kernel
theorem dJ9_floorDiv_f86c9_7 : decode cJ9_floorDiv_f86c9 7 = .ok (.lxor, 1) := by decide +kernel
theorem dJ9_floorDiv_f86c9_8 : decode cJ9_floorDiv_f86c9 8 = .ok (.lconst 0, 1) := by decide +kernel
theorem dJ9_floorDiv_f86c9_9 : decode cJ9_floorDiv_f86c9 9 = .ok (.lcmp, 1) := by decide +kernel
theorem dJ9_floorDiv_f86c9_10 : decode cJ9_floorDiv_f86c9 10 = .ok (.ifCond .ge 17, 3) := by decide +kernel
theorem dJ9_floorDiv_f86c9_13 : decode cJ9_floorDiv_f86c9 13 = .ok (.lload 4, 2) := by decide +kernel
theorem dJ9_floorDiv_f86c9_15 : decode cJ9_floorDiv_f86c9 15 = .ok (.lload_n 2, 1) := by decide +kernel
theorem dJ9_floorDiv_f86c9_16 : decode cJ9_floorDiv_f86c9 16 = .ok (.lmul, 1) := by decide +kernel
theorem dJ9_floorDiv_f86c9_17 : decode cJ9_floorDiv_f86c9 17 = .ok (.lload_n 0, 1) := by decide +kernel
theorem dJ9_floorDiv_f86c9_18 : decode cJ9_floorDiv_f86c9 18 = .ok (.lcmp, 1) := by decide +kernel
theorem dJ9_floorDiv_f86c9_19 : decode cJ9_floorDiv_f86c9 19 = .ok (.ifCond .eq 8, 3) := by decide +kernel
theorem dJ9_floorDiv_f86c9_22 : decode cJ9_floorDiv_f86c9 22 = .ok (.lload 4, 2) := by decide +kernel
theorem dJ9_floorDiv_f86c9_24 : decode cJ9_floorDiv_f86c9 24 = .ok (.lconst 1, 1) := by decide +kernel
theorem dJ9_floorDiv_f86c9_25 : decode cJ9_floorDiv_f86c9 25 = .ok (.lsub, 1) := by decide +kernel
theorem dJ9_floorDiv_f86c9_26 : decode cJ9_floorDiv_f86c9 26 = .ok (.lreturn, 1) := by decide +kernel
theorem dJ9_floorDiv_f86c9_27 : decode cJ9_floorDiv_f86c9 27 = .ok (.lload 4, 2) := by decide +kernel
theorem dJ9_floorDiv_f86c9_29 : decode cJ9_floorDiv_f86c9 29 = .ok (.lreturn, 1) := by decide +kernel
theorem dJ9_abs_0f7a4_0 : decode cJ9_abs_0f7a4 0 = .ok (.iload_n 0, 1) := by decide +kernel
theorem dJ9_abs_0f7a4_1 : decode cJ9_abs_0f7a4 1 = .ok (.ifCond .ge 8, 3) := by decide +kernel
theorem dJ9_abs_0f7a4_4 : decode cJ9_abs_0f7a4 4 = .ok (.iload_n 0, 1) := by decide +kernel
theorem dJ9_abs_0f7a4_5 : decode cJ9_abs_0f7a4 5 = .ok (.ineg, 1) := by decide +kernel
theorem dJ9_abs_0f7a4_6 : decode cJ9_abs_0f7a4 6 = .ok (.goto 4, 3) := by decide +kernel
theorem dJ9_abs_0f7a4_9 : decode cJ9_abs_0f7a4 9 = .ok (.iload_n 0, 1) := by decide +kernel
theorem dJ9_abs_0f7a4_10 : decode cJ9_abs_0f7a4 10 = .ok (.ireturn, 1) := by decide +kernel
theorem dJ9_max_7cf53_0 : decode cJ9_max_7cf53 0 = .ok (.iload_n 0, 1) := by decide +kernel
theorem dJ9_max_7cf53_1 : decode cJ9_max_7cf53 1 = .ok (.iload_n 1, 1) := by decide +kernel
theorem dJ9_max_7cf53_2 : decode cJ9_max_7cf53 2 = .ok (.if_icmp .lt 7, 3) := by decide +kernel
theorem dJ9_max_7cf53_5 : decode cJ9_max_7cf53 5 = .ok (.iload_n 0, 1) := by decide +kernel
theorem dJ9_max_7cf53_6 : decode cJ9_max_7cf53 6 = .ok (.goto 4, 3) := by decide +kernel
theorem dJ9_max_7cf53_9 : decode cJ9_max_7cf53 9 = .ok (.iload_n 1, 1) := by decide +kernel
theorem dJ9_max_7cf53_10 : decode cJ9_max_7cf53 10 = .ok (.ireturn, 1) := by decide +kernel
theorem dJ9_max_f86c9_0 : decode cJ9_max_f86c9 0 = .ok (.lload_n 0, 1) := by decide +kernel
theorem dJ9_max_f86c9_1 : decode cJ9_max_f86c9 1 = .ok (.lload_n 2, 1) := by decide +kernel
theorem dJ9_max_f86c9_2 : decode cJ9_max_f86c9 2 = .ok (.lcmp, 1) := by decide +kernel
theorem dJ9_max_f86c9_3 : decode cJ9_max_f86c9 3 = .ok (.ifCond .lt 7, 3) := by decide +kernel
theorem dJ9_max_f86c9_6 : decode cJ9_max_f86c9 6 = .ok (.lload_n 0, 1) := by decide +kernel
theorem dJ9_max_f86c9_7 : decode cJ9_max_f86c9 7 = .ok (.goto 4, 3) := by decide +kernel
theorem dJ9_max_f86c9_10 : decode cJ9_max_f86c9 10 = .ok (.lload_n 2, 1) := by decide +kernel
theorem dJ9_max_f86c9_11 : decode cJ9_max_f86c9 11 = .ok (.lreturn, 1) := by decide +kernel
theorem dJ9_min_7cf53_0 : decode cJ9_min_7cf53 0 = .ok (.iload_n 0, 1) := by decide +kernel
theorem dJ9_min_7cf53_1 : decode cJ9_min_7cf53 1 = .ok (.iload_n 1, 1) := by decide +kernel
theorem dJ9_min_7cf53_2 : decode cJ9_min_7cf53 2 = .ok (.if_icmp .gt 7, 3) := by decide +kernel
theorem dJ9_min_7cf53_5 : decode cJ9_min_7cf53 5 = .ok (.iload_n 0, 1) := by decide +kernel
theorem dJ9_min_7cf53_6 : decode cJ9_min_7cf53 6 = .ok (.goto 4, 3) := by decide +kernel
theorem dJ9_min_7cf53_9 : decode cJ9_min_7cf53 9 = .ok (.iload_n 1, 1) := by decide +kernel
theorem dJ9_min_7cf53_10 : decode cJ9_min_7cf53 10 = .ok (.ireturn, 1) := by decide +kernel
theorem dJ9_min_f86c9_0 : decode cJ9_min_f86c9 0 = .ok (.lload_n 0, 1) := by decide +kernel
theorem dJ9_min_f86c9_1 : decode cJ9_min_f86c9 1 = .ok (.lload_n 2, 1) := by decide +kernel
theorem dJ9_min_f86c9_2 : decode cJ9_min_f86c9 2 = .ok (.lcmp, 1) := by decide +kernel
theorem dJ9_min_f86c9_3 : decode cJ9_min_f86c9 3 = .ok (.ifCond .gt 7, 3) := by decide +kernel
theorem dJ9_min_f86c9_6 : decode cJ9_min_f86c9 6 = .ok (.lload_n 0, 1) := by decide +kernel
theorem dJ9_min_f86c9_7 : decode cJ9_min_f86c9 7 = .ok (.goto 4, 3) := by decide +kernel
theorem dJ9_min_f86c9_10 : decode cJ9_min_f86c9 10 = .ok (.lload_n 2, 1) := by decide +kernel
theorem dJ9_min_f86c9_11 : decode cJ9_min_f86c9 11 = .ok (.lreturn, 1) := by decide +kernel
theorem dL_law_0 : decode cL_law 0 = .ok (.new 7, 3) := by decide +kernel
theorem dL_law_3 : decode cL_law 3 = .ok (.dup, 1) := by decide +kernel
theorem dL_law_4 : decode cL_law 4 = .ok (.invokespecial 9, 3) := by decide +kernel
theorem dL_law_7 : decode cL_law 7 = .ok (.astore_n 1, 1) := by decide +kernel
theorem dL_law_8 : decode cL_law 8 = .ok (.new 10, 3) := by decide +kernel
theorem dL_law_11 : decode cL_law 11 = .ok (.dup, 1) := by decide +kernel
theorem dL_law_12 : decode cL_law 12 = .ok (.invokespecial 12, 3) := by decide +kernel
theorem dL_law_15 : decode cL_law 15 = .ok (.astore_n 2, 1) := by decide +kernel
theorem dL_law_16 : decode cL_law 16 = .ok (.iconst 0, 1) := by decide +kernel
theorem dL_law_17 : decode cL_law 17 = .ok (.istore_n 3, 1) := by decide +kernel
theorem dL_law_18 : decode cL_law 18 = .ok (.iload_n 3, 1) := by decide +kernel
theorem dL_law_19 : decode cL_law 19 = .ok (.aload_n 0, 1) := by decide +kernel
theorem dL_law_20 : decode cL_law 20 = .ok (.arraylength, 1) := by decide +kernel
theorem dL_law_21 : decode cL_law 21 = .ok (.iconst 5, 1) := by decide +kernel
theorem dL_law_22 : decode cL_law 22 = .ok (.isub, 1) := by decide +kernel
theorem dL_law_23 : decode cL_law 23 = .ok (.if_icmp .gt 983, 3) := by decide +kernel
theorem dL_law_26 : decode cL_law 26 = .ok (.aload_n 0, 1) := by decide +kernel
theorem dL_law_27 : decode cL_law 27 = .ok (.iload_n 3, 1) := by decide +kernel
theorem dL_law_28 : decode cL_law 28 = .ok (.iaload, 1) := by decide +kernel
theorem dL_law_29 : decode cL_law 29 = .ok (.bipush 31, 2) := by decide +kernel
theorem dL_law_31 : decode cL_law 31 = .ok (.iand, 1) := by decide +kernel
theorem dL_law_32 : decode cL_law 32 = .ok (.tableswitch 968 0 26 #[124, 157, 200, 243, 296, 319, 352, 395, 438, 461, 514, 557, 590, 613, 646, 679, 712, 746, 770, 803, 846, 869, 882, 895, 918, 931, 954], 124) := by decide +kernel
theorem dL_law_156 : decode cL_law 156 = .ok (.aload_n 1, 1) := by decide +kernel
theorem dL_law_157 : decode cL_law 157 = .ok (.aload_n 0, 1) := by decide +kernel
theorem dL_law_158 : decode cL_law 158 = .ok (.iload_n 3, 1) := by decide +kernel
theorem dL_law_159 : decode cL_law 159 = .ok (.iconst 1, 1) := by decide +kernel
theorem dL_law_160 : decode cL_law 160 = .ok (.iadd, 1) := by decide +kernel
theorem dL_law_161 : decode cL_law 161 = .ok (.iaload, 1) := by decide +kernel
theorem dL_law_162 : decode cL_law 162 = .ok (.aload_n 0, 1) := by decide +kernel
theorem dL_law_163 : decode cL_law 163 = .ok (.iload_n 3, 1) := by decide +kernel
theorem dL_law_164 : decode cL_law 164 = .ok (.iconst 2, 1) := by decide +kernel
theorem dL_law_165 : decode cL_law 165 = .ok (.iadd, 1) := by decide +kernel
theorem dL_law_166 : decode cL_law 166 = .ok (.iaload, 1) := by decide +kernel
theorem dL_law_167 : decode cL_law 167 = .ok (.invokevirtual 13, 3) := by decide +kernel
theorem dL_law_170 : decode cL_law 170 = .ok (.aload_n 2, 1) := by decide +kernel
theorem dL_law_171 : decode cL_law 171 = .ok (.aload_n 0, 1) := by decide +kernel
theorem dL_law_172 : decode cL_law 172 = .ok (.iload_n 3, 1) := by decide +kernel
theorem dL_law_173 : decode cL_law 173 = .ok (.iconst 1, 1) := by decide +kernel
theorem dL_law_174 : decode cL_law 174 = .ok (.iadd, 1) := by decide +kernel
theorem dL_law_175 : decode cL_law 175 = .ok (.iaload, 1) := by decide +kernel
theorem dL_law_176 : decode cL_law 176 = .ok (.aload_n 0, 1) := by decide +kernel
theorem dL_law_177 : decode cL_law 177 = .ok (.iload_n 3, 1) := by decide +kernel
theorem dL_law_178 : decode cL_law 178 = .ok (.iconst 2, 1) := by decide +kernel
theorem dL_law_179 : decode cL_law 179 = .ok (.iadd, 1) := by decide +kernel
theorem dL_law_180 : decode cL_law 180 = .ok (.iaload, 1) := by decide +kernel
theorem dL_law_181 : decode cL_law 181 = .ok (.invokevirtual 17, 3) := by decide +kernel
theorem dL_law_184 : decode cL_law 184 = .ok (.if_icmp .eq 816, 3) := by decide +kernel
theorem dL_law_187 : decode cL_law 187 = .ok (.iconst 0, 1) := by decide +kernel
theorem dL_law_188 : decode cL_law 188 = .ok (.ireturn, 1) := by decide +kernel
theorem dL_law_189 : decode cL_law 189 = .ok (.aload_n 1, 1) := by decide +kernel
theorem dL_law_190 : decode cL_law 190 = .ok (.aload_n 0, 1) := by decide +kernel
theorem dL_law_191 : decode cL_law 191 = .ok (.iload_n 3, 1) := by decide +kernel
theorem dL_law_192 : decode cL_law 192 = .ok (.iconst 1, 1) := by decide +kernel
theorem dL_law_193 : decode cL_law 193 = .ok (.iadd, 1) := by decide +kernel
theorem dL_law_194 : decode cL_law 194 = .ok (.iaload, 1) := by decide +kernel
theorem dL_law_195 : decode cL_law 195 = .ok (.aload_n 0, 1) := by decide +kernel
theorem dL_law_196 : decode cL_law 196 = .ok (.iload_n 3, 1) := by decide +kernel
theorem dL_law_197 : decode cL_law 197 = .ok (.iconst 2, 1) := by decide +kernel
theorem dL_law_198 : decode cL_law 198 = .ok (.iadd, 1) := by decide +kernel
theorem dL_law_199 : decode cL_law 199 = .ok (.iaload, 1) := by decide +kernel
theorem dL_law_200 : decode cL_law 200 = .ok (.aload_n 0, 1) := by decide +kernel
theorem dL_law_201 : decode cL_law 201 = .ok (.iload_n 3, 1) := by decide +kernel
theorem dL_law_202 : decode cL_law 202 = .ok (.iconst 3, 1) := by decide +kernel
theorem dL_law_203 : decode cL_law 203 = .ok (.iadd, 1) := by decide +kernel
theorem dL_law_204 : decode cL_law 204 = .ok (.iaload, 1) := by decide +kernel
theorem dL_law_205 : decode cL_law 205 = .ok (.invokevirtual 18, 3) := by decide +kernel
theorem dL_law_208 : decode cL_law 208 = .ok (.aload_n 2, 1) := by decide +kernel
theorem dL_law_209 : decode cL_law 209 = .ok (.aload_n 0, 1) := by decide +kernel
theorem dL_law_210 : decode cL_law 210 = .ok (.iload_n 3, 1) := by decide +kernel
theorem dL_law_211 : decode cL_law 211 = .ok (.iconst 1, 1) := by decide +kernel
theorem dL_law_212 : decode cL_law 212 = .ok (.iadd, 1) := by decide +kernel
theorem dL_law_213 : decode cL_law 213 = .ok (.iaload, 1) := by decide +kernel
theorem dL_law_214 : decode cL_law 214 = .ok (.aload_n 0, 1) := by decide +kernel
theorem dL_law_215 : decode cL_law 215 = .ok (.iload_n 3, 1) := by decide +kernel
theorem dL_law_216 : decode cL_law 216 = .ok (.iconst 2, 1) := by decide +kernel
theorem dL_law_217 : decode cL_law 217 = .ok (.iadd, 1) := by decide +kernel
theorem dL_law_218 : decode cL_law 218 = .ok (.iaload, 1) := by decide +kernel
theorem dL_law_219 : decode cL_law 219 = .ok (.aload_n 0, 1) := by decide +kernel
theorem dL_law_220 : decode cL_law 220 = .ok (.iload_n 3, 1) := by decide +kernel
theorem dL_law_221 : decode cL_law 221 = .ok (.iconst 3, 1) := by decide +kernel
theorem dL_law_222 : decode cL_law 222 = .ok (.iadd, 1) := by decide +kernel
theorem dL_law_223 : decode cL_law 223 = .ok (.iaload, 1) := by decide +kernel
theorem dL_law_224 : decode cL_law 224 = .ok (.invokevirtual 22, 3) := by decide +kernel
theorem dL_law_227 : decode cL_law 227 = .ok (.if_icmp .eq 773, 3) := by decide +kernel
theorem dL_law_230 : decode cL_law 230 = .ok (.iconst 0, 1) := by decide +kernel
theorem dL_law_231 : decode cL_law 231 = .ok (.ireturn, 1) := by decide +kernel
theorem dL_law_232 : decode cL_law 232 = .ok (.aload_n 1, 1) := by decide +kernel
theorem dL_law_233 : decode cL_law 233 = .ok (.aload_n 0, 1) := by decide +kernel
theorem dL_law_234 : decode cL_law 234 = .ok (.iload_n 3, 1) := by decide +kernel
theorem dL_law_235 : decode cL_law 235 = .ok (.iconst 1, 1) := by decide +kernel
theorem dL_law_236 : decode cL_law 236 = .ok (.iadd, 1) := by decide +kernel
theorem dL_law_237 : decode cL_law 237 = .ok (.iaload, 1) := by decide +kernel
theorem dL_law_238 : decode cL_law 238 = .ok (.aload_n 0, 1) := by decide +kernel
theorem dL_law_239 : decode cL_law 239 = .ok (.iload_n 3, 1) := by decide +kernel
theorem dL_law_240 : decode cL_law 240 = .ok (.iconst 2, 1) := by decide +kernel
theorem dL_law_241 : decode cL_law 241 = .ok (.iadd, 1) := by decide +kernel
theorem dL_law_242 : decode cL_law 242 = .ok (.iaload, 1) := by decide +kernel
theorem dL_law_243 : decode cL_law 243 = .ok (.aload_n 0, 1) := by decide +kernel
theorem dL_law_244 : decode cL_law 244 = .ok (.iload_n 3, 1) := by decide +kernel
theorem dL_law_245 : decode cL_law 245 = .ok (.iconst 3, 1) := by decide +kernel
theorem dL_law_246 : decode cL_law 246 = .ok (.iadd, 1) := by decide +kernel
theorem dL_law_247 : decode cL_law 247 = .ok (.iaload, 1) := by decide +kernel
theorem dL_law_248 : decode cL_law 248 = .ok (.invokevirtual 23, 3) := by decide +kernel
theorem dL_law_251 : decode cL_law 251 = .ok (.aload_n 2, 1) := by decide +kernel
theorem dL_law_252 : decode cL_law 252 = .ok (.aload_n 0, 1) := by decide +kernel
theorem dL_law_253 : decode cL_law 253 = .ok (.iload_n 3, 1) := by decide +kernel
theorem dL_law_254 : decode cL_law 254 = .ok (.iconst 1, 1) := by decide +kernel
theorem dL_law_255 : decode cL_law 255 = .ok (.iadd, 1) := by decide +kernel
theorem dL_law_256 : decode cL_law 256 = .ok (.iaload, 1) := by decide +kernel
theorem dL_law_257 : decode cL_law 257 = .ok (.aload_n 0, 1) := by decide +kernel
theorem dL_law_258 : decode cL_law 258 = .ok (.iload_n 3, 1) := by decide +kernel
theorem dL_law_259 : decode cL_law 259 = .ok (.iconst 2, 1) := by decide +kernel
theorem dL_law_260 : decode cL_law 260 = .ok (.iadd, 1) := by decide +kernel
theorem dL_law_261 : decode cL_law 261 = .ok (.iaload, 1) := by decide +kernel
theorem dL_law_262 : decode cL_law 262 = .ok (.aload_n 0, 1) := by decide +kernel
theorem dL_law_263 : decode cL_law 263 = .ok (.iload_n 3, 1) := by decide +kernel
theorem dL_law_264 : decode cL_law 264 = .ok (.iconst 3, 1) := by decide +kernel
theorem dL_law_265 : decode cL_law 265 = .ok (.iadd, 1) := by decide +kernel
theorem dL_law_266 : decode cL_law 266 = .ok (.iaload, 1) := by decide +kernel
theorem dL_law_267 : decode cL_law 267 = .ok (.invokevirtual 26, 3) := by decide +kernel
theorem dL_law_270 : decode cL_law 270 = .ok (.if_icmp .eq 730, 3) := by decide +kernel
theorem dL_law_273 : decode cL_law 273 = .ok (.iconst 0, 1) := by decide +kernel
theorem dL_law_274 : decode cL_law 274 = .ok (.ireturn, 1) := by decide +kernel
theorem dL_law_275 : decode cL_law 275 = .ok (.aload_n 1, 1) := by decide +kernel
theorem dL_law_276 : decode cL_law 276 = .ok (.aload_n 0, 1) := by decide +kernel
theorem dL_law_277 : decode cL_law 277 = .ok (.iload_n 3, 1) := by decide +kernel
theorem dL_law_278 : decode cL_law 278 = .ok (.iconst 1, 1) := by decide +kernel
theorem dL_law_279 : decode cL_law 279 = .ok (.iadd, 1) := by decide +kernel
theorem dL_law_280 : decode cL_law 280 = .ok (.iaload, 1) := by decide +kernel
theorem dL_law_281 : decode cL_law 281 = .ok (.aload_n 0, 1) := by decide +kernel
theorem dL_law_282 : decode cL_law 282 = .ok (.iload_n 3, 1) := by decide +kernel
theorem dL_law_283 : decode cL_law 283 = .ok (.iconst 2, 1) := by decide +kernel
theorem dL_law_284 : decode cL_law 284 = .ok (.iadd, 1) := by decide +kernel
theorem dL_law_285 : decode cL_law 285 = .ok (.iaload, 1) := by decide +kernel
theorem dL_law_286 : decode cL_law 286 = .ok (.aload_n 0, 1) := by decide +kernel
theorem dL_law_287 : decode cL_law 287 = .ok (.iload_n 3, 1) := by decide +kernel
theorem dL_law_288 : decode cL_law 288 = .ok (.iconst 3, 1) := by decide +kernel
theorem dL_law_289 : decode cL_law 289 = .ok (.iadd, 1) := by decide +kernel
theorem dL_law_290 : decode cL_law 290 = .ok (.iaload, 1) := by decide +kernel
theorem dL_law_291 : decode cL_law 291 = .ok (.aload_n 0, 1) := by decide +kernel
theorem dL_law_292 : decode cL_law 292 = .ok (.iload_n 3, 1) := by decide +kernel
theorem dL_law_293 : decode cL_law 293 = .ok (.iconst 4, 1) := by decide +kernel
theorem dL_law_294 : decode cL_law 294 = .ok (.iadd, 1) := by decide +kernel
theorem dL_law_295 : decode cL_law 295 = .ok (.iaload, 1) := by decide +kernel
theorem dL_law_296 : decode cL_law 296 = .ok (.invokevirtual 27, 3) := by decide +kernel
theorem dL_law_299 : decode cL_law 299 = .ok (.aload_n 2, 1) := by decide +kernel
theorem dL_law_300 : decode cL_law 300 = .ok (.aload_n 0, 1) := by decide +kernel
theorem dL_law_301 : decode cL_law 301 = .ok (.iload_n 3, 1) := by decide +kernel
theorem dL_law_302 : decode cL_law 302 = .ok (.iconst 1, 1) := by decide +kernel
theorem dL_law_303 : decode cL_law 303 = .ok (.iadd, 1) := by decide +kernel
theorem dL_law_304 : decode cL_law 304 = .ok (.iaload, 1) := by decide +kernel
theorem dL_law_305 : decode cL_law 305 = .ok (.aload_n 0, 1) := by decide +kernel
theorem dL_law_306 : decode cL_law 306 = .ok (.iload_n 3, 1) := by decide +kernel
theorem dL_law_307 : decode cL_law 307 = .ok (.iconst 2, 1) := by decide +kernel
theorem dL_law_308 : decode cL_law 308 = .ok (.iadd, 1) := by decide +kernel
theorem dL_law_309 : decode cL_law 309 = .ok (.iaload, 1) := by decide +kernel
theorem dL_law_310 : decode cL_law 310 = .ok (.aload_n 0, 1) := by decide +kernel
theorem dL_law_311 : decode cL_law 311 = .ok (.iload_n 3, 1) := by decide +kernel
theorem dL_law_312 : decode cL_law 312 = .ok (.iconst 3, 1) := by decide +kernel
theorem dL_law_313 : decode cL_law 313 = .ok (.iadd, 1) := by decide +kernel
theorem dL_law_314 : decode cL_law 314 = .ok (.iaload, 1) := by decide +kernel
theorem dL_law_315 : decode cL_law 315 = .ok (.aload_n 0, 1) := by decide +kernel
theorem dL_law_316 : decode cL_law 316 = .ok (.iload_n 3, 1) := by decide +kernel
theorem dL_law_317 : decode cL_law 317 = .ok (.iconst 4, 1) := by decide +kernel
theorem dL_law_318 : decode cL_law 318 = .ok (.iadd, 1) := by decide +kernel
theorem dL_law_319 : decode cL_law 319 = .ok (.iaload, 1) := by decide +kernel
theorem dL_law_320 : decode cL_law 320 = .ok (.invokevirtual 31, 3) := by decide +kernel
theorem dL_law_323 : decode cL_law 323 = .ok (.if_icmp .eq 677, 3) := by decide +kernel
theorem dL_law_326 : decode cL_law 326 = .ok (.iconst 0, 1) := by decide +kernel
theorem dL_law_327 : decode cL_law 327 = .ok (.ireturn, 1) := by decide +kernel
theorem dL_law_328 : decode cL_law 328 = .ok (.aload_n 1, 1) := by decide +kernel
theorem dL_law_329 : decode cL_law 329 = .ok (.aload_n 0, 1) := by decide +kernel
theorem dL_law_330 : decode cL_law 330 = .ok (.iload_n 3, 1) := by decide +kernel
theorem dL_law_331 : decode cL_law 331 = .ok (.iconst 1, 1) := by decide +kernel
theorem dL_law_332 : decode cL_law 332 = .ok (.iadd, 1) := by decide +kernel
theorem dL_law_333 : decode cL_law 333 = .ok (.iaload, 1) := by decide +kernel
theorem dL_law_334 : decode cL_law 334 = .ok (.invokevirtual 32, 3) := by decide +kernel
theorem dL_law_337 : decode cL_law 337 = .ok (.aload_n 2, 1) := by decide +kernel
theorem dL_law_338 : decode cL_law 338 = .ok (.aload_n 0, 1) := by decide +kernel
theorem dL_law_339 : decode cL_law 339 = .ok (.iload_n 3, 1) := by decide +kernel
theorem dL_law_340 : decode cL_law 340 = .ok (.iconst 1, 1) := by decide +kernel
theorem dL_law_341 : decode cL_law 341 = .ok (.iadd, 1) := by decide +kernel
theorem dL_law_342 : decode cL_law 342 = .ok (.iaload, 1) := by decide +kernel
theorem dL_law_343 : decode cL_law 343 = .ok (.invokevirtual 36, 3) := by decide +kernel
theorem dL_law_346 : decode cL_law 346 = .ok (.if_icmp .eq 654, 3) := by decide +kernel
theorem dL_law_349 : decode cL_law 349 = .ok (.iconst 0, 1) := by decide +kernel
theorem dL_law_350 : decode cL_law 350 = .ok (.ireturn, 1) := by decide +kernel
theorem dL_law_351 : decode cL_law 351 = .ok (.aload_n 1, 1) := by decide +kernel
theorem dL_law_352 : decode cL_law 352 = .ok (.aload_n 0, 1) := by decide +kernel
theorem dL_law_353 : decode cL_law 353 = .ok (.iload_n 3, 1) := by decide +kernel
theorem dL_law_354 : decode cL_law 354 = .ok (.iconst 1, 1) := by decide +kernel
theorem dL_law_355 : decode cL_law 355 = .ok (.iadd, 1) := by decide +kernel
theorem dL_law_356 : decode cL_law 356 = .ok (.iaload, 1) := by decide +kernel
theorem dL_law_357 : decode cL_law 357 = .ok (.aload_n 0, 1) := by decide +kernel
theorem dL_law_358 : decode cL_law 358 = .ok (.iload_n 3, 1) := by decide +kernel
theorem dL_law_359 : decode cL_law 359 = .ok (.iconst 2, 1) := by decide +kernel
theorem dL_law_360 : decode cL_law 360 = .ok (.iadd, 1) := by decide +kernel
theorem dL_law_361 : decode cL_law 361 = .ok (.iaload, 1) := by decide +kernel
theorem dL_law_362 : decode cL_law 362 = .ok (.invokevirtual 37, 3) := by decide +kernel
theorem dL_law_365 : decode cL_law 365 = .ok (.aload_n 2, 1) := by decide +kernel
theorem dL_law_366 : decode cL_law 366 = .ok (.aload_n 0, 1) := by decide +kernel
theorem dL_law_367 : decode cL_law 367 = .ok (.iload_n 3, 1) := by decide +kernel
theorem dL_law_368 : decode cL_law 368 = .ok (.iconst 1, 1) := by decide +kernel
theorem dL_law_369 : decode cL_law 369 = .ok (.iadd, 1) := by decide +kernel
theorem dL_law_370 : decode cL_law 370 = .ok (.iaload, 1) := by decide +kernel
theorem dL_law_371 : decode cL_law 371 = .ok (.aload_n 0, 1) := by decide +kernel
theorem dL_law_372 : decode cL_law 372 = .ok (.iload_n 3, 1) := by decide +kernel
theorem dL_law_373 : decode cL_law 373 = .ok (.iconst 2, 1) := by decide +kernel
theorem dL_law_374 : decode cL_law 374 = .ok (.iadd, 1) := by decide +kernel
theorem dL_law_375 : decode cL_law 375 = .ok (.iaload, 1) := by decide +kernel
theorem dL_law_376 : decode cL_law 376 = .ok (.invokevirtual 40, 3) := by decide +kernel
theorem dL_law_379 : decode cL_law 379 = .ok (.if_icmp .eq 621, 3) := by decide +kernel
theorem dL_law_382 : decode cL_law 382 = .ok (.iconst 0, 1) := by decide +kernel
theorem dL_law_383 : decode cL_law 383 = .ok (.ireturn, 1) := by decide +kernel
theorem dL_law_384 : decode cL_law 384 = .ok (.aload_n 1, 1) := by decide +kernel
theorem dL_law_385 : decode cL_law 385 = .ok (.aload_n 0, 1) := by decide +kernel
theorem dL_law_386 : decode cL_law 386 = .ok (.iload_n 3, 1) := by decide +kernel
theorem dL_law_387 : decode cL_law 387 = .ok (.iconst 1, 1) := by decide +kernel
theorem dL_law_388 : decode cL_law 388 = .ok (.iadd, 1) := by decide +kernel
theorem dL_law_389 : decode cL_law 389 = .ok (.iaload, 1) := by decide +kernel
theorem dL_law_390 : decode cL_law 390 = .ok (.aload_n 0, 1) := by decide +kernel
theorem dL_law_391 : decode cL_law 391 = .ok (.iload_n 3, 1) := by decide +kernel
theorem dL_law_392 : decode cL_law 392 = .ok (.iconst 2, 1) := by decide +kernel
theorem dL_law_393 : decode cL_law 393 = .ok (.iadd, 1) := by decide +kernel
theorem dL_law_394 : decode cL_law 394 = .ok (.iaload, 1) := by decide +kernel
theorem dL_law_395 : decode cL_law 395 = .ok (.aload_n 0, 1) := by decide +kernel
theorem dL_law_396 : decode cL_law 396 = .ok (.iload_n 3, 1) := by decide +kernel
theorem dL_law_397 : decode cL_law 397 = .ok (.iconst 3, 1) := by decide +kernel
theorem dL_law_398 : decode cL_law 398 = .ok (.iadd, 1) := by decide +kernel
theorem dL_law_399 : decode cL_law 399 = .ok (.iaload, 1) := by decide +kernel
theorem dL_law_400 : decode cL_law 400 = .ok (.invokevirtual 41, 3) := by decide +kernel
theorem dL_law_403 : decode cL_law 403 = .ok (.aload_n 2, 1) := by decide +kernel
theorem dL_law_404 : decode cL_law 404 = .ok (.aload_n 0, 1) := by decide +kernel
theorem dL_law_405 : decode cL_law 405 = .ok (.iload_n 3, 1) := by decide +kernel
theorem dL_law_406 : decode cL_law 406 = .ok (.iconst 1, 1) := by decide +kernel
theorem dL_law_407 : decode cL_law 407 = .ok (.iadd, 1) := by decide +kernel
theorem dL_law_408 : decode cL_law 408 = .ok (.iaload, 1) := by decide +kernel
theorem dL_law_409 : decode cL_law 409 = .ok (.aload_n 0, 1) := by decide +kernel
theorem dL_law_410 : decode cL_law 410 = .ok (.iload_n 3, 1) := by decide +kernel
theorem dL_law_411 : decode cL_law 411 = .ok (.iconst 2, 1) := by decide +kernel
theorem dL_law_412 : decode cL_law 412 = .ok (.iadd, 1) := by decide +kernel
theorem dL_law_413 : decode cL_law 413 = .ok (.iaload, 1) := by decide +kernel
theorem dL_law_414 : decode cL_law 414 = .ok (.aload_n 0, 1) := by decide +kernel
theorem dL_law_415 : decode cL_law 415 = .ok (.iload_n 3, 1) := by decide +kernel
theorem dL_law_416 : decode cL_law 416 = .ok (.iconst 3, 1) := by decide +kernel
theorem dL_law_417 : decode cL_law 417 = .ok (.iadd, 1) := by decide +kernel
theorem dL_law_418 : decode cL_law 418 = .ok (.iaload, 1) := by decide +kernel
theorem dL_law_419 : decode cL_law 419 = .ok (.invokevirtual 44, 3) := by decide +kernel
theorem dL_law_422 : decode cL_law 422 = .ok (.if_icmp .eq 578, 3) := by decide +kernel
theorem dL_law_425 : decode cL_law 425 = .ok (.iconst 0, 1) := by decide +kernel
theorem dL_law_426 : decode cL_law 426 = .ok (.ireturn, 1) := by decide +kernel
theorem dL_law_427 : decode cL_law 427 = .ok (.aload_n 1, 1) := by decide +kernel
theorem dL_law_428 : decode cL_law 428 = .ok (.aload_n 0, 1) := by decide +kernel
theorem dL_law_429 : decode cL_law 429 = .ok (.iload_n 3, 1) := by decide +kernel
theorem dL_law_430 : decode cL_law 430 = .ok (.iconst 1, 1) := by decide +kernel
theorem dL_law_431 : decode cL_law 431 = .ok (.iadd, 1) := by decide +kernel
theorem dL_law_432 : decode cL_law 432 = .ok (.iaload, 1) := by decide +kernel
theorem dL_law_433 : decode cL_law 433 = .ok (.aload_n 0, 1) := by decide +kernel
theorem dL_law_434 : decode cL_law 434 = .ok (.iload_n 3, 1) := by decide +kernel
theorem dL_law_435 : decode cL_law 435 = .ok (.iconst 2, 1) := by decide +kernel
theorem dL_law_436 : decode cL_law 436 = .ok (.iadd, 1) := by decide +kernel
theorem dL_law_437 : decode cL_law 437 = .ok (.iaload, 1) := by decide +kernel
theorem dL_law_438 : decode cL_law 438 = .ok (.aload_n 0, 1) := by decide +kernel
theorem dL_law_439 : decode cL_law 439 = .ok (.iload_n 3, 1) := by decide +kernel
theorem dL_law_440 : decode cL_law 440 = .ok (.iconst 3, 1) := by decide +kernel
theorem dL_law_441 : decode cL_law 441 = .ok (.iadd, 1) := by decide +kernel
theorem dL_law_442 : decode cL_law 442 = .ok (.iaload, 1) := by decide +kernel
theorem dL_law_443 : decode cL_law 443 = .ok (.invokevirtual 45, 3) := by decide +kernel
theorem dL_law_446 : decode cL_law 446 = .ok (.aload_n 2, 1) := by decide +kernel
theorem dL_law_447 : decode cL_law 447 = .ok (.aload_n 0, 1) := by decide +kernel
theorem dL_law_448 : decode cL_law 448 = .ok (.iload_n 3, 1) := by decide +kernel
theorem dL_law_449 : decode cL_law 449 = .ok (.iconst 1, 1) := by decide +kernel
theorem dL_law_450 : decode cL_law 450 = .ok (.iadd, 1) := by decide +kernel
theorem dL_law_451 : decode cL_law 451 = .ok (.iaload, 1) := by decide +kernel
theorem dL_law_452 : decode cL_law 452 = .ok (.aload_n 0, 1) := by decide +kernel
theorem dL_law_453 : decode cL_law 453 = .ok (.iload_n 3, 1) := by decide +kernel
theorem dL_law_454 : decode cL_law 454 = .ok (.iconst 2, 1) := by decide +kernel
theorem dL_law_455 : decode cL_law 455 = .ok (.iadd, 1) := by decide +kernel
theorem dL_law_456 : decode cL_law 456 = .ok (.iaload, 1) := by decide +kernel
theorem dL_law_457 : decode cL_law 457 = .ok (.aload_n 0, 1) := by decide +kernel
theorem dL_law_458 : decode cL_law 458 = .ok (.iload_n 3, 1) := by decide +kernel
theorem dL_law_459 : decode cL_law 459 = .ok (.iconst 3, 1) := by decide +kernel
theorem dL_law_460 : decode cL_law 460 = .ok (.iadd, 1) := by decide +kernel
theorem dL_law_461 : decode cL_law 461 = .ok (.iaload, 1) := by decide +kernel
theorem dL_law_462 : decode cL_law 462 = .ok (.invokevirtual 48, 3) := by decide +kernel
theorem dL_law_465 : decode cL_law 465 = .ok (.if_icmp .eq 535, 3) := by decide +kernel
theorem dL_law_468 : decode cL_law 468 = .ok (.iconst 0, 1) := by decide +kernel
theorem dL_law_469 : decode cL_law 469 = .ok (.ireturn, 1) := by decide +kernel
theorem dL_law_470 : decode cL_law 470 = .ok (.aload_n 1, 1) := by decide +kernel
theorem dL_law_471 : decode cL_law 471 = .ok (.aload_n 0, 1) := by decide +kernel
theorem dL_law_472 : decode cL_law 472 = .ok (.iload_n 3, 1) := by decide +kernel
theorem dL_law_473 : decode cL_law 473 = .ok (.iconst 1, 1) := by decide +kernel
theorem dL_law_474 : decode cL_law 474 = .ok (.iadd, 1) := by decide +kernel
theorem dL_law_475 : decode cL_law 475 = .ok (.iaload, 1) := by decide +kernel
theorem dL_law_476 : decode cL_law 476 = .ok (.invokevirtual 49, 3) := by decide +kernel
theorem dL_law_479 : decode cL_law 479 = .ok (.aload_n 2, 1) := by decide +kernel
theorem dL_law_480 : decode cL_law 480 = .ok (.aload_n 0, 1) := by decide +kernel
theorem dL_law_481 : decode cL_law 481 = .ok (.iload_n 3, 1) := by decide +kernel
theorem dL_law_482 : decode cL_law 482 = .ok (.iconst 1, 1) := by decide +kernel
theorem dL_law_483 : decode cL_law 483 = .ok (.iadd, 1) := by decide +kernel
theorem dL_law_484 : decode cL_law 484 = .ok (.iaload, 1) := by decide +kernel
theorem dL_law_485 : decode cL_law 485 = .ok (.invokevirtual 52, 3) := by decide +kernel
theorem dL_law_488 : decode cL_law 488 = .ok (.if_icmp .eq 512, 3) := by decide +kernel
theorem dL_law_491 : decode cL_law 491 = .ok (.iconst 0, 1) := by decide +kernel
theorem dL_law_492 : decode cL_law 492 = .ok (.ireturn, 1) := by decide +kernel
theorem dL_law_493 : decode cL_law 493 = .ok (.aload_n 1, 1) := by decide +kernel
theorem dL_law_494 : decode cL_law 494 = .ok (.aload_n 0, 1) := by decide +kernel
theorem dL_law_495 : decode cL_law 495 = .ok (.iload_n 3, 1) := by decide +kernel
theorem dL_law_496 : decode cL_law 496 = .ok (.iconst 1, 1) := by decide +kernel
theorem dL_law_497 : decode cL_law 497 = .ok (.iadd, 1) := by decide +kernel
theorem dL_law_498 : decode cL_law 498 = .ok (.iaload, 1) := by decide +kernel
theorem dL_law_499 : decode cL_law 499 = .ok (.aload_n 0, 1) := by decide +kernel
theorem dL_law_500 : decode cL_law 500 = .ok (.iload_n 3, 1) := by decide +kernel
theorem dL_law_501 : decode cL_law 501 = .ok (.iconst 2, 1) := by decide +kernel
theorem dL_law_502 : decode cL_law 502 = .ok (.iadd, 1) := by decide +kernel
theorem dL_law_503 : decode cL_law 503 = .ok (.iaload, 1) := by decide +kernel
theorem dL_law_504 : decode cL_law 504 = .ok (.aload_n 0, 1) := by decide +kernel
theorem dL_law_505 : decode cL_law 505 = .ok (.iload_n 3, 1) := by decide +kernel
theorem dL_law_506 : decode cL_law 506 = .ok (.iconst 3, 1) := by decide +kernel
theorem dL_law_507 : decode cL_law 507 = .ok (.iadd, 1) := by decide +kernel
theorem dL_law_508 : decode cL_law 508 = .ok (.iaload, 1) := by decide +kernel
theorem dL_law_509 : decode cL_law 509 = .ok (.aload_n 0, 1) := by decide +kernel
theorem dL_law_510 : decode cL_law 510 = .ok (.iload_n 3, 1) := by decide +kernel
theorem dL_law_511 : decode cL_law 511 = .ok (.iconst 4, 1) := by decide +kernel
theorem dL_law_512 : decode cL_law 512 = .ok (.iadd, 1) := by decide +kernel
theorem dL_law_513 : decode cL_law 513 = .ok (.iaload, 1) := by decide +kernel
theorem dL_law_514 : decode cL_law 514 = .ok (.invokevirtual 53, 3) := by decide +kernel
theorem dL_law_517 : decode cL_law 517 = .ok (.aload_n 2, 1) := by decide +kernel
theorem dL_law_518 : decode cL_law 518 = .ok (.aload_n 0, 1) := by decide +kernel
theorem dL_law_519 : decode cL_law 519 = .ok (.iload_n 3, 1) := by decide +kernel
theorem dL_law_520 : decode cL_law 520 = .ok (.iconst 1, 1) := by decide +kernel
theorem dL_law_521 : decode cL_law 521 = .ok (.iadd, 1) := by decide +kernel
theorem dL_law_522 : decode cL_law 522 = .ok (.iaload, 1) := by decide +kernel
theorem dL_law_523 : decode cL_law 523 = .ok (.aload_n 0, 1) := by decide +kernel
theorem dL_law_524 : decode cL_law 524 = .ok (.iload_n 3, 1) := by decide +kernel
theorem dL_law_525 : decode cL_law 525 = .ok (.iconst 2, 1) := by decide +kernel
theorem dL_law_526 : decode cL_law 526 = .ok (.iadd, 1) := by decide +kernel
theorem dL_law_527 : decode cL_law 527 = .ok (.iaload, 1) := by decide +kernel
theorem dL_law_528 : decode cL_law 528 = .ok (.aload_n 0, 1) := by decide +kernel
theorem dL_law_529 : decode cL_law 529 = .ok (.iload_n 3, 1) := by decide +kernel
theorem dL_law_530 : decode cL_law 530 = .ok (.iconst 3, 1) := by decide +kernel
theorem dL_law_531 : decode cL_law 531 = .ok (.iadd, 1) := by decide +kernel
theorem dL_law_532 : decode cL_law 532 = .ok (.iaload, 1) := by decide +kernel
theorem dL_law_533 : decode cL_law 533 = .ok (.aload_n 0, 1) := by decide +kernel
theorem dL_law_534 : decode cL_law 534 = .ok (.iload_n 3, 1) := by decide +kernel
theorem dL_law_535 : decode cL_law 535 = .ok (.iconst 4, 1) := by decide +kernel
theorem dL_law_536 : decode cL_law 536 = .ok (.iadd, 1) := by decide +kernel
theorem dL_law_537 : decode cL_law 537 = .ok (.iaload, 1) := by decide +kernel
theorem dL_law_538 : decode cL_law 538 = .ok (.invokevirtual 56, 3) := by decide +kernel
theorem dL_law_541 : decode cL_law 541 = .ok (.if_icmp .eq 459, 3) := by decide +kernel
theorem dL_law_544 : decode cL_law 544 = .ok (.iconst 0, 1) := by decide +kernel
theorem dL_law_545 : decode cL_law 545 = .ok (.ireturn, 1) := by decide +kernel
theorem dL_law_546 : decode cL_law 546 = .ok (.aload_n 1, 1) := by decide +kernel
theorem dL_law_547 : decode cL_law 547 = .ok (.aload_n 0, 1) := by decide +kernel
theorem dL_law_548 : decode cL_law 548 = .ok (.iload_n 3, 1) := by decide +kernel
theorem dL_law_549 : decode cL_law 549 = .ok (.iconst 1, 1) := by decide +kernel
theorem dL_law_550 : decode cL_law 550 = .ok (.iadd, 1) := by decide +kernel
theorem dL_law_551 : decode cL_law 551 = .ok (.iaload, 1) := by decide +kernel
theorem dL_law_552 : decode cL_law 552 = .ok (.aload_n 0, 1) := by decide +kernel
theorem dL_law_553 : decode cL_law 553 = .ok (.iload_n 3, 1) := by decide +kernel
theorem dL_law_554 : decode cL_law 554 = .ok (.iconst 2, 1) := by decide +kernel
theorem dL_law_555 : decode cL_law 555 = .ok (.iadd, 1) := by decide +kernel
theorem dL_law_556 : decode cL_law 556 = .ok (.iaload, 1) := by decide +kernel
theorem dL_law_557 : decode cL_law 557 = .ok (.aload_n 0, 1) := by decide +kernel
theorem dL_law_558 : decode cL_law 558 = .ok (.iload_n 3, 1) := by decide +kernel
theorem dL_law_559 : decode cL_law 559 = .ok (.iconst 3, 1) := by decide +kernel
theorem dL_law_560 : decode cL_law 560 = .ok (.iadd, 1) := by decide +kernel
theorem dL_law_561 : decode cL_law 561 = .ok (.iaload, 1) := by decide +kernel
theorem dL_law_562 : decode cL_law 562 = .ok (.invokevirtual 57, 3) := by decide +kernel
theorem dL_law_565 : decode cL_law 565 = .ok (.aload_n 2, 1) := by decide +kernel
theorem dL_law_566 : decode cL_law 566 = .ok (.aload_n 0, 1) := by decide +kernel
theorem dL_law_567 : decode cL_law 567 = .ok (.iload_n 3, 1) := by decide +kernel
theorem dL_law_568 : decode cL_law 568 = .ok (.iconst 1, 1) := by decide +kernel
theorem dL_law_569 : decode cL_law 569 = .ok (.iadd, 1) := by decide +kernel
theorem dL_law_570 : decode cL_law 570 = .ok (.iaload, 1) := by decide +kernel
theorem dL_law_571 : decode cL_law 571 = .ok (.aload_n 0, 1) := by decide +kernel
theorem dL_law_572 : decode cL_law 572 = .ok (.iload_n 3, 1) := by decide +kernel
theorem dL_law_573 : decode cL_law 573 = .ok (.iconst 2, 1) := by decide +kernel
theorem dL_law_574 : decode cL_law 574 = .ok (.iadd, 1) := by decide +kernel
theorem dL_law_575 : decode cL_law 575 = .ok (.iaload, 1) := by decide +kernel
theorem dL_law_576 : decode cL_law 576 = .ok (.aload_n 0, 1) := by decide +kernel
theorem dL_law_577 : decode cL_law 577 = .ok (.iload_n 3, 1) := by decide +kernel
theorem dL_law_578 : decode cL_law 578 = .ok (.iconst 3, 1) := by decide +kernel
theorem dL_law_579 : decode cL_law 579 = .ok (.iadd, 1) := by decide +kernel
theorem dL_law_580 : decode cL_law 580 = .ok (.iaload, 1) := by decide +kernel
theorem dL_law_581 : decode cL_law 581 = .ok (.invokevirtual 60, 3) := by decide +kernel
theorem dL_law_584 : decode cL_law 584 = .ok (.if_icmp .eq 416, 3) := by decide +kernel
theorem dL_law_587 : decode cL_law 587 = .ok (.iconst 0, 1) := by decide +kernel
theorem dL_law_588 : decode cL_law 588 = .ok (.ireturn, 1) := by decide +kernel
theorem dL_law_589 : decode cL_law 589 = .ok (.aload_n 1, 1) := by decide +kernel
theorem dL_law_590 : decode cL_law 590 = .ok (.aload_n 0, 1) := by decide +kernel
theorem dL_law_591 : decode cL_law 591 = .ok (.iload_n 3, 1) := by decide +kernel
theorem dL_law_592 : decode cL_law 592 = .ok (.iconst 1, 1) := by decide +kernel
theorem dL_law_593 : decode cL_law 593 = .ok (.iadd, 1) := by decide +kernel
theorem dL_law_594 : decode cL_law 594 = .ok (.iaload, 1) := by decide +kernel
theorem dL_law_595 : decode cL_law 595 = .ok (.aload_n 0, 1) := by decide +kernel
theorem dL_law_596 : decode cL_law 596 = .ok (.iload_n 3, 1) := by decide +kernel
theorem dL_law_597 : decode cL_law 597 = .ok (.iconst 2, 1) := by decide +kernel
theorem dL_law_598 : decode cL_law 598 = .ok (.iadd, 1) := by decide +kernel
theorem dL_law_599 : decode cL_law 599 = .ok (.iaload, 1) := by decide +kernel
theorem dL_law_600 : decode cL_law 600 = .ok (.invokevirtual 61, 3) := by decide +kernel
theorem dL_law_603 : decode cL_law 603 = .ok (.aload_n 2, 1) := by decide +kernel
theorem dL_law_604 : decode cL_law 604 = .ok (.aload_n 0, 1) := by decide +kernel
theorem dL_law_605 : decode cL_law 605 = .ok (.iload_n 3, 1) := by decide +kernel
theorem dL_law_606 : decode cL_law 606 = .ok (.iconst 1, 1) := by decide +kernel
theorem dL_law_607 : decode cL_law 607 = .ok (.iadd, 1) := by decide +kernel
theorem dL_law_608 : decode cL_law 608 = .ok (.iaload, 1) := by decide +kernel
theorem dL_law_609 : decode cL_law 609 = .ok (.aload_n 0, 1) := by decide +kernel
theorem dL_law_610 : decode cL_law 610 = .ok (.iload_n 3, 1) := by decide +kernel
theorem dL_law_611 : decode cL_law 611 = .ok (.iconst 2, 1) := by decide +kernel
theorem dL_law_612 : decode cL_law 612 = .ok (.iadd, 1) := by decide +kernel
theorem dL_law_613 : decode cL_law 613 = .ok (.iaload, 1) := by decide +kernel
theorem dL_law_614 : decode cL_law 614 = .ok (.invokevirtual 64, 3) := by decide +kernel
theorem dL_law_617 : decode cL_law 617 = .ok (.if_icmp .eq 383, 3) := by decide +kernel
theorem dL_law_620 : decode cL_law 620 = .ok (.iconst 0, 1) := by decide +kernel
theorem dL_law_621 : decode cL_law 621 = .ok (.ireturn, 1) := by decide +kernel
theorem dL_law_622 : decode cL_law 622 = .ok (.aload_n 1, 1) := by decide +kernel
theorem dL_law_623 : decode cL_law 623 = .ok (.aload_n 0, 1) := by decide +kernel
theorem dL_law_624 : decode cL_law 624 = .ok (.iload_n 3, 1) := by decide +kernel
theorem dL_law_625 : decode cL_law 625 = .ok (.iconst 1, 1) := by decide +kernel
theorem dL_law_626 : decode cL_law 626 = .ok (.iadd, 1) := by decide +kernel
theorem dL_law_627 : decode cL_law 627 = .ok (.iaload, 1) := by decide +kernel
theorem dL_law_628 : decode cL_law 628 = .ok (.invokevirtual 65, 3) := by decide +kernel
theorem dL_law_631 : decode cL_law 631 = .ok (.aload_n 2, 1) := by decide +kernel
theorem dL_law_632 : decode cL_law 632 = .ok (.aload_n 0, 1) := by decide +kernel
theorem dL_law_633 : decode cL_law 633 = .ok (.iload_n 3, 1) := by decide +kernel
theorem dL_law_634 : decode cL_law 634 = .ok (.iconst 1, 1) := by decide +kernel
theorem dL_law_635 : decode cL_law 635 = .ok (.iadd, 1) := by decide +kernel
theorem dL_law_636 : decode cL_law 636 = .ok (.iaload, 1) := by decide +kernel
theorem dL_law_637 : decode cL_law 637 = .ok (.invokevirtual 68, 3) := by decide +kernel
theorem dL_law_640 : decode cL_law 640 = .ok (.if_icmp .eq 360, 3) := by decide +kernel
theorem dL_law_643 : decode cL_law 643 = .ok (.iconst 0, 1) := by decide +kernel
theorem dL_law_644 : decode cL_law 644 = .ok (.ireturn, 1) := by decide +kernel
theorem dL_law_645 : decode cL_law 645 = .ok (.aload_n 1, 1) := by decide +kernel
theorem dL_law_646 : decode cL_law 646 = .ok (.aload_n 0, 1) := by decide +kernel
theorem dL_law_647 : decode cL_law 647 = .ok (.iload_n 3, 1) := by decide +kernel
theorem dL_law_648 : decode cL_law 648 = .ok (.iconst 1, 1) := by decide +kernel
theorem dL_law_649 : decode cL_law 649 = .ok (.iadd, 1) := by decide +kernel
theorem dL_law_650 : decode cL_law 650 = .ok (.iaload, 1) := by decide +kernel
theorem dL_law_651 : decode cL_law 651 = .ok (.aload_n 0, 1) := by decide +kernel
theorem dL_law_652 : decode cL_law 652 = .ok (.iload_n 3, 1) := by decide +kernel
theorem dL_law_653 : decode cL_law 653 = .ok (.iconst 2, 1) := by decide +kernel
theorem dL_law_654 : decode cL_law 654 = .ok (.iadd, 1) := by decide +kernel
theorem dL_law_655 : decode cL_law 655 = .ok (.iaload, 1) := by decide +kernel
theorem dL_law_656 : decode cL_law 656 = .ok (.invokevirtual 69, 3) := by decide +kernel
theorem dL_law_659 : decode cL_law 659 = .ok (.aload_n 2, 1) := by decide +kernel
theorem dL_law_660 : decode cL_law 660 = .ok (.aload_n 0, 1) := by decide +kernel
theorem dL_law_661 : decode cL_law 661 = .ok (.iload_n 3, 1) := by decide +kernel
theorem dL_law_662 : decode cL_law 662 = .ok (.iconst 1, 1) := by decide +kernel
theorem dL_law_663 : decode cL_law 663 = .ok (.iadd, 1) := by decide +kernel
theorem dL_law_664 : decode cL_law 664 = .ok (.iaload, 1) := by decide +kernel
theorem dL_law_665 : decode cL_law 665 = .ok (.aload_n 0, 1) := by decide +kernel
theorem dL_law_666 : decode cL_law 666 = .ok (.iload_n 3, 1) := by decide +kernel
theorem dL_law_667 : decode cL_law 667 = .ok (.iconst 2, 1) := by decide +kernel
theorem dL_law_668 : decode cL_law 668 = .ok (.iadd, 1) := by decide +kernel
theorem dL_law_669 : decode cL_law 669 = .ok (.iaload, 1) := by decide +kernel
theorem dL_law_670 : decode cL_law 670 = .ok (.invokevirtual 72, 3) := by decide +kernel
theorem dL_law_673 : decode cL_law 673 = .ok (.if_icmp .eq 327, 3) := by decide +kernel
theorem dL_law_676 : decode cL_law 676 = .ok (.iconst 0, 1) := by decide +kernel
theorem dL_law_677 : decode cL_law 677 = .ok (.ireturn, 1) := by decide +kernel
theorem dL_law_678 : decode cL_law 678 = .ok (.aload_n 1, 1) := by decide +kernel
theorem dL_law_679 : decode cL_law 679 = .ok (.aload_n 0, 1) := by decide +kernel
theorem dL_law_680 : decode cL_law 680 = .ok (.iload_n 3, 1) := by decide +kernel
theorem dL_law_681 : decode cL_law 681 = .ok (.iconst 1, 1) := by decide +kernel
theorem dL_law_682 : decode cL_law 682 = .ok (.iadd, 1) := by decide +kernel
theorem dL_law_683 : decode cL_law 683 = .ok (.iaload, 1) := by decide +kernel
theorem dL_law_684 : decode cL_law 684 = .ok (.aload_n 0, 1) := by decide +kernel
theorem dL_law_685 : decode cL_law 685 = .ok (.iload_n 3, 1) := by decide +kernel
theorem dL_law_686 : decode cL_law 686 = .ok (.iconst 2, 1) := by decide +kernel
theorem dL_law_687 : decode cL_law 687 = .ok (.iadd, 1) := by decide +kernel
theorem dL_law_688 : decode cL_law 688 = .ok (.iaload, 1) := by decide +kernel
theorem dL_law_689 : decode cL_law 689 = .ok (.invokevirtual 73, 3) := by decide +kernel
theorem dL_law_692 : decode cL_law 692 = .ok (.aload_n 2, 1) := by decide +kernel
theorem dL_law_693 : decode cL_law 693 = .ok (.aload_n 0, 1) := by decide +kernel
theorem dL_law_694 : decode cL_law 694 = .ok (.iload_n 3, 1) := by decide +kernel
theorem dL_law_695 : decode cL_law 695 = .ok (.iconst 1, 1) := by decide +kernel
theorem dL_law_696 : decode cL_law 696 = .ok (.iadd, 1) := by decide +kernel
theorem dL_law_697 : decode cL_law 697 = .ok (.iaload, 1) := by decide +kernel
theorem dL_law_698 : decode cL_law 698 = .ok (.aload_n 0, 1) := by decide +kernel
theorem dL_law_699 : decode cL_law 699 = .ok (.iload_n 3, 1) := by decide +kernel
theorem dL_law_700 : decode cL_law 700 = .ok (.iconst 2, 1) := by decide +kernel
theorem dL_law_701 : decode cL_law 701 = .ok (.iadd, 1) := by decide +kernel
theorem dL_law_702 : decode cL_law 702 = .ok (.iaload, 1) := by decide +kernel
theorem dL_law_703 : decode cL_law 703 = .ok (.invokevirtual 76, 3) := by decide +kernel
theorem dL_law_706 : decode cL_law 706 = .ok (.if_icmp .eq 294, 3) := by decide +kernel
theorem dL_law_709 : decode cL_law 709 = .ok (.iconst 0, 1) := by decide +kernel
theorem dL_law_710 : decode cL_law 710 = .ok (.ireturn, 1) := by decide +kernel
theorem dL_law_711 : decode cL_law 711 = .ok (.aload_n 1, 1) := by decide +kernel
theorem dL_law_712 : decode cL_law 712 = .ok (.aload_n 0, 1) := by decide +kernel
theorem dL_law_713 : decode cL_law 713 = .ok (.iload_n 3, 1) := by decide +kernel
theorem dL_law_714 : decode cL_law 714 = .ok (.iconst 1, 1) := by decide +kernel
theorem dL_law_715 : decode cL_law 715 = .ok (.iadd, 1) := by decide +kernel
theorem dL_law_716 : decode cL_law 716 = .ok (.iaload, 1) := by decide +kernel
theorem dL_law_717 : decode cL_law 717 = .ok (.aload_n 0, 1) := by decide +kernel
theorem dL_law_718 : decode cL_law 718 = .ok (.iload_n 3, 1) := by decide +kernel
theorem dL_law_719 : decode cL_law 719 = .ok (.iconst 2, 1) := by decide +kernel
theorem dL_law_720 : decode cL_law 720 = .ok (.iadd, 1) := by decide +kernel
theorem dL_law_721 : decode cL_law 721 = .ok (.iaload, 1) := by decide +kernel
theorem dL_law_722 : decode cL_law 722 = .ok (.invokevirtual 77, 3) := by decide +kernel
theorem dL_law_725 : decode cL_law 725 = .ok (.aload_n 2, 1) := by decide +kernel
theorem dL_law_726 : decode cL_law 726 = .ok (.aload_n 0, 1) := by decide +kernel
theorem dL_law_727 : decode cL_law 727 = .ok (.iload_n 3, 1) := by decide +kernel
theorem dL_law_728 : decode cL_law 728 = .ok (.iconst 1, 1) := by decide +kernel
theorem dL_law_729 : decode cL_law 729 = .ok (.iadd, 1) := by decide +kernel
theorem dL_law_730 : decode cL_law 730 = .ok (.iaload, 1) := by decide +kernel
theorem dL_law_731 : decode cL_law 731 = .ok (.aload_n 0, 1) := by decide +kernel
theorem dL_law_732 : decode cL_law 732 = .ok (.iload_n 3, 1) := by decide +kernel
theorem dL_law_733 : decode cL_law 733 = .ok (.iconst 2, 1) := by decide +kernel
theorem dL_law_734 : decode cL_law 734 = .ok (.iadd, 1) := by decide +kernel
theorem dL_law_735 : decode cL_law 735 = .ok (.iaload, 1) := by decide +kernel
theorem dL_law_736 : decode cL_law 736 = .ok (.invokevirtual 80, 3) := by decide +kernel
theorem dL_law_739 : decode cL_law 739 = .ok (.if_icmp .eq 261, 3) := by decide +kernel
theorem dL_law_742 : decode cL_law 742 = .ok (.iconst 0, 1) := by decide +kernel
theorem dL_law_743 : decode cL_law 743 = .ok (.ireturn, 1) := by decide +kernel
theorem dL_law_744 : decode cL_law 744 = .ok (.aload_n 1, 1) := by decide +kernel
theorem dL_law_745 : decode cL_law 745 = .ok (.aload_n 0, 1) := by decide +kernel
theorem dL_law_746 : decode cL_law 746 = .ok (.iload_n 3, 1) := by decide +kernel
theorem dL_law_747 : decode cL_law 747 = .ok (.iconst 1, 1) := by decide +kernel
theorem dL_law_748 : decode cL_law 748 = .ok (.iadd, 1) := by decide +kernel
theorem dL_law_749 : decode cL_law 749 = .ok (.iaload, 1) := by decide +kernel
theorem dL_law_750 : decode cL_law 750 = .ok (.aload_n 0, 1) := by decide +kernel
theorem dL_law_751 : decode cL_law 751 = .ok (.iload_n 3, 1) := by decide +kernel
theorem dL_law_752 : decode cL_law 752 = .ok (.iconst 2, 1) := by decide +kernel
theorem dL_law_753 : decode cL_law 753 = .ok (.iadd, 1) := by decide +kernel
theorem dL_law_754 : decode cL_law 754 = .ok (.iaload, 1) := by decide +kernel
theorem dL_law_755 : decode cL_law 755 = .ok (.invokevirtual 81, 3) := by decide +kernel
theorem dL_law_758 : decode cL_law 758 = .ok (.aload_n 2, 1) := by decide +kernel
theorem dL_law_759 : decode cL_law 759 = .ok (.aload_n 0, 1) := by decide +kernel
theorem dL_law_760 : decode cL_law 760 = .ok (.iload_n 3, 1) := by decide +kernel
theorem dL_law_761 : decode cL_law 761 = .ok (.iconst 1, 1) := by decide +kernel
theorem dL_law_762 : decode cL_law 762 = .ok (.iadd, 1) := by decide +kernel
theorem dL_law_763 : decode cL_law 763 = .ok (.iaload, 1) := by decide +kernel
theorem dL_law_764 : decode cL_law 764 = .ok (.aload_n 0, 1) := by decide +kernel
theorem dL_law_765 : decode cL_law 765 = .ok (.iload_n 3, 1) := by decide +kernel
theorem dL_law_766 : decode cL_law 766 = .ok (.iconst 2, 1) := by decide +kernel
theorem dL_law_767 : decode cL_law 767 = .ok (.iadd, 1) := by decide +kernel
theorem dL_law_768 : decode cL_law 768 = .ok (.iaload, 1) := by decide +kernel
theorem dL_law_769 : decode cL_law 769 = .ok (.invokevirtual 85, 3) := by decide +kernel
theorem dL_law_772 : decode cL_law 772 = .ok (.lcmp, 1) := by decide +kernel
theorem dL_law_773 : decode cL_law 773 = .ok (.ifCond .eq 227, 3) := by decide +kernel
theorem dL_law_776 : decode cL_law 776 = .ok (.iconst 0, 1) := by decide +kernel
theorem dL_law_777 : decode cL_law 777 = .ok (.ireturn, 1) := by decide +kernel
theorem dL_law_778 : decode cL_law 778 = .ok (.aload_n 1, 1) := by decide +kernel
theorem dL_law_779 : decode cL_law 779 = .ok (.aload_n 0, 1) := by decide +kernel
theorem dL_law_780 : decode cL_law 780 = .ok (.iload_n 3, 1) := by decide +kernel
theorem dL_law_781 : decode cL_law 781 = .ok (.iconst 1, 1) := by decide +kernel
theorem dL_law_782 : decode cL_law 782 = .ok (.iadd, 1) := by decide +kernel
theorem dL_law_783 : decode cL_law 783 = .ok (.iaload, 1) := by decide +kernel
theorem dL_law_784 : decode cL_law 784 = .ok (.invokevirtual 86, 3) := by decide +kernel
theorem dL_law_787 : decode cL_law 787 = .ok (.aload_n 2, 1) := by decide +kernel
theorem dL_law_788 : decode cL_law 788 = .ok (.aload_n 0, 1) := by decide +kernel
theorem dL_law_789 : decode cL_law 789 = .ok (.iload_n 3, 1) := by decide +kernel
theorem dL_law_790 : decode cL_law 790 = .ok (.iconst 1, 1) := by decide +kernel
theorem dL_law_791 : decode cL_law 791 = .ok (.iadd, 1) := by decide +kernel
theorem dL_law_792 : decode cL_law 792 = .ok (.iaload, 1) := by decide +kernel
theorem dL_law_793 : decode cL_law 793 = .ok (.invokevirtual 90, 3) := by decide +kernel
theorem dL_law_796 : decode cL_law 796 = .ok (.lcmp, 1) := by decide +kernel
theorem dL_law_797 : decode cL_law 797 = .ok (.ifCond .eq 203, 3) := by decide +kernel
theorem dL_law_800 : decode cL_law 800 = .ok (.iconst 0, 1) := by decide +kernel
theorem dL_law_801 : decode cL_law 801 = .ok (.ireturn, 1) := by decide +kernel
theorem dL_law_802 : decode cL_law 802 = .ok (.aload_n 1, 1) := by decide +kernel
theorem dL_law_803 : decode cL_law 803 = .ok (.aload_n 0, 1) := by decide +kernel
theorem dL_law_804 : decode cL_law 804 = .ok (.iload_n 3, 1) := by decide +kernel
theorem dL_law_805 : decode cL_law 805 = .ok (.iconst 1, 1) := by decide +kernel
theorem dL_law_806 : decode cL_law 806 = .ok (.iadd, 1) := by decide +kernel
theorem dL_law_807 : decode cL_law 807 = .ok (.iaload, 1) := by decide +kernel
theorem dL_law_808 : decode cL_law 808 = .ok (.aload_n 0, 1) := by decide +kernel
theorem dL_law_809 : decode cL_law 809 = .ok (.iload_n 3, 1) := by decide +kernel
theorem dL_law_810 : decode cL_law 810 = .ok (.iconst 2, 1) := by decide +kernel
theorem dL_law_811 : decode cL_law 811 = .ok (.iadd, 1) := by decide +kernel
theorem dL_law_812 : decode cL_law 812 = .ok (.iaload, 1) := by decide +kernel
theorem dL_law_813 : decode cL_law 813 = .ok (.invokevirtual 91, 3) := by decide +kernel
theorem dL_law_816 : decode cL_law 816 = .ok (.aload_n 2, 1) := by decide +kernel
theorem dL_law_817 : decode cL_law 817 = .ok (.aload_n 0, 1) := by decide +kernel
theorem dL_law_818 : decode cL_law 818 = .ok (.iload_n 3, 1) := by decide +kernel
theorem dL_law_819 : decode cL_law 819 = .ok (.iconst 1, 1) := by decide +kernel
theorem dL_law_820 : decode cL_law 820 = .ok (.iadd, 1) := by decide +kernel
theorem dL_law_821 : decode cL_law 821 = .ok (.iaload, 1) := by decide +kernel
theorem dL_law_822 : decode cL_law 822 = .ok (.aload_n 0, 1) := by decide +kernel
theorem dL_law_823 : decode cL_law 823 = .ok (.iload_n 3, 1) := by decide +kernel
theorem dL_law_824 : decode cL_law 824 = .ok (.iconst 2, 1) := by decide +kernel
theorem dL_law_825 : decode cL_law 825 = .ok (.iadd, 1) := by decide +kernel
theorem dL_law_826 : decode cL_law 826 = .ok (.iaload, 1) := by decide +kernel
theorem dL_law_827 : decode cL_law 827 = .ok (.invokevirtual 94, 3) := by decide +kernel
theorem dL_law_830 : decode cL_law 830 = .ok (.if_icmp .eq 170, 3) := by decide +kernel
theorem dL_law_833 : decode cL_law 833 = .ok (.iconst 0, 1) := by decide +kernel
theorem dL_law_834 : decode cL_law 834 = .ok (.ireturn, 1) := by decide +kernel
theorem dL_law_835 : decode cL_law 835 = .ok (.aload_n 1, 1) := by decide +kernel
theorem dL_law_836 : decode cL_law 836 = .ok (.aload_n 0, 1) := by decide +kernel
theorem dL_law_837 : decode cL_law 837 = .ok (.iload_n 3, 1) := by decide +kernel
theorem dL_law_838 : decode cL_law 838 = .ok (.iconst 1, 1) := by decide +kernel
theorem dL_law_839 : decode cL_law 839 = .ok (.iadd, 1) := by decide +kernel
theorem dL_law_840 : decode cL_law 840 = .ok (.iaload, 1) := by decide +kernel
theorem dL_law_841 : decode cL_law 841 = .ok (.aload_n 0, 1) := by decide +kernel
theorem dL_law_842 : decode cL_law 842 = .ok (.iload_n 3, 1) := by decide +kernel
theorem dL_law_843 : decode cL_law 843 = .ok (.iconst 2, 1) := by decide +kernel
theorem dL_law_844 : decode cL_law 844 = .ok (.iadd, 1) := by decide +kernel
theorem dL_law_845 : decode cL_law 845 = .ok (.iaload, 1) := by decide +kernel
theorem dL_law_846 : decode cL_law 846 = .ok (.aload_n 0, 1) := by decide +kernel
theorem dL_law_847 : decode cL_law 847 = .ok (.iload_n 3, 1) := by decide +kernel
theorem dL_law_848 : decode cL_law 848 = .ok (.iconst 3, 1) := by decide +kernel
theorem dL_law_849 : decode cL_law 849 = .ok (.iadd, 1) := by decide +kernel
theorem dL_law_850 : decode cL_law 850 = .ok (.iaload, 1) := by decide +kernel
theorem dL_law_851 : decode cL_law 851 = .ok (.invokevirtual 95, 3) := by decide +kernel
theorem dL_law_854 : decode cL_law 854 = .ok (.aload_n 2, 1) := by decide +kernel
theorem dL_law_855 : decode cL_law 855 = .ok (.aload_n 0, 1) := by decide +kernel
theorem dL_law_856 : decode cL_law 856 = .ok (.iload_n 3, 1) := by decide +kernel
theorem dL_law_857 : decode cL_law 857 = .ok (.iconst 1, 1) := by decide +kernel
theorem dL_law_858 : decode cL_law 858 = .ok (.iadd, 1) := by decide +kernel
theorem dL_law_859 : decode cL_law 859 = .ok (.iaload, 1) := by decide +kernel
theorem dL_law_860 : decode cL_law 860 = .ok (.aload_n 0, 1) := by decide +kernel
theorem dL_law_861 : decode cL_law 861 = .ok (.iload_n 3, 1) := by decide +kernel
theorem dL_law_862 : decode cL_law 862 = .ok (.iconst 2, 1) := by decide +kernel
theorem dL_law_863 : decode cL_law 863 = .ok (.iadd, 1) := by decide +kernel
theorem dL_law_864 : decode cL_law 864 = .ok (.iaload, 1) := by decide +kernel
theorem dL_law_865 : decode cL_law 865 = .ok (.aload_n 0, 1) := by decide +kernel
theorem dL_law_866 : decode cL_law 866 = .ok (.iload_n 3, 1) := by decide +kernel
theorem dL_law_867 : decode cL_law 867 = .ok (.iconst 3, 1) := by decide +kernel
theorem dL_law_868 : decode cL_law 868 = .ok (.iadd, 1) := by decide +kernel
theorem dL_law_869 : decode cL_law 869 = .ok (.iaload, 1) := by decide +kernel
theorem dL_law_870 : decode cL_law 870 = .ok (.invokevirtual 98, 3) := by decide +kernel
theorem dL_law_873 : decode cL_law 873 = .ok (.if_icmp .eq 127, 3) := by decide +kernel
theorem dL_law_876 : decode cL_law 876 = .ok (.iconst 0, 1) := by decide +kernel
theorem dL_law_877 : decode cL_law 877 = .ok (.ireturn, 1) := by decide +kernel
theorem dL_law_878 : decode cL_law 878 = .ok (.aload_n 1, 1) := by decide +kernel
theorem dL_law_879 : decode cL_law 879 = .ok (.aload_n 0, 1) := by decide +kernel
theorem dL_law_880 : decode cL_law 880 = .ok (.iload_n 3, 1) := by decide +kernel
theorem dL_law_881 : decode cL_law 881 = .ok (.iconst 1, 1) := by decide +kernel
theorem dL_law_882 : decode cL_law 882 = .ok (.iadd, 1) := by decide +kernel
theorem dL_law_883 : decode cL_law 883 = .ok (.iaload, 1) := by decide +kernel
theorem dL_law_884 : decode cL_law 884 = .ok (.invokevirtual 99, 3) := by decide +kernel
theorem dL_law_887 : decode cL_law 887 = .ok (.aload_n 2, 1) := by decide +kernel
theorem dL_law_888 : decode cL_law 888 = .ok (.aload_n 0, 1) := by decide +kernel
theorem dL_law_889 : decode cL_law 889 = .ok (.iload_n 3, 1) := by decide +kernel
theorem dL_law_890 : decode cL_law 890 = .ok (.iconst 1, 1) := by decide +kernel
theorem dL_law_891 : decode cL_law 891 = .ok (.iadd, 1) := by decide +kernel
theorem dL_law_892 : decode cL_law 892 = .ok (.iaload, 1) := by decide +kernel
theorem dL_law_893 : decode cL_law 893 = .ok (.invokevirtual 102, 3) := by decide +kernel
theorem dL_law_896 : decode cL_law 896 = .ok (.if_icmp .eq 104, 3) := by decide +kernel
theorem dL_law_899 : decode cL_law 899 = .ok (.iconst 0, 1) := by decide +kernel
theorem dL_law_900 : decode cL_law 900 = .ok (.ireturn, 1) := by decide +kernel
theorem dL_law_901 : decode cL_law 901 = .ok (.aload_n 1, 1) := by decide +kernel
theorem dL_law_902 : decode cL_law 902 = .ok (.invokevirtual 103, 3) := by decide +kernel
theorem dL_law_905 : decode cL_law 905 = .ok (.aload_n 2, 1) := by decide +kernel
theorem dL_law_906 : decode cL_law 906 = .ok (.invokevirtual 107, 3) := by decide +kernel
theorem dL_law_909 : decode cL_law 909 = .ok (.if_icmp .eq 91, 3) := by decide +kernel
theorem dL_law_912 : decode cL_law 912 = .ok (.iconst 0, 1) := by decide +kernel
theorem dL_law_913 : decode cL_law 913 = .ok (.ireturn, 1) := by decide +kernel
theorem dL_law_914 : decode cL_law 914 = .ok (.aload_n 1, 1) := by decide +kernel
theorem dL_law_915 : decode cL_law 915 = .ok (.invokevirtual 108, 3) := by decide +kernel
theorem dL_law_918 : decode cL_law 918 = .ok (.aload_n 2, 1) := by decide +kernel
theorem dL_law_919 : decode cL_law 919 = .ok (.invokevirtual 111, 3) := by decide +kernel
theorem dL_law_922 : decode cL_law 922 = .ok (.if_icmp .eq 78, 3) := by decide +kernel
theorem dL_law_925 : decode cL_law 925 = .ok (.iconst 0, 1) := by decide +kernel
theorem dL_law_926 : decode cL_law 926 = .ok (.ireturn, 1) := by decide +kernel
theorem dL_law_927 : decode cL_law 927 = .ok (.aload_n 1, 1) := by decide +kernel
theorem dL_law_928 : decode cL_law 928 = .ok (.aload_n 0, 1) := by decide +kernel
theorem dL_law_929 : decode cL_law 929 = .ok (.iload_n 3, 1) := by decide +kernel
theorem dL_law_930 : decode cL_law 930 = .ok (.iconst 1, 1) := by decide +kernel
theorem dL_law_931 : decode cL_law 931 = .ok (.iadd, 1) := by decide +kernel
theorem dL_law_932 : decode cL_law 932 = .ok (.iaload, 1) := by decide +kernel
theorem dL_law_933 : decode cL_law 933 = .ok (.invokevirtual 112, 3) := by decide +kernel
theorem dL_law_936 : decode cL_law 936 = .ok (.aload_n 2, 1) := by decide +kernel
theorem dL_law_937 : decode cL_law 937 = .ok (.aload_n 0, 1) := by decide +kernel
theorem dL_law_938 : decode cL_law 938 = .ok (.iload_n 3, 1) := by decide +kernel
theorem dL_law_939 : decode cL_law 939 = .ok (.iconst 1, 1) := by decide +kernel
theorem dL_law_940 : decode cL_law 940 = .ok (.iadd, 1) := by decide +kernel
theorem dL_law_941 : decode cL_law 941 = .ok (.iaload, 1) := by decide +kernel
theorem dL_law_942 : decode cL_law 942 = .ok (.invokevirtual 115, 3) := by decide +kernel
theorem dL_law_945 : decode cL_law 945 = .ok (.if_icmp .eq 55, 3) := by decide +kernel
theorem dL_law_948 : decode cL_law 948 = .ok (.iconst 0, 1) := by decide +kernel
theorem dL_law_949 : decode cL_law 949 = .ok (.ireturn, 1) := by decide +kernel
theorem dL_law_950 : decode cL_law 950 = .ok (.aload_n 1, 1) := by decide +kernel
theorem dL_law_951 : decode cL_law 951 = .ok (.invokevirtual 116, 3) := by decide +kernel
theorem dL_law_954 : decode cL_law 954 = .ok (.aload_n 2, 1) := by decide +kernel
theorem dL_law_955 : decode cL_law 955 = .ok (.invokevirtual 119, 3) := by decide +kernel
theorem dL_law_958 : decode cL_law 958 = .ok (.if_icmp .eq 42, 3) := by decide +kernel
theorem dL_law_961 : decode cL_law 961 = .ok (.iconst 0, 1) := by decide +kernel
theorem dL_law_962 : decode cL_law 962 = .ok (.ireturn, 1) := by decide +kernel
theorem dL_law_963 : decode cL_law 963 = .ok (.aload_n 1, 1) := by decide +kernel
theorem dL_law_964 : decode cL_law 964 = .ok (.aload_n 0, 1) := by decide +kernel
theorem dL_law_965 : decode cL_law 965 = .ok (.iload_n 3, 1) := by decide +kernel
theorem dL_law_966 : decode cL_law 966 = .ok (.iconst 1, 1) := by decide +kernel
theorem dL_law_967 : decode cL_law 967 = .ok (.iadd, 1) := by decide +kernel
theorem dL_law_968 : decode cL_law 968 = .ok (.iaload, 1) := by decide +kernel
theorem dL_law_969 : decode cL_law 969 = .ok (.invokevirtual 120, 3) := by decide +kernel
theorem dL_law_972 : decode cL_law 972 = .ok (.aload_n 2, 1) := by decide +kernel
theorem dL_law_973 : decode cL_law 973 = .ok (.aload_n 0, 1) := by decide +kernel
theorem dL_law_974 : decode cL_law 974 = .ok (.iload_n 3, 1) := by decide +kernel
theorem dL_law_975 : decode cL_law 975 = .ok (.iconst 1, 1) := by decide +kernel
theorem dL_law_976 : decode cL_law 976 = .ok (.iadd, 1) := by decide +kernel
theorem dL_law_977 : decode cL_law 977 = .ok (.iaload, 1) := by decide +kernel
theorem dL_law_978 : decode cL_law 978 = .ok (.invokevirtual 123, 3) := by decide +kernel
theorem dL_law_981 : decode cL_law 981 = .ok (.if_icmp .eq 19, 3) := by decide +kernel
theorem dL_law_984 : decode cL_law 984 = .ok (.iconst 0, 1) := by decide +kernel
theorem dL_law_985 : decode cL_law 985 = .ok (.ireturn, 1) := by decide +kernel
theorem dL_law_986 : decode cL_law 986 = .ok (.aload_n 1, 1) := by decide +kernel
theorem dL_law_987 : decode cL_law 987 = .ok (.invokevirtual 124, 3) := by decide +kernel
theorem dL_law_990 : decode cL_law 990 = .ok (.aload_n 2, 1) := by decide +kernel
theorem dL_law_991 : decode cL_law 991 = .ok (.invokevirtual 128, 3) := by decide +kernel
theorem dL_law_994 : decode cL_law 994 = .ok (.lcmp, 1) := by decide +kernel
theorem dL_law_995 : decode cL_law 995 = .ok (.ifCond .eq 5, 3) := by decide +kernel
theorem dL_law_998 : decode cL_law 998 = .ok (.iconst 0, 1) := by decide +kernel
theorem dL_law_999 : decode cL_law 999 = .ok (.ireturn, 1) := by decide +kernel
theorem dL_law_1000 : decode cL_law 1000 = .ok (.iinc 3 5, 3) := by decide +kernel
theorem dL_law_1003 : decode cL_law 1003 = .ok (.goto (-985), 3) := by decide +kernel
theorem dL_law_1006 : decode cL_law 1006 = .ok (.iconst 1, 1) := by decide +kernel
theorem dL_law_1007 : decode cL_law 1007 = .ok (.ireturn, 1) := by decide +kernel
