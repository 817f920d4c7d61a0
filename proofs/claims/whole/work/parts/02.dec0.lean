theorem dX0_init_0 : decode cX0_init 0 = .ok (.aload_n 0, 1) := by decide +kernel
theorem dX0_init_1 : decode cX0_init 1 = .ok (.invokespecial 3, 3) := by decide +kernel
theorem dX0_init_4 : decode cX0_init 4 = .ok (.aload_n 0, 1) := by decide +kernel
theorem dX0_init_5 : decode cX0_init 5 = .ok (.bipush 6, 2) := by decide +kernel
theorem dX0_init_7 : decode cX0_init 7 = .ok (.newarray .int, 2) := by decide +kernel
theorem dX0_init_9 : decode cX0_init 9 = .ok (.putfield 9, 3) := by decide +kernel
theorem dX0_init_12 : decode cX0_init 12 = .ok (.aload_n 0, 1) := by decide +kernel
theorem dX0_init_13 : decode cX0_init 13 = .ok (.bipush 6, 2) := by decide +kernel
theorem dX0_init_15 : decode cX0_init 15 = .ok (.newarray .int, 2) := by decide +kernel
theorem dX0_init_17 : decode cX0_init 17 = .ok (.putfield 15, 3) := by decide +kernel
theorem dX0_init_20 : decode cX0_init 20 = .ok (.aload_n 0, 1) := by decide +kernel
theorem dX0_init_21 : decode cX0_init 21 = .ok (.bipush 6, 2) := by decide +kernel
theorem dX0_init_23 : decode cX0_init 23 = .ok (.newarray .int, 2) := by decide +kernel
theorem dX0_init_25 : decode cX0_init 25 = .ok (.putfield 18, 3) := by decide +kernel
theorem dX0_init_28 : decode cX0_init 28 = .ok (.aload_n 0, 1) := by decide +kernel
theorem dX0_init_29 : decode cX0_init 29 = .ok (.bipush 6, 2) := by decide +kernel
theorem dX0_init_31 : decode cX0_init 31 = .ok (.newarray .int, 2) := by decide +kernel
theorem dX0_init_33 : decode cX0_init 33 = .ok (.putfield 21, 3) := by decide +kernel
theorem dX0_init_36 : decode cX0_init 36 = .ok (.aload_n 0, 1) := by decide +kernel
theorem dX0_init_37 : decode cX0_init 37 = .ok (.bipush 6, 2) := by decide +kernel
theorem dX0_init_39 : decode cX0_init 39 = .ok (.newarray .int, 2) := by decide +kernel
theorem dX0_init_41 : decode cX0_init 41 = .ok (.putfield 24, 3) := by decide +kernel
theorem dX0_init_44 : decode cX0_init 44 = .ok (.aload_n 0, 1) := by decide +kernel
theorem dX0_init_45 : decode cX0_init 45 = .ok (.bipush 6, 2) := by decide +kernel
theorem dX0_init_47 : decode cX0_init 47 = .ok (.newarray .int, 2) := by decide +kernel
theorem dX0_init_49 : decode cX0_init 49 = .ok (.putfield 27, 3) := by decide +kernel
theorem dX0_init_52 : decode cX0_init 52 = .ok (.return_, 1) := by decide +kernel
theorem dX0_followerOf_0 : decode cX0_followerOf 0 = .ok (.iload_n 1, 1) := by decide +kernel
theorem dX0_followerOf_1 : decode cX0_followerOf 1 = .ok (.iconst 0, 1) := by decide +kernel
theorem dX0_followerOf_2 : decode cX0_followerOf 2 = .ok (.iconst 5, 1) := by decide +kernel
theorem dX0_followerOf_3 : decode cX0_followerOf 3 = .ok (.invokestatic 30, 3) := by decide +kernel
theorem dX0_followerOf_6 : decode cX0_followerOf 6 = .ok (.ifCond .eq 12, 3) := by decide +kernel
theorem dX0_followerOf_9 : decode cX0_followerOf 9 = .ok (.aload_n 0, 1) := by decide +kernel
theorem dX0_followerOf_10 : decode cX0_followerOf 10 = .ok (.getfield 9, 3) := by decide +kernel
theorem dX0_followerOf_13 : decode cX0_followerOf 13 = .ok (.iload_n 1, 1) := by decide +kernel
theorem dX0_followerOf_14 : decode cX0_followerOf 14 = .ok (.iaload, 1) := by decide +kernel
theorem dX0_followerOf_15 : decode cX0_followerOf 15 = .ok (.goto 4, 3) := by decide +kernel
theorem dX0_followerOf_18 : decode cX0_followerOf 18 = .ok (.iconst (-1), 1) := by decide +kernel
theorem dX0_followerOf_19 : decode cX0_followerOf 19 = .ok (.ireturn, 1) := by decide +kernel
theorem dX0_aheadOf_0 : decode cX0_aheadOf 0 = .ok (.iload_n 1, 1) := by decide +kernel
theorem dX0_aheadOf_1 : decode cX0_aheadOf 1 = .ok (.iconst 0, 1) := by decide +kernel
theorem dX0_aheadOf_2 : decode cX0_aheadOf 2 = .ok (.iconst 5, 1) := by decide +kernel
theorem dX0_aheadOf_3 : decode cX0_aheadOf 3 = .ok (.invokestatic 30, 3) := by decide +kernel
theorem dX0_aheadOf_6 : decode cX0_aheadOf 6 = .ok (.ifCond .eq 12, 3) := by decide +kernel
theorem dX0_aheadOf_9 : decode cX0_aheadOf 9 = .ok (.aload_n 0, 1) := by decide +kernel
theorem dX0_aheadOf_10 : decode cX0_aheadOf 10 = .ok (.getfield 15, 3) := by decide +kernel
theorem dX0_aheadOf_13 : decode cX0_aheadOf 13 = .ok (.iload_n 1, 1) := by decide +kernel
theorem dX0_aheadOf_14 : decode cX0_aheadOf 14 = .ok (.iaload, 1) := by decide +kernel
theorem dX0_aheadOf_15 : decode cX0_aheadOf 15 = .ok (.goto 4, 3) := by decide +kernel
theorem dX0_aheadOf_18 : decode cX0_aheadOf 18 = .ok (.iconst (-1), 1) := by decide +kernel
theorem dX0_aheadOf_19 : decode cX0_aheadOf 19 = .ok (.ireturn, 1) := by decide +kernel
theorem dX0_shiftE_0 : decode cX0_shiftE 0 = .ok (.iload_n 1, 1) := by decide +kernel
theorem dX0_shiftE_1 : decode cX0_shiftE 1 = .ok (.iconst 0, 1) := by decide +kernel
theorem dX0_shiftE_2 : decode cX0_shiftE 2 = .ok (.iconst 5, 1) := by decide +kernel
theorem dX0_shiftE_3 : decode cX0_shiftE 3 = .ok (.invokestatic 30, 3) := by decide +kernel
theorem dX0_shiftE_6 : decode cX0_shiftE 6 = .ok (.ifCond .eq 12, 3) := by decide +kernel
theorem dX0_shiftE_9 : decode cX0_shiftE 9 = .ok (.aload_n 0, 1) := by decide +kernel
theorem dX0_shiftE_10 : decode cX0_shiftE 10 = .ok (.getfield 18, 3) := by decide +kernel
theorem dX0_shiftE_13 : decode cX0_shiftE 13 = .ok (.iload_n 1, 1) := by decide +kernel
theorem dX0_shiftE_14 : decode cX0_shiftE 14 = .ok (.iaload, 1) := by decide +kernel
theorem dX0_shiftE_15 : decode cX0_shiftE 15 = .ok (.goto 4, 3) := by decide +kernel
theorem dX0_shiftE_18 : decode cX0_shiftE 18 = .ok (.iconst 0, 1) := by decide +kernel
theorem dX0_shiftE_19 : decode cX0_shiftE 19 = .ok (.ireturn, 1) := by decide +kernel
theorem dX0_shiftF_0 : decode cX0_shiftF 0 = .ok (.iload_n 1, 1) := by decide +kernel
theorem dX0_shiftF_1 : decode cX0_shiftF 1 = .ok (.iconst 0, 1) := by decide +kernel
theorem dX0_shiftF_2 : decode cX0_shiftF 2 = .ok (.iconst 5, 1) := by decide +kernel
theorem dX0_shiftF_3 : decode cX0_shiftF 3 = .ok (.invokestatic 30, 3) := by decide +kernel
theorem dX0_shiftF_6 : decode cX0_shiftF 6 = .ok (.ifCond .eq 12, 3) := by decide +kernel
theorem dX0_shiftF_9 : decode cX0_shiftF 9 = .ok (.aload_n 0, 1) := by decide +kernel
theorem dX0_shiftF_10 : decode cX0_shiftF 10 = .ok (.getfield 21, 3) := by decide +kernel
theorem dX0_shiftF_13 : decode cX0_shiftF 13 = .ok (.iload_n 1, 1) := by decide +kernel
theorem dX0_shiftF_14 : decode cX0_shiftF 14 = .ok (.iaload, 1) := by decide +kernel
theorem dX0_shiftF_15 : decode cX0_shiftF 15 = .ok (.goto 4, 3) := by decide +kernel
theorem dX0_shiftF_18 : decode cX0_shiftF 18 = .ok (.iconst 0, 1) := by decide +kernel
theorem dX0_shiftF_19 : decode cX0_shiftF 19 = .ok (.ireturn, 1) := by decide +kernel
theorem dX0_rightOf_0 : decode cX0_rightOf 0 = .ok (.iload_n 1, 1) := by decide +kernel
theorem dX0_rightOf_1 : decode cX0_rightOf 1 = .ok (.iconst 0, 1) := by decide +kernel
theorem dX0_rightOf_2 : decode cX0_rightOf 2 = .ok (.iconst 5, 1) := by decide +kernel
theorem dX0_rightOf_3 : decode cX0_rightOf 3 = .ok (.invokestatic 30, 3) := by decide +kernel
theorem dX0_rightOf_6 : decode cX0_rightOf 6 = .ok (.ifCond .eq 12, 3) := by decide +kernel
theorem dX0_rightOf_9 : decode cX0_rightOf 9 = .ok (.aload_n 0, 1) := by decide +kernel
theorem dX0_rightOf_10 : decode cX0_rightOf 10 = .ok (.getfield 24, 3) := by decide +kernel
theorem dX0_rightOf_13 : decode cX0_rightOf 13 = .ok (.iload_n 1, 1) := by decide +kernel
theorem dX0_rightOf_14 : decode cX0_rightOf 14 = .ok (.iaload, 1) := by decide +kernel
theorem dX0_rightOf_15 : decode cX0_rightOf 15 = .ok (.goto 4, 3) := by decide +kernel
theorem dX0_rightOf_18 : decode cX0_rightOf 18 = .ok (.iconst 0, 1) := by decide +kernel
theorem dX0_rightOf_19 : decode cX0_rightOf 19 = .ok (.ireturn, 1) := by decide +kernel
theorem dX0_lowerOf_0 : decode cX0_lowerOf 0 = .ok (.iload_n 1, 1) := by decide +kernel
theorem dX0_lowerOf_1 : decode cX0_lowerOf 1 = .ok (.iconst 0, 1) := by decide +kernel
theorem dX0_lowerOf_2 : decode cX0_lowerOf 2 = .ok (.iconst 5, 1) := by decide +kernel
theorem dX0_lowerOf_3 : decode cX0_lowerOf 3 = .ok (.invokestatic 30, 3) := by decide +kernel
theorem dX0_lowerOf_6 : decode cX0_lowerOf 6 = .ok (.ifCond .eq 12, 3) := by decide +kernel
theorem dX0_lowerOf_9 : decode cX0_lowerOf 9 = .ok (.aload_n 0, 1) := by decide +kernel
theorem dX0_lowerOf_10 : decode cX0_lowerOf 10 = .ok (.getfield 27, 3) := by decide +kernel
theorem dX0_lowerOf_13 : decode cX0_lowerOf 13 = .ok (.iload_n 1, 1) := by decide +kernel
theorem dX0_lowerOf_14 : decode cX0_lowerOf 14 = .ok (.iaload, 1) := by decide +kernel
theorem dX0_lowerOf_15 : decode cX0_lowerOf 15 = .ok (.goto 4, 3) := by decide +kernel
theorem dX0_lowerOf_18 : decode cX0_lowerOf 18 = .ok (.iconst 0, 1) := by decide +kernel
theorem dX0_lowerOf_19 : decode cX0_lowerOf 19 = .ok (.ireturn, 1) := by decide +kernel
theorem dX0_join_0 : decode cX0_join 0 = .ok (.aload_n 0, 1) := by decide +kernel
theorem dX0_join_1 : decode cX0_join 1 = .ok (.iconst 0, 1) := by decide +kernel
theorem dX0_join_2 : decode cX0_join 2 = .ok (.putfield 34, 3) := by decide +kernel
theorem dX0_join_5 : decode cX0_join 5 = .ok (.aload_n 0, 1) := by decide +kernel
theorem dX0_join_6 : decode cX0_join 6 = .ok (.iconst 0, 1) := by decide +kernel
theorem dX0_join_7 : decode cX0_join 7 = .ok (.putfield 38, 3) := by decide +kernel
theorem dX0_join_10 : decode cX0_join 10 = .ok (.aload_n 0, 1) := by decide +kernel
theorem dX0_join_11 : decode cX0_join 11 = .ok (.iconst 0, 1) := by decide +kernel
theorem dX0_join_12 : decode cX0_join 12 = .ok (.putfield 41, 3) := by decide +kernel
theorem dX0_join_15 : decode cX0_join 15 = .ok (.aload_n 0, 1) := by decide +kernel
theorem dX0_join_16 : decode cX0_join 16 = .ok (.iconst 0, 1) := by decide +kernel
theorem dX0_join_17 : decode cX0_join 17 = .ok (.putfield 44, 3) := by decide +kernel
theorem dX0_join_20 : decode cX0_join 20 = .ok (.iconst 0, 1) := by decide +kernel
theorem dX0_join_21 : decode cX0_join 21 = .ok (.istore_n 3, 1) := by decide +kernel
theorem dX0_join_22 : decode cX0_join 22 = .ok (.iload_n 3, 1) := by decide +kernel
theorem dX0_join_23 : decode cX0_join 23 = .ok (.bipush 6, 2) := by decide +kernel
theorem dX0_join_25 : decode cX0_join 25 = .ok (.if_icmp .ge 23, 3) := by decide +kernel
theorem dX0_join_28 : decode cX0_join 28 = .ok (.aload_n 0, 1) := by decide +kernel
theorem dX0_join_29 : decode cX0_join 29 = .ok (.getfield 9, 3) := by decide +kernel
theorem dX0_join_32 : decode cX0_join 32 = .ok (.iload_n 3, 1) := by decide +kernel
theorem dX0_join_33 : decode cX0_join 33 = .ok (.iconst (-1), 1) := by decide +kernel
theorem dX0_join_34 : decode cX0_join 34 = .ok (.iastore, 1) := by decide +kernel
theorem dX0_join_35 : decode cX0_join 35 = .ok (.aload_n 0, 1) := by decide +kernel
theorem dX0_join_36 : decode cX0_join 36 = .ok (.getfield 15, 3) := by decide +kernel
theorem dX0_join_39 : decode cX0_join 39 = .ok (.iload_n 3, 1) := by decide +kernel
theorem dX0_join_40 : decode cX0_join 40 = .ok (.iconst (-1), 1) := by decide +kernel
theorem dX0_join_41 : decode cX0_join 41 = .ok (.iastore, 1) := by decide +kernel
theorem dX0_join_42 : decode cX0_join 42 = .ok (.iinc 3 1, 3) := by decide +kernel
theorem dX0_join_45 : decode cX0_join 45 = .ok (.goto (-23), 3) := by decide +kernel
theorem dX0_join_48 : decode cX0_join 48 = .ok (.bipush 12, 2) := by decide +kernel
theorem dX0_join_50 : decode cX0_join 50 = .ok (.istore_n 3, 1) := by decide +kernel
theorem dX0_join_51 : decode cX0_join 51 = .ok (.iload_n 3, 1) := by decide +kernel
theorem dX0_join_52 : decode cX0_join 52 = .ok (.ifCond .le 78, 3) := by decide +kernel
theorem dX0_join_55 : decode cX0_join 55 = .ok (.iconst 0, 1) := by decide +kernel
theorem dX0_join_56 : decode cX0_join 56 = .ok (.istore 4, 2) := by decide +kernel
theorem dX0_join_58 : decode cX0_join 58 = .ok (.iload 4, 2) := by decide +kernel
theorem dX0_join_60 : decode cX0_join 60 = .ok (.bipush 6, 2) := by decide +kernel
theorem dX0_join_62 : decode cX0_join 62 = .ok (.if_icmp .ge 62, 3) := by decide +kernel
theorem dX0_join_65 : decode cX0_join 65 = .ok (.iconst 0, 1) := by decide +kernel
theorem dX0_join_66 : decode cX0_join 66 = .ok (.istore 5, 2) := by decide +kernel
theorem dX0_join_68 : decode cX0_join 68 = .ok (.iload 5, 2) := by decide +kernel
theorem dX0_join_70 : decode cX0_join 70 = .ok (.bipush 6, 2) := by decide +kernel
theorem dX0_join_72 : decode cX0_join 72 = .ok (.if_icmp .ge 46, 3) := by decide +kernel
theorem dX0_join_75 : decode cX0_join 75 = .ok (.aload_n 2, 1) := by decide +kernel
theorem dX0_join_76 : decode cX0_join 76 = .ok (.iload 4, 2) := by decide +kernel
theorem dX0_join_78 : decode cX0_join 78 = .ok (.iload 5, 2) := by decide +kernel
theorem dX0_join_80 : decode cX0_join 80 = .ok (.invokevirtual 47, 3) := by decide +kernel
theorem dX0_join_83 : decode cX0_join 83 = .ok (.iload_n 3, 1) := by decide +kernel
theorem dX0_join_84 : decode cX0_join 84 = .ok (.if_icmp .ne 28, 3) := by decide +kernel
theorem dX0_join_87 : decode cX0_join 87 = .ok (.aload_n 0, 1) := by decide +kernel
theorem dX0_join_88 : decode cX0_join 88 = .ok (.iload 4, 2) := by decide +kernel
theorem dX0_join_90 : decode cX0_join 90 = .ok (.iload 5, 2) := by decide +kernel
theorem dX0_join_92 : decode cX0_join 92 = .ok (.aload_n 1, 1) := by decide +kernel
theorem dX0_join_93 : decode cX0_join 93 = .ok (.getfield 53, 3) := by decide +kernel
theorem dX0_join_96 : decode cX0_join 96 = .ok (.invokevirtual 58, 3) := by decide +kernel
theorem dX0_join_99 : decode cX0_join 99 = .ok (.ifCond .eq 13, 3) := by decide +kernel
theorem dX0_join_102 : decode cX0_join 102 = .ok (.aload_n 0, 1) := by decide +kernel
theorem dX0_join_103 : decode cX0_join 103 = .ok (.aload_n 1, 1) := by decide +kernel
theorem dX0_join_104 : decode cX0_join 104 = .ok (.aload_n 2, 1) := by decide +kernel
theorem dX0_join_105 : decode cX0_join 105 = .ok (.iload 4, 2) := by decide +kernel
theorem dX0_join_107 : decode cX0_join 107 = .ok (.iload 5, 2) := by decide +kernel
theorem dX0_join_109 : decode cX0_join 109 = .ok (.invokevirtual 61, 3) := by decide +kernel
theorem dX0_join_112 : decode cX0_join 112 = .ok (.iinc 5 1, 3) := by decide +kernel
theorem dX0_join_115 : decode cX0_join 115 = .ok (.goto (-47), 3) := by decide +kernel
theorem dX0_join_118 : decode cX0_join 118 = .ok (.iinc 4 1, 3) := by decide +kernel
theorem dX0_join_121 : decode cX0_join 121 = .ok (.goto (-63), 3) := by decide +kernel
theorem dX0_join_124 : decode cX0_join 124 = .ok (.iinc 3 (-1), 3) := by decide +kernel
theorem dX0_join_127 : decode cX0_join 127 = .ok (.goto (-76), 3) := by decide +kernel
theorem dX0_join_130 : decode cX0_join 130 = .ok (.aload_n 0, 1) := by decide +kernel
theorem dX0_join_131 : decode cX0_join 131 = .ok (.aload_n 1, 1) := by decide +kernel
theorem dX0_join_132 : decode cX0_join 132 = .ok (.getfield 53, 3) := by decide +kernel
theorem dX0_join_135 : decode cX0_join 135 = .ok (.iconst 2, 1) := by decide +kernel
theorem dX0_join_136 : decode cX0_join 136 = .ok (.if_icmp .lt 18, 3) := by decide +kernel
theorem dX0_join_139 : decode cX0_join 139 = .ok (.aload_n 0, 1) := by decide +kernel
theorem dX0_join_140 : decode cX0_join 140 = .ok (.getfield 34, 3) := by decide +kernel
theorem dX0_join_143 : decode cX0_join 143 = .ok (.aload_n 1, 1) := by decide +kernel
theorem dX0_join_144 : decode cX0_join 144 = .ok (.getfield 53, 3) := by decide +kernel
theorem dX0_join_147 : decode cX0_join 147 = .ok (.if_icmp .ne 7, 3) := by decide +kernel
theorem dX0_join_150 : decode cX0_join 150 = .ok (.iconst 1, 1) := by decide +kernel
theorem dX0_join_151 : decode cX0_join 151 = .ok (.goto 4, 3) := by decide +kernel
theorem dX0_join_154 : decode cX0_join 154 = .ok (.iconst 0, 1) := by decide +kernel
theorem dX0_join_155 : decode cX0_join 155 = .ok (.putfield 65, 3) := by decide +kernel
theorem dX0_join_158 : decode cX0_join 158 = .ok (.aload_n 0, 1) := by decide +kernel
theorem dX0_join_159 : decode cX0_join 159 = .ok (.getfield 65, 3) := by decide +kernel
theorem dX0_join_162 : decode cX0_join 162 = .ok (.ifCond .eq 11, 3) := by decide +kernel
theorem dX0_join_165 : decode cX0_join 165 = .ok (.aload_n 0, 1) := by decide +kernel
theorem dX0_join_166 : decode cX0_join 166 = .ok (.aload_n 1, 1) := by decide +kernel
theorem dX0_join_167 : decode cX0_join 167 = .ok (.getfield 53, 3) := by decide +kernel
theorem dX0_join_170 : decode cX0_join 170 = .ok (.invokevirtual 69, 3) := by decide +kernel
theorem dX0_join_173 : decode cX0_join 173 = .ok (.return_, 1) := by decide +kernel
theorem dX0_mayJoin_0 : decode cX0_mayJoin 0 = .ok (.aload_n 0, 1) := by decide +kernel
theorem dX0_mayJoin_1 : decode cX0_mayJoin 1 = .ok (.iload_n 1, 1) := by decide +kernel
theorem dX0_mayJoin_2 : decode cX0_mayJoin 2 = .ok (.invokevirtual 73, 3) := by decide +kernel
theorem dX0_mayJoin_5 : decode cX0_mayJoin 5 = .ok (.iconst (-1), 1) := by decide +kernel
theorem dX0_mayJoin_6 : decode cX0_mayJoin 6 = .ok (.if_icmp .ne 12, 3) := by decide +kernel
theorem dX0_mayJoin_9 : decode cX0_mayJoin 9 = .ok (.aload_n 0, 1) := by decide +kernel
theorem dX0_mayJoin_10 : decode cX0_mayJoin 10 = .ok (.iload_n 2, 1) := by decide +kernel
theorem dX0_mayJoin_11 : decode cX0_mayJoin 11 = .ok (.invokevirtual 77, 3) := by decide +kernel
theorem dX0_mayJoin_14 : decode cX0_mayJoin 14 = .ok (.iconst (-1), 1) := by decide +kernel
theorem dX0_mayJoin_15 : decode cX0_mayJoin 15 = .ok (.if_icmp .eq 5, 3) := by decide +kernel
theorem dX0_mayJoin_18 : decode cX0_mayJoin 18 = .ok (.iconst 0, 1) := by decide +kernel
theorem dX0_mayJoin_19 : decode cX0_mayJoin 19 = .ok (.ireturn, 1) := by decide +kernel
theorem dX0_mayJoin_20 : decode cX0_mayJoin 20 = .ok (.aload_n 0, 1) := by decide +kernel
theorem dX0_mayJoin_21 : decode cX0_mayJoin 21 = .ok (.iload_n 2, 1) := by decide +kernel
theorem dX0_mayJoin_22 : decode cX0_mayJoin 22 = .ok (.iload_n 1, 1) := by decide +kernel
theorem dX0_mayJoin_23 : decode cX0_mayJoin 23 = .ok (.invokevirtual 80, 3) := by decide +kernel
theorem dX0_mayJoin_26 : decode cX0_mayJoin 26 = .ok (.istore 4, 2) := by decide +kernel
theorem dX0_mayJoin_28 : decode cX0_mayJoin 28 = .ok (.iload 4, 2) := by decide +kernel
theorem dX0_mayJoin_30 : decode cX0_mayJoin 30 = .ok (.ifCond .eq 9, 3) := by decide +kernel
theorem dX0_mayJoin_33 : decode cX0_mayJoin 33 = .ok (.iload 4, 2) := by decide +kernel
theorem dX0_mayJoin_35 : decode cX0_mayJoin 35 = .ok (.iload_n 3, 1) := by decide +kernel
theorem dX0_mayJoin_36 : decode cX0_mayJoin 36 = .ok (.if_icmp .ne 7, 3) := by decide +kernel
theorem dX0_mayJoin_39 : decode cX0_mayJoin 39 = .ok (.iconst 1, 1) := by decide +kernel
theorem dX0_mayJoin_40 : decode cX0_mayJoin 40 = .ok (.goto 4, 3) := by decide +kernel
theorem dX0_mayJoin_43 : decode cX0_mayJoin 43 = .ok (.iconst 0, 1) := by decide +kernel
theorem dX0_mayJoin_44 : decode cX0_mayJoin 44 = .ok (.ireturn, 1) := by decide +kernel
theorem dX0_wayLength_0 : decode cX0_wayLength 0 = .ok (.iload_n 1, 1) := by decide +kernel
theorem dX0_wayLength_1 : decode cX0_wayLength 1 = .ok (.istore_n 3, 1) := by decide +kernel
theorem dX0_wayLength_2 : decode cX0_wayLength 2 = .ok (.iconst 1, 1) := by decide +kernel
theorem dX0_wayLength_3 : decode cX0_wayLength 3 = .ok (.istore 4, 2) := by decide +kernel
theorem dX0_wayLength_5 : decode cX0_wayLength 5 = .ok (.iload 4, 2) := by decide +kernel
theorem dX0_wayLength_7 : decode cX0_wayLength 7 = .ok (.bipush 6, 2) := by decide +kernel
theorem dX0_wayLength_9 : decode cX0_wayLength 9 = .ok (.if_icmp .gt 28, 3) := by decide +kernel
theorem dX0_wayLength_12 : decode cX0_wayLength 12 = .ok (.iload_n 3, 1) := by decide +kernel
theorem dX0_wayLength_13 : decode cX0_wayLength 13 = .ok (.iconst (-1), 1) := by decide +kernel
theorem dX0_wayLength_14 : decode cX0_wayLength 14 = .ok (.if_icmp .eq 23, 3) := by decide +kernel
theorem dX0_wayLength_17 : decode cX0_wayLength 17 = .ok (.iload_n 3, 1) := by decide +kernel
theorem dX0_wayLength_18 : decode cX0_wayLength 18 = .ok (.iload_n 2, 1) := by decide +kernel
theorem dX0_wayLength_19 : decode cX0_wayLength 19 = .ok (.if_icmp .ne 6, 3) := by decide +kernel
theorem dX0_wayLength_22 : decode cX0_wayLength 22 = .ok (.iload 4, 2) := by decide +kernel
theorem dX0_wayLength_24 : decode cX0_wayLength 24 = .ok (.ireturn, 1) := by decide +kernel
theorem dX0_wayLength_25 : decode cX0_wayLength 25 = .ok (.aload_n 0, 1) := by decide +kernel
theorem dX0_wayLength_26 : decode cX0_wayLength 26 = .ok (.iload_n 3, 1) := by decide +kernel
theorem dX0_wayLength_27 : decode cX0_wayLength 27 = .ok (.invokevirtual 73, 3) := by decide +kernel
theorem dX0_wayLength_30 : decode cX0_wayLength 30 = .ok (.istore_n 3, 1) := by decide +kernel
theorem dX0_wayLength_31 : decode cX0_wayLength 31 = .ok (.iinc 4 1, 3) := by decide +kernel
theorem dX0_wayLength_34 : decode cX0_wayLength 34 = .ok (.goto (-29), 3) := by decide +kernel
theorem dX0_wayLength_37 : decode cX0_wayLength 37 = .ok (.iconst 0, 1) := by decide +kernel
theorem dX0_wayLength_38 : decode cX0_wayLength 38 = .ok (.ireturn, 1) := by decide +kernel
theorem dX0_take_0 : decode cX0_take 0 = .ok (.iload_n 3, 1) := by decide +kernel
theorem dX0_take_1 : decode cX0_take 1 = .ok (.iconst 0, 1) := by decide +kernel
theorem dX0_take_2 : decode cX0_take 2 = .ok (.iconst 5, 1) := by decide +kernel
theorem dX0_take_3 : decode cX0_take 3 = .ok (.invokestatic 30, 3) := by decide +kernel
theorem dX0_take_6 : decode cX0_take 6 = .ok (.ifCond .eq 13, 3) := by decide +kernel
theorem dX0_take_9 : decode cX0_take 9 = .ok (.iload 4, 2) := by decide +kernel
theorem dX0_take_11 : decode cX0_take 11 = .ok (.iconst 0, 1) := by decide +kernel
theorem dX0_take_12 : decode cX0_take 12 = .ok (.iconst 5, 1) := by decide +kernel
theorem dX0_take_13 : decode cX0_take 13 = .ok (.invokestatic 30, 3) := by decide +kernel
theorem dX0_take_16 : decode cX0_take 16 = .ok (.ifCond .ne 4, 3) := by decide +kernel
theorem dX0_take_19 : decode cX0_take 19 = .ok (.return_, 1) := by decide +kernel
theorem dX0_take_20 : decode cX0_take 20 = .ok (.aload_n 0, 1) := by decide +kernel
theorem dX0_take_21 : decode cX0_take 21 = .ok (.getfield 9, 3) := by decide +kernel
theorem dX0_take_24 : decode cX0_take 24 = .ok (.iload_n 3, 1) := by decide +kernel
theorem dX0_take_25 : decode cX0_take 25 = .ok (.iload 4, 2) := by decide +kernel
theorem dX0_take_27 : decode cX0_take 27 = .ok (.iastore, 1) := by decide +kernel
theorem dX0_take_28 : decode cX0_take 28 = .ok (.aload_n 0, 1) := by decide +kernel
theorem dX0_take_29 : decode cX0_take 29 = .ok (.getfield 15, 3) := by decide +kernel
theorem dX0_take_32 : decode cX0_take 32 = .ok (.iload 4, 2) := by decide +kernel
theorem dX0_take_34 : decode cX0_take 34 = .ok (.iload_n 3, 1) := by decide +kernel
theorem dX0_take_35 : decode cX0_take 35 = .ok (.iastore, 1) := by decide +kernel
theorem dX0_take_36 : decode cX0_take 36 = .ok (.aload_n 0, 1) := by decide +kernel
theorem dX0_take_37 : decode cX0_take 37 = .ok (.getfield 18, 3) := by decide +kernel
theorem dX0_take_40 : decode cX0_take 40 = .ok (.iload_n 3, 1) := by decide +kernel
theorem dX0_take_41 : decode cX0_take 41 = .ok (.aload_n 2, 1) := by decide +kernel
theorem dX0_take_42 : decode cX0_take 42 = .ok (.iload_n 3, 1) := by decide +kernel
theorem dX0_take_43 : decode cX0_take 43 = .ok (.iload 4, 2) := by decide +kernel
theorem dX0_take_45 : decode cX0_take 45 = .ok (.invokevirtual 83, 3) := by decide +kernel
theorem dX0_take_48 : decode cX0_take 48 = .ok (.iastore, 1) := by decide +kernel
theorem dX0_take_49 : decode cX0_take 49 = .ok (.aload_n 0, 1) := by decide +kernel
theorem dX0_take_50 : decode cX0_take 50 = .ok (.getfield 21, 3) := by decide +kernel
theorem dX0_take_53 : decode cX0_take 53 = .ok (.iload_n 3, 1) := by decide +kernel
theorem dX0_take_54 : decode cX0_take 54 = .ok (.aload_n 2, 1) := by decide +kernel
theorem dX0_take_55 : decode cX0_take 55 = .ok (.iload_n 3, 1) := by decide +kernel
theorem dX0_take_56 : decode cX0_take 56 = .ok (.iload 4, 2) := by decide +kernel
theorem dX0_take_58 : decode cX0_take 58 = .ok (.invokevirtual 86, 3) := by decide +kernel
theorem dX0_take_61 : decode cX0_take 61 = .ok (.iastore, 1) := by decide +kernel
theorem dX0_take_62 : decode cX0_take 62 = .ok (.aload_n 0, 1) := by decide +kernel
theorem dX0_take_63 : decode cX0_take 63 = .ok (.dup, 1) := by decide +kernel
theorem dX0_take_64 : decode cX0_take 64 = .ok (.getfield 34, 3) := by decide +kernel
theorem dX0_take_67 : decode cX0_take 67 = .ok (.iconst 1, 1) := by decide +kernel
theorem dX0_take_68 : decode cX0_take 68 = .ok (.iadd, 1) := by decide +kernel
theorem dX0_take_69 : decode cX0_take 69 = .ok (.putfield 34, 3) := by decide +kernel
theorem dX0_take_72 : decode cX0_take 72 = .ok (.aload_n 0, 1) := by decide +kernel
theorem dX0_take_73 : decode cX0_take 73 = .ok (.dup, 1) := by decide +kernel
theorem dX0_take_74 : decode cX0_take 74 = .ok (.getfield 38, 3) := by decide +kernel
theorem dX0_take_77 : decode cX0_take 77 = .ok (.aload_n 0, 1) := by decide +kernel
theorem dX0_take_78 : decode cX0_take 78 = .ok (.getfield 21, 3) := by decide +kernel
theorem dX0_take_81 : decode cX0_take 81 = .ok (.iload_n 3, 1) := by decide +kernel
theorem dX0_take_82 : decode cX0_take 82 = .ok (.iaload, 1) := by decide +kernel
theorem dX0_take_83 : decode cX0_take 83 = .ok (.iadd, 1) := by decide +kernel
theorem dX0_take_84 : decode cX0_take 84 = .ok (.putfield 38, 3) := by decide +kernel
theorem dX0_take_87 : decode cX0_take 87 = .ok (.aload_n 0, 1) := by decide +kernel
theorem dX0_take_88 : decode cX0_take 88 = .ok (.dup, 1) := by decide +kernel
theorem dX0_take_89 : decode cX0_take 89 = .ok (.getfield 41, 3) := by decide +kernel
theorem dX0_take_92 : decode cX0_take 92 = .ok (.aload_n 0, 1) := by decide +kernel
theorem dX0_take_93 : decode cX0_take 93 = .ok (.getfield 18, 3) := by decide +kernel
theorem dX0_take_96 : decode cX0_take 96 = .ok (.iload_n 3, 1) := by decide +kernel
theorem dX0_take_97 : decode cX0_take 97 = .ok (.iaload, 1) := by decide +kernel
theorem dX0_take_98 : decode cX0_take 98 = .ok (.iadd, 1) := by decide +kernel
theorem dX0_take_99 : decode cX0_take 99 = .ok (.putfield 41, 3) := by decide +kernel
theorem dX0_take_102 : decode cX0_take 102 = .ok (.aload_n 1, 1) := by decide +kernel
theorem dX0_take_103 : decode cX0_take 103 = .ok (.iload_n 3, 1) := by decide +kernel
theorem dX0_take_104 : decode cX0_take 104 = .ok (.iload 4, 2) := by decide +kernel
theorem dX0_take_106 : decode cX0_take 106 = .ok (.aload_n 0, 1) := by decide +kernel
theorem dX0_take_107 : decode cX0_take 107 = .ok (.getfield 18, 3) := by decide +kernel
theorem dX0_take_110 : decode cX0_take 110 = .ok (.iload_n 3, 1) := by decide +kernel
theorem dX0_take_111 : decode cX0_take 111 = .ok (.iaload, 1) := by decide +kernel
theorem dX0_take_112 : decode cX0_take 112 = .ok (.aload_n 0, 1) := by decide +kernel
theorem dX0_take_113 : decode cX0_take 113 = .ok (.getfield 21, 3) := by decide +kernel
theorem dX0_take_116 : decode cX0_take 116 = .ok (.iload_n 3, 1) := by decide +kernel
theorem dX0_take_117 : decode cX0_take 117 = .ok (.iaload, 1) := by decide +kernel
theorem dX0_take_118 : decode cX0_take 118 = .ok (.invokevirtual 89, 3) := by decide +kernel
theorem dX0_take_121 : decode cX0_take 121 = .ok (.ifCond .eq 13, 3) := by decide +kernel
theorem dX0_take_124 : decode cX0_take 124 = .ok (.aload_n 0, 1) := by decide +kernel
theorem dX0_take_125 : decode cX0_take 125 = .ok (.dup, 1) := by decide +kernel
theorem dX0_take_126 : decode cX0_take 126 = .ok (.getfield 44, 3) := by decide +kernel
theorem dX0_take_129 : decode cX0_take 129 = .ok (.iconst 1, 1) := by decide +kernel
theorem dX0_take_130 : decode cX0_take 130 = .ok (.iadd, 1) := by decide +kernel
theorem dX0_take_131 : decode cX0_take 131 = .ok (.putfield 44, 3) := by decide +kernel
theorem dX0_take_134 : decode cX0_take 134 = .ok (.return_, 1) := by decide +kernel
theorem dX0_findPlaces_0 : decode cX0_findPlaces 0 = .ok (.iconst 0, 1) := by decide +kernel
theorem dX0_findPlaces_1 : decode cX0_findPlaces 1 = .ok (.istore_n 2, 1) := by decide +kernel
theorem dX0_findPlaces_2 : decode cX0_findPlaces 2 = .ok (.iconst 0, 1) := by decide +kernel
theorem dX0_findPlaces_3 : decode cX0_findPlaces 3 = .ok (.istore_n 3, 1) := by decide +kernel
theorem dX0_findPlaces_4 : decode cX0_findPlaces 4 = .ok (.iconst 0, 1) := by decide +kernel
theorem dX0_findPlaces_5 : decode cX0_findPlaces 5 = .ok (.istore 4, 2) := by decide +kernel
theorem dX0_findPlaces_7 : decode cX0_findPlaces 7 = .ok (.iconst 0, 1) := by decide +kernel
theorem dX0_findPlaces_8 : decode cX0_findPlaces 8 = .ok (.istore 5, 2) := by decide +kernel
theorem dX0_findPlaces_10 : decode cX0_findPlaces 10 = .ok (.iload 5, 2) := by decide +kernel
theorem dX0_findPlaces_12 : decode cX0_findPlaces 12 = .ok (.iload_n 1, 1) := by decide +kernel
theorem dX0_findPlaces_13 : decode cX0_findPlaces 13 = .ok (.if_icmp .ge 76, 3) := by decide +kernel
theorem dX0_findPlaces_16 : decode cX0_findPlaces 16 = .ok (.iload_n 2, 1) := by decide +kernel
theorem dX0_findPlaces_17 : decode cX0_findPlaces 17 = .ok (.iconst 0, 1) := by decide +kernel
theorem dX0_findPlaces_18 : decode cX0_findPlaces 18 = .ok (.iconst 5, 1) := by decide +kernel
theorem dX0_findPlaces_19 : decode cX0_findPlaces 19 = .ok (.invokestatic 30, 3) := by decide +kernel
theorem dX0_findPlaces_22 : decode cX0_findPlaces 22 = .ok (.ifCond .eq 67, 3) := by decide +kernel
theorem dX0_findPlaces_25 : decode cX0_findPlaces 25 = .ok (.aload_n 0, 1) := by decide +kernel
theorem dX0_findPlaces_26 : decode cX0_findPlaces 26 = .ok (.getfield 24, 3) := by decide +kernel
theorem dX0_findPlaces_29 : decode cX0_findPlaces 29 = .ok (.iload_n 2, 1) := by decide +kernel
theorem dX0_findPlaces_30 : decode cX0_findPlaces 30 = .ok (.iload_n 3, 1) := by decide +kernel
theorem dX0_findPlaces_31 : decode cX0_findPlaces 31 = .ok (.iastore, 1) := by decide +kernel
theorem dX0_findPlaces_32 : decode cX0_findPlaces 32 = .ok (.aload_n 0, 1) := by decide +kernel
theorem dX0_findPlaces_33 : decode cX0_findPlaces 33 = .ok (.getfield 27, 3) := by decide +kernel
theorem dX0_findPlaces_36 : decode cX0_findPlaces 36 = .ok (.iload_n 2, 1) := by decide +kernel
theorem dX0_findPlaces_37 : decode cX0_findPlaces 37 = .ok (.iload 4, 2) := by decide +kernel
theorem dX0_findPlaces_39 : decode cX0_findPlaces 39 = .ok (.aload_n 0, 1) := by decide +kernel
theorem dX0_findPlaces_40 : decode cX0_findPlaces 40 = .ok (.getfield 41, 3) := by decide +kernel
theorem dX0_findPlaces_43 : decode cX0_findPlaces 43 = .ok (.i2l, 1) := by decide +kernel
theorem dX0_findPlaces_44 : decode cX0_findPlaces 44 = .ok (.iload 5, 2) := by decide +kernel
theorem dX0_findPlaces_46 : decode cX0_findPlaces 46 = .ok (.i2l, 1) := by decide +kernel
theorem dX0_findPlaces_47 : decode cX0_findPlaces 47 = .ok (.lmul, 1) := by decide +kernel
theorem dX0_findPlaces_48 : decode cX0_findPlaces 48 = .ok (.iload_n 1, 1) := by decide +kernel
theorem dX0_findPlaces_49 : decode cX0_findPlaces 49 = .ok (.i2l, 1) := by decide +kernel
theorem dX0_findPlaces_50 : decode cX0_findPlaces 50 = .ok (.invokestatic 93, 3) := by decide +kernel
theorem dX0_findPlaces_53 : decode cX0_findPlaces 53 = .ok (.l2i, 1) := by decide +kernel
theorem dX0_findPlaces_54 : decode cX0_findPlaces 54 = .ok (.isub, 1) := by decide +kernel
theorem dX0_findPlaces_55 : decode cX0_findPlaces 55 = .ok (.iastore, 1) := by decide +kernel
theorem dX0_findPlaces_56 : decode cX0_findPlaces 56 = .ok (.iload_n 3, 1) := by decide +kernel
theorem dX0_findPlaces_57 : decode cX0_findPlaces 57 = .ok (.aload_n 0, 1) := by decide +kernel
theorem dX0_findPlaces_58 : decode cX0_findPlaces 58 = .ok (.getfield 21, 3) := by decide +kernel
theorem dX0_findPlaces_61 : decode cX0_findPlaces 61 = .ok (.iload_n 2, 1) := by decide +kernel
theorem dX0_findPlaces_62 : decode cX0_findPlaces 62 = .ok (.iaload, 1) := by decide +kernel
theorem dX0_findPlaces_63 : decode cX0_findPlaces 63 = .ok (.iadd, 1) := by decide +kernel
theorem dX0_findPlaces_64 : decode cX0_findPlaces 64 = .ok (.istore_n 3, 1) := by decide +kernel
theorem dX0_findPlaces_65 : decode cX0_findPlaces 65 = .ok (.iload 4, 2) := by decide +kernel
theorem dX0_findPlaces_67 : decode cX0_findPlaces 67 = .ok (.aload_n 0, 1) := by decide +kernel
theorem dX0_findPlaces_68 : decode cX0_findPlaces 68 = .ok (.getfield 18, 3) := by decide +kernel
theorem dX0_findPlaces_71 : decode cX0_findPlaces 71 = .ok (.iload_n 2, 1) := by decide +kernel
theorem dX0_findPlaces_72 : decode cX0_findPlaces 72 = .ok (.iaload, 1) := by decide +kernel
theorem dX0_findPlaces_73 : decode cX0_findPlaces 73 = .ok (.iadd, 1) := by decide +kernel
theorem dX0_findPlaces_74 : decode cX0_findPlaces 74 = .ok (.istore 4, 2) := by decide +kernel
theorem dX0_findPlaces_76 : decode cX0_findPlaces 76 = .ok (.aload_n 0, 1) := by decide +kernel
theorem dX0_findPlaces_77 : decode cX0_findPlaces 77 = .ok (.getfield 9, 3) := by decide +kernel
theorem dX0_findPlaces_80 : decode cX0_findPlaces 80 = .ok (.iload_n 2, 1) := by decide +kernel
theorem dX0_findPlaces_81 : decode cX0_findPlaces 81 = .ok (.iaload, 1) := by decide +kernel
theorem dX0_findPlaces_82 : decode cX0_findPlaces 82 = .ok (.istore_n 2, 1) := by decide +kernel
theorem dX0_findPlaces_83 : decode cX0_findPlaces 83 = .ok (.iinc 5 1, 3) := by decide +kernel
theorem dX0_findPlaces_86 : decode cX0_findPlaces 86 = .ok (.goto (-76), 3) := by decide +kernel
theorem dX0_findPlaces_89 : decode cX0_findPlaces 89 = .ok (.return_, 1) := by decide +kernel
theorem dX1_init_0 : decode cX1_init 0 = .ok (.aload_n 0, 1) := by decide +kernel
theorem dX1_init_1 : decode cX1_init 1 = .ok (.invokespecial 3, 3) := by decide +kernel
theorem dX1_init_4 : decode cX1_init 4 = .ok (.aload_n 0, 1) := by decide +kernel
theorem dX1_init_5 : decode cX1_init 5 = .ok (.iconst 5, 1) := by decide +kernel
theorem dX1_init_6 : decode cX1_init 6 = .ok (.anewarray 9, 3) := by decide +kernel
theorem dX1_init_9 : decode cX1_init 9 = .ok (.putfield 11, 3) := by decide +kernel
theorem dX1_init_12 : decode cX1_init 12 = .ok (.iconst 0, 1) := by decide +kernel
theorem dX1_init_13 : decode cX1_init 13 = .ok (.istore_n 1, 1) := by decide +kernel
theorem dX1_init_14 : decode cX1_init 14 = .ok (.iload_n 1, 1) := by decide +kernel
theorem dX1_init_15 : decode cX1_init 15 = .ok (.iconst 5, 1) := by decide +kernel
theorem dX1_init_16 : decode cX1_init 16 = .ok (.if_icmp .ge 22, 3) := by decide +kernel
theorem dX1_init_19 : decode cX1_init 19 = .ok (.aload_n 0, 1) := by decide +kernel
theorem dX1_init_20 : decode cX1_init 20 = .ok (.getfield 11, 3) := by decide +kernel
theorem dX1_init_23 : decode cX1_init 23 = .ok (.iload_n 1, 1) := by decide +kernel
theorem dX1_init_24 : decode cX1_init 24 = .ok (.new 9, 3) := by decide +kernel
theorem dX1_init_27 : decode cX1_init 27 = .ok (.dup, 1) := by decide +kernel
theorem dX1_init_28 : decode cX1_init 28 = .ok (.invokespecial 17, 3) := by decide +kernel
theorem dX1_init_31 : decode cX1_init 31 = .ok (.aastore, 1) := by decide +kernel
theorem dX1_init_32 : decode cX1_init 32 = .ok (.iinc 1 1, 3) := by decide +kernel
theorem dX1_init_35 : decode cX1_init 35 = .ok (.goto (-21), 3) := by decide +kernel
theorem dX1_init_38 : decode cX1_init 38 = .ok (.aload_n 0, 1) := by decide +kernel
theorem dX1_init_39 : decode cX1_init 39 = .ok (.new 9, 3) := by decide +kernel
theorem dX1_init_42 : decode cX1_init 42 = .ok (.dup, 1) := by decide +kernel
theorem dX1_init_43 : decode cX1_init 43 = .ok (.invokespecial 17, 3) := by decide +kernel
theorem dX1_init_46 : decode cX1_init 46 = .ok (.putfield 18, 3) := by decide +kernel
theorem dX1_init_49 : decode cX1_init 49 = .ok (.return_, 1) := by decide +kernel
theorem dX1_hold_0 : decode cX1_hold 0 = .ok (.aload_n 0, 1) := by decide +kernel
theorem dX1_hold_1 : decode cX1_hold 1 = .ok (.getfield 18, 3) := by decide +kernel
theorem dX1_hold_4 : decode cX1_hold 4 = .ok (.aload_n 1, 1) := by decide +kernel
theorem dX1_hold_5 : decode cX1_hold 5 = .ok (.invokevirtual 22, 3) := by decide +kernel
theorem dX1_hold_8 : decode cX1_hold 8 = .ok (.return_, 1) := by decide +kernel
theorem dX1_release_0 : decode cX1_release 0 = .ok (.aload_n 1, 1) := by decide +kernel
theorem dX1_release_1 : decode cX1_release 1 = .ok (.aload_n 0, 1) := by decide +kernel
theorem dX1_release_2 : decode cX1_release 2 = .ok (.getfield 18, 3) := by decide +kernel
theorem dX1_release_5 : decode cX1_release 5 = .ok (.invokevirtual 22, 3) := by decide +kernel
theorem dX1_release_8 : decode cX1_release 8 = .ok (.return_, 1) := by decide +kernel
theorem dX1_keep_0 : decode cX1_keep 0 = .ok (.aload_n 0, 1) := by decide +kernel
theorem dX1_keep_1 : decode cX1_keep 1 = .ok (.getfield 26, 3) := by decide +kernel
theorem dX1_keep_4 : decode cX1_keep 4 = .ok (.iconst 5, 1) := by decide +kernel
theorem dX1_keep_5 : decode cX1_keep 5 = .ok (.if_icmp .lt 55, 3) := by decide +kernel
theorem dX1_keep_8 : decode cX1_keep 8 = .ok (.aload_n 0, 1) := by decide +kernel
theorem dX1_keep_9 : decode cX1_keep 9 = .ok (.getfield 11, 3) := by decide +kernel
theorem dX1_keep_12 : decode cX1_keep 12 = .ok (.iconst 0, 1) := by decide +kernel
theorem dX1_keep_13 : decode cX1_keep 13 = .ok (.aaload, 1) := by decide +kernel
theorem dX1_keep_14 : decode cX1_keep 14 = .ok (.astore_n 1, 1) := by decide +kernel
theorem dX1_keep_15 : decode cX1_keep 15 = .ok (.iconst 0, 1) := by decide +kernel
theorem dX1_keep_16 : decode cX1_keep 16 = .ok (.istore_n 2, 1) := by decide +kernel
theorem dX1_keep_17 : decode cX1_keep 17 = .ok (.iload_n 2, 1) := by decide +kernel
theorem dX1_keep_18 : decode cX1_keep 18 = .ok (.iconst 4, 1) := by decide +kernel
theorem dX1_keep_19 : decode cX1_keep 19 = .ok (.if_icmp .ge 23, 3) := by decide +kernel
theorem dX1_keep_22 : decode cX1_keep 22 = .ok (.aload_n 0, 1) := by decide +kernel
theorem dX1_keep_23 : decode cX1_keep 23 = .ok (.getfield 11, 3) := by decide +kernel
theorem dX1_keep_26 : decode cX1_keep 26 = .ok (.iload_n 2, 1) := by decide +kernel
theorem dX1_keep_27 : decode cX1_keep 27 = .ok (.aload_n 0, 1) := by decide +kernel
theorem dX1_keep_28 : decode cX1_keep 28 = .ok (.getfield 11, 3) := by decide +kernel
theorem dX1_keep_31 : decode cX1_keep 31 = .ok (.iload_n 2, 1) := by decide +kernel
theorem dX1_keep_32 : decode cX1_keep 32 = .ok (.iconst 1, 1) := by decide +kernel
theorem dX1_keep_33 : decode cX1_keep 33 = .ok (.iadd, 1) := by decide +kernel
theorem dX1_keep_34 : decode cX1_keep 34 = .ok (.aaload, 1) := by decide +kernel
theorem dX1_keep_35 : decode cX1_keep 35 = .ok (.aastore, 1) := by decide +kernel
theorem dX1_keep_36 : decode cX1_keep 36 = .ok (.iinc 2 1, 3) := by decide +kernel
theorem dX1_keep_39 : decode cX1_keep 39 = .ok (.goto (-22), 3) := by decide +kernel
theorem dX1_keep_42 : decode cX1_keep 42 = .ok (.aload_n 0, 1) := by decide +kernel
theorem dX1_keep_43 : decode cX1_keep 43 = .ok (.getfield 11, 3) := by decide +kernel
theorem dX1_keep_46 : decode cX1_keep 46 = .ok (.iconst 4, 1) := by decide +kernel
theorem dX1_keep_47 : decode cX1_keep 47 = .ok (.aload_n 0, 1) := by decide +kernel
theorem dX1_keep_48 : decode cX1_keep 48 = .ok (.getfield 18, 3) := by decide +kernel
theorem dX1_keep_51 : decode cX1_keep 51 = .ok (.aastore, 1) := by decide +kernel
theorem dX1_keep_52 : decode cX1_keep 52 = .ok (.aload_n 0, 1) := by decide +kernel
theorem dX1_keep_53 : decode cX1_keep 53 = .ok (.aload_n 1, 1) := by decide +kernel
theorem dX1_keep_54 : decode cX1_keep 54 = .ok (.putfield 18, 3) := by decide +kernel
theorem dX1_keep_57 : decode cX1_keep 57 = .ok (.goto 48, 3) := by decide +kernel
theorem dX1_keep_60 : decode cX1_keep 60 = .ok (.aload_n 0, 1) := by decide +kernel
theorem dX1_keep_61 : decode cX1_keep 61 = .ok (.getfield 26, 3) := by decide +kernel
theorem dX1_keep_64 : decode cX1_keep 64 = .ok (.ifCond .lt 41, 3) := by decide +kernel
theorem dX1_keep_67 : decode cX1_keep 67 = .ok (.aload_n 0, 1) := by decide +kernel
theorem dX1_keep_68 : decode cX1_keep 68 = .ok (.getfield 11, 3) := by decide +kernel
theorem dX1_keep_71 : decode cX1_keep 71 = .ok (.aload_n 0, 1) := by decide +kernel
theorem dX1_keep_72 : decode cX1_keep 72 = .ok (.getfield 26, 3) := by decide +kernel
theorem dX1_keep_75 : decode cX1_keep 75 = .ok (.aaload, 1) := by decide +kernel
theorem dX1_keep_76 : decode cX1_keep 76 = .ok (.astore_n 1, 1) := by decide +kernel
theorem dX1_keep_77 : decode cX1_keep 77 = .ok (.aload_n 0, 1) := by decide +kernel
theorem dX1_keep_78 : decode cX1_keep 78 = .ok (.getfield 11, 3) := by decide +kernel
theorem dX1_keep_81 : decode cX1_keep 81 = .ok (.aload_n 0, 1) := by decide +kernel
theorem dX1_keep_82 : decode cX1_keep 82 = .ok (.getfield 26, 3) := by decide +kernel
theorem dX1_keep_85 : decode cX1_keep 85 = .ok (.aload_n 0, 1) := by decide +kernel
theorem dX1_keep_86 : decode cX1_keep 86 = .ok (.getfield 18, 3) := by decide +kernel
theorem dX1_keep_89 : decode cX1_keep 89 = .ok (.aastore, 1) := by decide +kernel
theorem dX1_keep_90 : decode cX1_keep 90 = .ok (.aload_n 0, 1) := by decide +kernel
theorem dX1_keep_91 : decode cX1_keep 91 = .ok (.aload_n 1, 1) := by decide +kernel
theorem dX1_keep_92 : decode cX1_keep 92 = .ok (.putfield 18, 3) := by decide +kernel
theorem dX1_keep_95 : decode cX1_keep 95 = .ok (.aload_n 0, 1) := by decide +kernel
theorem dX1_keep_96 : decode cX1_keep 96 = .ok (.dup, 1) := by decide +kernel
theorem dX1_keep_97 : decode cX1_keep 97 = .ok (.getfield 26, 3) := by decide +kernel
theorem dX1_keep_100 : decode cX1_keep 100 = .ok (.iconst 1, 1) := by decide +kernel
theorem dX1_keep_101 : decode cX1_keep 101 = .ok (.iadd, 1) := by decide +kernel
theorem dX1_keep_102 : decode cX1_keep 102 = .ok (.putfield 26, 3) := by decide +kernel
theorem dX1_keep_105 : decode cX1_keep 105 = .ok (.return_, 1) := by decide +kernel
theorem dX1_goBack_0 : decode cX1_goBack 0 = .ok (.aload_n 0, 1) := by decide +kernel
theorem dX1_goBack_1 : decode cX1_goBack 1 = .ok (.getfield 26, 3) := by decide +kernel
theorem dX1_goBack_4 : decode cX1_goBack 4 = .ok (.ifCond .le 34, 3) := by decide +kernel
theorem dX1_goBack_7 : decode cX1_goBack 7 = .ok (.aload_n 0, 1) := by decide +kernel
theorem dX1_goBack_8 : decode cX1_goBack 8 = .ok (.getfield 26, 3) := by decide +kernel
theorem dX1_goBack_11 : decode cX1_goBack 11 = .ok (.iconst 5, 1) := by decide +kernel
theorem dX1_goBack_12 : decode cX1_goBack 12 = .ok (.if_icmp .gt 26, 3) := by decide +kernel
theorem dX1_goBack_15 : decode cX1_goBack 15 = .ok (.aload_n 0, 1) := by decide +kernel
theorem dX1_goBack_16 : decode cX1_goBack 16 = .ok (.dup, 1) := by decide +kernel
theorem dX1_goBack_17 : decode cX1_goBack 17 = .ok (.getfield 26, 3) := by decide +kernel
theorem dX1_goBack_20 : decode cX1_goBack 20 = .ok (.iconst 1, 1) := by decide +kernel
theorem dX1_goBack_21 : decode cX1_goBack 21 = .ok (.isub, 1) := by decide +kernel
theorem dX1_goBack_22 : decode cX1_goBack 22 = .ok (.putfield 26, 3) := by decide +kernel
theorem dX1_goBack_25 : decode cX1_goBack 25 = .ok (.aload_n 1, 1) := by decide +kernel
theorem dX1_goBack_26 : decode cX1_goBack 26 = .ok (.aload_n 0, 1) := by decide +kernel
theorem dX1_goBack_27 : decode cX1_goBack 27 = .ok (.getfield 11, 3) := by decide +kernel
theorem dX1_goBack_30 : decode cX1_goBack 30 = .ok (.aload_n 0, 1) := by decide +kernel
theorem dX1_goBack_31 : decode cX1_goBack 31 = .ok (.getfield 26, 3) := by decide +kernel
theorem dX1_goBack_34 : decode cX1_goBack 34 = .ok (.aaload, 1) := by decide +kernel
theorem dX1_goBack_35 : decode cX1_goBack 35 = .ok (.invokevirtual 22, 3) := by decide +kernel
theorem dX1_goBack_38 : decode cX1_goBack 38 = .ok (.return_, 1) := by decide +kernel
theorem dX2_init_0 : decode cX2_init 0 = .ok (.aload_n 0, 1) := by decide +kernel
theorem dX2_init_1 : decode cX2_init 1 = .ok (.invokespecial 3, 3) := by decide +kernel
theorem dX2_init_4 : decode cX2_init 4 = .ok (.aload_n 0, 1) := by decide +kernel
theorem dX2_init_5 : decode cX2_init 5 = .ok (.bipush 6, 2) := by decide +kernel
theorem dX2_init_7 : decode cX2_init 7 = .ok (.newarray .long, 2) := by decide +kernel
theorem dX2_init_9 : decode cX2_init 9 = .ok (.putfield 9, 3) := by decide +kernel
theorem dX2_init_12 : decode cX2_init 12 = .ok (.aload_n 0, 1) := by decide +kernel
theorem dX2_init_13 : decode cX2_init 13 = .ok (.bipush 6, 2) := by decide +kernel
theorem dX2_init_15 : decode cX2_init 15 = .ok (.newarray .long, 2) := by decide +kernel
theorem dX2_init_17 : decode cX2_init 17 = .ok (.putfield 15, 3) := by decide +kernel
theorem dX2_init_20 : decode cX2_init 20 = .ok (.return_, 1) := by decide +kernel
theorem dX2_aboveOf_0 : decode cX2_aboveOf 0 = .ok (.iload_n 1, 1) := by decide +kernel
theorem dX2_aboveOf_1 : decode cX2_aboveOf 1 = .ok (.iconst 0, 1) := by decide +kernel
theorem dX2_aboveOf_2 : decode cX2_aboveOf 2 = .ok (.iconst 5, 1) := by decide +kernel
theorem dX2_aboveOf_3 : decode cX2_aboveOf 3 = .ok (.invokestatic 18, 3) := by decide +kernel
theorem dX2_aboveOf_6 : decode cX2_aboveOf 6 = .ok (.ifCond .eq 12, 3) := by decide +kernel
theorem dX2_aboveOf_9 : decode cX2_aboveOf 9 = .ok (.aload_n 0, 1) := by decide +kernel
theorem dX2_aboveOf_10 : decode cX2_aboveOf 10 = .ok (.getfield 9, 3) := by decide +kernel
theorem dX2_aboveOf_13 : decode cX2_aboveOf 13 = .ok (.iload_n 1, 1) := by decide +kernel
theorem dX2_aboveOf_14 : decode cX2_aboveOf 14 = .ok (.laload, 1) := by decide +kernel
theorem dX2_aboveOf_15 : decode cX2_aboveOf 15 = .ok (.goto 4, 3) := by decide +kernel
theorem dX2_aboveOf_18 : decode cX2_aboveOf 18 = .ok (.lconst 0, 1) := by decide +kernel
theorem dX2_aboveOf_19 : decode cX2_aboveOf 19 = .ok (.lreturn, 1) := by decide +kernel
theorem dX2_belowOf_0 : decode cX2_belowOf 0 = .ok (.iload_n 1, 1) := by decide +kernel
theorem dX2_belowOf_1 : decode cX2_belowOf 1 = .ok (.iconst 0, 1) := by decide +kernel
theorem dX2_belowOf_2 : decode cX2_belowOf 2 = .ok (.iconst 5, 1) := by decide +kernel
theorem dX2_belowOf_3 : decode cX2_belowOf 3 = .ok (.invokestatic 18, 3) := by decide +kernel
theorem dX2_belowOf_6 : decode cX2_belowOf 6 = .ok (.ifCond .eq 12, 3) := by decide +kernel
theorem dX2_belowOf_9 : decode cX2_belowOf 9 = .ok (.aload_n 0, 1) := by decide +kernel
theorem dX2_belowOf_10 : decode cX2_belowOf 10 = .ok (.getfield 15, 3) := by decide +kernel
theorem dX2_belowOf_13 : decode cX2_belowOf 13 = .ok (.iload_n 1, 1) := by decide +kernel
theorem dX2_belowOf_14 : decode cX2_belowOf 14 = .ok (.laload, 1) := by decide +kernel
theorem dX2_belowOf_15 : decode cX2_belowOf 15 = .ok (.goto 4, 3) := by decide +kernel
theorem dX2_belowOf_18 : decode cX2_belowOf 18 = .ok (.lconst 1, 1) := by decide +kernel
theorem dX2_belowOf_19 : decode cX2_belowOf 19 = .ok (.lreturn, 1) := by decide +kernel
theorem dX2_agree_0 : decode cX2_agree 0 = .ok (.aload_n 0, 1) := by decide +kernel
theorem dX2_agree_1 : decode cX2_agree 1 = .ok (.lconst 0, 1) := by decide +kernel
theorem dX2_agree_2 : decode cX2_agree 2 = .ok (.putfield 22, 3) := by decide +kernel
theorem dX2_agree_5 : decode cX2_agree 5 = .ok (.aload_n 0, 1) := by decide +kernel
theorem dX2_agree_6 : decode cX2_agree 6 = .ok (.lconst 1, 1) := by decide +kernel
theorem dX2_agree_7 : decode cX2_agree 7 = .ok (.putfield 26, 3) := by decide +kernel
theorem dX2_agree_10 : decode cX2_agree 10 = .ok (.aload_n 2, 1) := by decide +kernel
theorem dX2_agree_11 : decode cX2_agree 11 = .ok (.getfield 29, 3) := by decide +kernel
theorem dX2_agree_14 : decode cX2_agree 14 = .ok (.ifCond .eq 10, 3) := by decide +kernel
theorem dX2_agree_17 : decode cX2_agree 17 = .ok (.aload_n 0, 1) := by decide +kernel
theorem dX2_agree_18 : decode cX2_agree 18 = .ok (.aload_n 2, 1) := by decide +kernel
theorem dX2_agree_19 : decode cX2_agree 19 = .ok (.aload_n 3, 1) := by decide +kernel
theorem dX2_agree_20 : decode cX2_agree 20 = .ok (.invokevirtual 35, 3) := by decide +kernel
theorem dX2_agree_23 : decode cX2_agree 23 = .ok (.return_, 1) := by decide +kernel
theorem dX2_agree_24 : decode cX2_agree 24 = .ok (.iconst 0, 1) := by decide +kernel
theorem dX2_agree_25 : decode cX2_agree 25 = .ok (.istore 4, 2) := by decide +kernel
theorem dX2_agree_27 : decode cX2_agree 27 = .ok (.iload 4, 2) := by decide +kernel
theorem dX2_agree_29 : decode cX2_agree 29 = .ok (.bipush 6, 2) := by decide +kernel
theorem dX2_agree_31 : decode cX2_agree 31 = .ok (.if_icmp .ge 35, 3) := by decide +kernel
theorem dX2_agree_34 : decode cX2_agree 34 = .ok (.iload 4, 2) := by decide +kernel
theorem dX2_agree_36 : decode cX2_agree 36 = .ok (.iload_n 1, 1) := by decide +kernel
theorem dX2_agree_37 : decode cX2_agree 37 = .ok (.if_icmp .ge 29, 3) := by decide +kernel
theorem dX2_agree_40 : decode cX2_agree 40 = .ok (.aload_n 2, 1) := by decide +kernel
theorem dX2_agree_41 : decode cX2_agree 41 = .ok (.iload 4, 2) := by decide +kernel
theorem dX2_agree_43 : decode cX2_agree 43 = .ok (.invokevirtual 39, 3) := by decide +kernel
theorem dX2_agree_46 : decode cX2_agree 46 = .ok (.iconst (-1), 1) := by decide +kernel
theorem dX2_agree_47 : decode cX2_agree 47 = .ok (.if_icmp .ne 13, 3) := by decide +kernel
theorem dX2_agree_50 : decode cX2_agree 50 = .ok (.aload_n 0, 1) := by decide +kernel
theorem dX2_agree_51 : decode cX2_agree 51 = .ok (.aload_n 2, 1) := by decide +kernel
theorem dX2_agree_52 : decode cX2_agree 52 = .ok (.aload_n 3, 1) := by decide +kernel
theorem dX2_agree_53 : decode cX2_agree 53 = .ok (.iload 4, 2) := by decide +kernel
theorem dX2_agree_55 : decode cX2_agree 55 = .ok (.lconst 1, 1) := by decide +kernel
theorem dX2_agree_56 : decode cX2_agree 56 = .ok (.lconst 0, 1) := by decide +kernel
theorem dX2_agree_57 : decode cX2_agree 57 = .ok (.invokevirtual 43, 3) := by decide +kernel
theorem dX2_agree_60 : decode cX2_agree 60 = .ok (.iinc 4 1, 3) := by decide +kernel
theorem dX2_agree_63 : decode cX2_agree 63 = .ok (.goto (-36), 3) := by decide +kernel
theorem dX2_agree_66 : decode cX2_agree 66 = .ok (.return_, 1) := by decide +kernel
theorem dX2_agreeRound_0 : decode cX2_agreeRound 0 = .ok (.lconst 0, 1) := by decide +kernel
theorem dX2_agreeRound_1 : decode cX2_agreeRound 1 = .ok (.lstore_n 3, 1) := by decide +kernel
theorem dX2_agreeRound_2 : decode cX2_agreeRound 2 = .ok (.lconst 0, 1) := by decide +kernel
theorem dX2_agreeRound_3 : decode cX2_agreeRound 3 = .ok (.lstore 5, 2) := by decide +kernel
theorem dX2_agreeRound_5 : decode cX2_agreeRound 5 = .ok (.iconst 0, 1) := by decide +kernel
theorem dX2_agreeRound_6 : decode cX2_agreeRound 6 = .ok (.istore 7, 2) := by decide +kernel
theorem dX2_agreeRound_8 : decode cX2_agreeRound 8 = .ok (.iload 7, 2) := by decide +kernel
theorem dX2_agreeRound_10 : decode cX2_agreeRound 10 = .ok (.bipush 6, 2) := by decide +kernel
theorem dX2_agreeRound_12 : decode cX2_agreeRound 12 = .ok (.if_icmp .ge 53, 3) := by decide +kernel
theorem dX2_agreeRound_15 : decode cX2_agreeRound 15 = .ok (.aload_n 1, 1) := by decide +kernel
theorem dX2_agreeRound_16 : decode cX2_agreeRound 16 = .ok (.iload 7, 2) := by decide +kernel
theorem dX2_agreeRound_18 : decode cX2_agreeRound 18 = .ok (.invokevirtual 47, 3) := by decide +kernel
theorem dX2_agreeRound_21 : decode cX2_agreeRound 21 = .ok (.iconst (-1), 1) := by decide +kernel
theorem dX2_agreeRound_22 : decode cX2_agreeRound 22 = .ok (.if_icmp .eq 37, 3) := by decide +kernel
theorem dX2_agreeRound_25 : decode cX2_agreeRound 25 = .ok (.lload_n 3, 1) := by decide +kernel
theorem dX2_agreeRound_26 : decode cX2_agreeRound 26 = .ok (.aload_n 2, 1) := by decide +kernel
theorem dX2_agreeRound_27 : decode cX2_agreeRound 27 = .ok (.iload 7, 2) := by decide +kernel
theorem dX2_agreeRound_29 : decode cX2_agreeRound 29 = .ok (.invokevirtual 50, 3) := by decide +kernel
theorem dX2_agreeRound_32 : decode cX2_agreeRound 32 = .ok (.i2l, 1) := by decide +kernel
theorem dX2_agreeRound_33 : decode cX2_agreeRound 33 = .ok (.aload_n 2, 1) := by decide +kernel
theorem dX2_agreeRound_34 : decode cX2_agreeRound 34 = .ok (.iload 7, 2) := by decide +kernel
theorem dX2_agreeRound_36 : decode cX2_agreeRound 36 = .ok (.invokevirtual 55, 3) := by decide +kernel
theorem dX2_agreeRound_39 : decode cX2_agreeRound 39 = .ok (.invokestatic 58, 3) := by decide +kernel
theorem dX2_agreeRound_42 : decode cX2_agreeRound 42 = .ok (.lmul, 1) := by decide +kernel
theorem dX2_agreeRound_43 : decode cX2_agreeRound 43 = .ok (.ladd, 1) := by decide +kernel
theorem dX2_agreeRound_44 : decode cX2_agreeRound 44 = .ok (.lstore_n 3, 1) := by decide +kernel
theorem dX2_agreeRound_45 : decode cX2_agreeRound 45 = .ok (.lload 5, 2) := by decide +kernel
theorem dX2_agreeRound_47 : decode cX2_agreeRound 47 = .ok (.aload_n 2, 1) := by decide +kernel
theorem dX2_agreeRound_48 : decode cX2_agreeRound 48 = .ok (.iload 7, 2) := by decide +kernel
theorem dX2_agreeRound_50 : decode cX2_agreeRound 50 = .ok (.invokevirtual 55, 3) := by decide +kernel
theorem dX2_agreeRound_53 : decode cX2_agreeRound 53 = .ok (.invokestatic 58, 3) := by decide +kernel
theorem dX2_agreeRound_56 : decode cX2_agreeRound 56 = .ok (.ladd, 1) := by decide +kernel
theorem dX2_agreeRound_57 : decode cX2_agreeRound 57 = .ok (.lstore 5, 2) := by decide +kernel
theorem dX2_agreeRound_59 : decode cX2_agreeRound 59 = .ok (.iinc 7 1, 3) := by decide +kernel
theorem dX2_agreeRound_62 : decode cX2_agreeRound 62 = .ok (.goto (-54), 3) := by decide +kernel
theorem dX2_agreeRound_65 : decode cX2_agreeRound 65 = .ok (.aload_n 0, 1) := by decide +kernel
theorem dX2_agreeRound_66 : decode cX2_agreeRound 66 = .ok (.aload_n 1, 1) := by decide +kernel
theorem dX2_agreeRound_67 : decode cX2_agreeRound 67 = .ok (.aload_n 2, 1) := by decide +kernel
theorem dX2_agreeRound_68 : decode cX2_agreeRound 68 = .ok (.iconst 0, 1) := by decide +kernel
theorem dX2_agreeRound_69 : decode cX2_agreeRound 69 = .ok (.lload 5, 2) := by decide +kernel
theorem dX2_agreeRound_71 : decode cX2_agreeRound 71 = .ok (.lload_n 3, 1) := by decide +kernel
theorem dX2_agreeRound_72 : decode cX2_agreeRound 72 = .ok (.invokevirtual 43, 3) := by decide +kernel
theorem dX2_agreeRound_75 : decode cX2_agreeRound 75 = .ok (.lload_n 3, 1) := by decide +kernel
theorem dX2_agreeRound_76 : decode cX2_agreeRound 76 = .ok (.lload_n 3, 1) := by decide +kernel
theorem dX2_agreeRound_77 : decode cX2_agreeRound 77 = .ok (.lmul, 1) := by decide +kernel
theorem dX2_agreeRound_78 : decode cX2_agreeRound 78 = .ok (.ldc2_w 62, 3) := by decide +kernel
theorem dX2_agreeRound_81 : decode cX2_agreeRound 81 = .ok (.lload 5, 2) := by decide +kernel
theorem dX2_agreeRound_83 : decode cX2_agreeRound 83 = .ok (.lmul, 1) := by decide +kernel
theorem dX2_agreeRound_84 : decode cX2_agreeRound 84 = .ok (.invokestatic 64, 3) := by decide +kernel
theorem dX2_agreeRound_87 : decode cX2_agreeRound 87 = .ok (.lstore 7, 2) := by decide +kernel
theorem dX2_agreeRound_89 : decode cX2_agreeRound 89 = .ok (.lload 7, 2) := by decide +kernel
theorem dX2_agreeRound_91 : decode cX2_agreeRound 91 = .ok (.lconst 0, 1) := by decide +kernel
theorem dX2_agreeRound_92 : decode cX2_agreeRound 92 = .ok (.lcmp, 1) := by decide +kernel
theorem dX2_agreeRound_93 : decode cX2_agreeRound 93 = .ok (.ifCond .le 26, 3) := by decide +kernel
theorem dX2_agreeRound_96 : decode cX2_agreeRound 96 = .ok (.aload_n 0, 1) := by decide +kernel
theorem dX2_agreeRound_97 : decode cX2_agreeRound 97 = .ok (.lload_n 3, 1) := by decide +kernel
theorem dX2_agreeRound_98 : decode cX2_agreeRound 98 = .ok (.lload_n 3, 1) := by decide +kernel
theorem dX2_agreeRound_99 : decode cX2_agreeRound 99 = .ok (.lmul, 1) := by decide +kernel
theorem dX2_agreeRound_100 : decode cX2_agreeRound 100 = .ok (.lload 7, 2) := by decide +kernel
theorem dX2_agreeRound_102 : decode cX2_agreeRound 102 = .ok (.ldiv, 1) := by decide +kernel
theorem dX2_agreeRound_103 : decode cX2_agreeRound 103 = .ok (.putfield 22, 3) := by decide +kernel
theorem dX2_agreeRound_106 : decode cX2_agreeRound 106 = .ok (.aload_n 0, 1) := by decide +kernel
theorem dX2_agreeRound_107 : decode cX2_agreeRound 107 = .ok (.ldc2_w 62, 3) := by decide +kernel
theorem dX2_agreeRound_110 : decode cX2_agreeRound 110 = .ok (.lload 5, 2) := by decide +kernel
theorem dX2_agreeRound_112 : decode cX2_agreeRound 112 = .ok (.lmul, 1) := by decide +kernel
theorem dX2_agreeRound_113 : decode cX2_agreeRound 113 = .ok (.lload 7, 2) := by decide +kernel
theorem dX2_agreeRound_115 : decode cX2_agreeRound 115 = .ok (.ldiv, 1) := by decide +kernel
theorem dX2_agreeRound_116 : decode cX2_agreeRound 116 = .ok (.putfield 26, 3) := by decide +kernel
theorem dX2_agreeRound_119 : decode cX2_agreeRound 119 = .ok (.return_, 1) := by decide +kernel
theorem dX2_walk_0 : decode cX2_walk 0 = .ok (.iload_n 3, 1) := by decide +kernel
theorem dX2_walk_1 : decode cX2_walk 1 = .ok (.istore 8, 2) := by decide +kernel
theorem dX2_walk_3 : decode cX2_walk 3 = .ok (.lconst 0, 1) := by decide +kernel
theorem dX2_walk_4 : decode cX2_walk 4 = .ok (.lstore 9, 2) := by decide +kernel
theorem dX2_walk_6 : decode cX2_walk 6 = .ok (.iconst 0, 1) := by decide +kernel
theorem dX2_walk_7 : decode cX2_walk 7 = .ok (.istore 11, 2) := by decide +kernel
theorem dX2_walk_9 : decode cX2_walk 9 = .ok (.iload 11, 2) := by decide +kernel
theorem dX2_walk_11 : decode cX2_walk 11 = .ok (.bipush 6, 2) := by decide +kernel
theorem dX2_walk_13 : decode cX2_walk 13 = .ok (.if_icmp .ge 81, 3) := by decide +kernel
theorem dX2_walk_16 : decode cX2_walk 16 = .ok (.iload 8, 2) := by decide +kernel
theorem dX2_walk_18 : decode cX2_walk 18 = .ok (.iconst 0, 1) := by decide +kernel
theorem dX2_walk_19 : decode cX2_walk 19 = .ok (.iconst 5, 1) := by decide +kernel
theorem dX2_walk_20 : decode cX2_walk 20 = .ok (.invokestatic 18, 3) := by decide +kernel
theorem dX2_walk_23 : decode cX2_walk 23 = .ok (.ifCond .eq 71, 3) := by decide +kernel
theorem dX2_walk_26 : decode cX2_walk 26 = .ok (.iload 11, 2) := by decide +kernel
theorem dX2_walk_28 : decode cX2_walk 28 = .ok (.ifCond .le 10, 3) := by decide +kernel
theorem dX2_walk_31 : decode cX2_walk 31 = .ok (.iload 8, 2) := by decide +kernel
theorem dX2_walk_33 : decode cX2_walk 33 = .ok (.iload_n 3, 1) := by decide +kernel
theorem dX2_walk_34 : decode cX2_walk 34 = .ok (.if_icmp .ne 4, 3) := by decide +kernel
theorem dX2_walk_37 : decode cX2_walk 37 = .ok (.return_, 1) := by decide +kernel
theorem dX2_walk_38 : decode cX2_walk 38 = .ok (.aload_n 0, 1) := by decide +kernel
theorem dX2_walk_39 : decode cX2_walk 39 = .ok (.iload 8, 2) := by decide +kernel
theorem dX2_walk_41 : decode cX2_walk 41 = .ok (.lload 9, 2) := by decide +kernel
theorem dX2_walk_43 : decode cX2_walk 43 = .ok (.ldc2_w 62, 3) := by decide +kernel
theorem dX2_walk_46 : decode cX2_walk 46 = .ok (.lload 4, 2) := by decide +kernel
theorem dX2_walk_48 : decode cX2_walk 48 = .ok (.lmul, 1) := by decide +kernel
theorem dX2_walk_49 : decode cX2_walk 49 = .ok (.invokevirtual 68, 3) := by decide +kernel
theorem dX2_walk_52 : decode cX2_walk 52 = .ok (.lload 9, 2) := by decide +kernel
theorem dX2_walk_54 : decode cX2_walk 54 = .ok (.aload_n 2, 1) := by decide +kernel
theorem dX2_walk_55 : decode cX2_walk 55 = .ok (.iload 8, 2) := by decide +kernel
theorem dX2_walk_57 : decode cX2_walk 57 = .ok (.invokevirtual 50, 3) := by decide +kernel
theorem dX2_walk_60 : decode cX2_walk 60 = .ok (.i2l, 1) := by decide +kernel
theorem dX2_walk_61 : decode cX2_walk 61 = .ok (.lload 4, 2) := by decide +kernel
theorem dX2_walk_63 : decode cX2_walk 63 = .ok (.lmul, 1) := by decide +kernel
theorem dX2_walk_64 : decode cX2_walk 64 = .ok (.lload 6, 2) := by decide +kernel
theorem dX2_walk_66 : decode cX2_walk 66 = .ok (.lsub, 1) := by decide +kernel
theorem dX2_walk_67 : decode cX2_walk 67 = .ok (.aload_n 2, 1) := by decide +kernel
theorem dX2_walk_68 : decode cX2_walk 68 = .ok (.iload 8, 2) := by decide +kernel
theorem dX2_walk_70 : decode cX2_walk 70 = .ok (.invokevirtual 55, 3) := by decide +kernel
theorem dX2_walk_73 : decode cX2_walk 73 = .ok (.invokestatic 58, 3) := by decide +kernel
theorem dX2_walk_76 : decode cX2_walk 76 = .ok (.lmul, 1) := by decide +kernel
theorem dX2_walk_77 : decode cX2_walk 77 = .ok (.ladd, 1) := by decide +kernel
theorem dX2_walk_78 : decode cX2_walk 78 = .ok (.lstore 9, 2) := by decide +kernel
theorem dX2_walk_80 : decode cX2_walk 80 = .ok (.aload_n 1, 1) := by decide +kernel
theorem dX2_walk_81 : decode cX2_walk 81 = .ok (.iload 8, 2) := by decide +kernel
theorem dX2_walk_83 : decode cX2_walk 83 = .ok (.invokevirtual 47, 3) := by decide +kernel
theorem dX2_walk_86 : decode cX2_walk 86 = .ok (.istore 8, 2) := by decide +kernel
theorem dX2_walk_88 : decode cX2_walk 88 = .ok (.iinc 11 1, 3) := by decide +kernel
theorem dX2_walk_91 : decode cX2_walk 91 = .ok (.goto (-82), 3) := by decide +kernel
theorem dX2_walk_94 : decode cX2_walk 94 = .ok (.return_, 1) := by decide +kernel
theorem dX2_setLevel_0 : decode cX2_setLevel 0 = .ok (.lload_n 2, 1) := by decide +kernel
theorem dX2_setLevel_1 : decode cX2_setLevel 1 = .ok (.lload 4, 2) := by decide +kernel
theorem dX2_setLevel_3 : decode cX2_setLevel 3 = .ok (.invokestatic 64, 3) := by decide +kernel
theorem dX2_setLevel_6 : decode cX2_setLevel 6 = .ok (.lstore 6, 2) := by decide +kernel
theorem dX2_setLevel_8 : decode cX2_setLevel 8 = .ok (.iload_n 1, 1) := by decide +kernel
theorem dX2_setLevel_9 : decode cX2_setLevel 9 = .ok (.iconst 0, 1) := by decide +kernel
theorem dX2_setLevel_10 : decode cX2_setLevel 10 = .ok (.iconst 5, 1) := by decide +kernel
theorem dX2_setLevel_11 : decode cX2_setLevel 11 = .ok (.invokestatic 18, 3) := by decide +kernel
theorem dX2_setLevel_14 : decode cX2_setLevel 14 = .ok (.ifCond .eq 31, 3) := by decide +kernel
theorem dX2_setLevel_17 : decode cX2_setLevel 17 = .ok (.lload 6, 2) := by decide +kernel
theorem dX2_setLevel_19 : decode cX2_setLevel 19 = .ok (.lconst 0, 1) := by decide +kernel
theorem dX2_setLevel_20 : decode cX2_setLevel 20 = .ok (.lcmp, 1) := by decide +kernel
theorem dX2_setLevel_21 : decode cX2_setLevel 21 = .ok (.ifCond .le 24, 3) := by decide +kernel
theorem dX2_setLevel_24 : decode cX2_setLevel 24 = .ok (.aload_n 0, 1) := by decide +kernel
theorem dX2_setLevel_25 : decode cX2_setLevel 25 = .ok (.getfield 9, 3) := by decide +kernel
theorem dX2_setLevel_28 : decode cX2_setLevel 28 = .ok (.iload_n 1, 1) := by decide +kernel
theorem dX2_setLevel_29 : decode cX2_setLevel 29 = .ok (.lload_n 2, 1) := by decide +kernel
theorem dX2_setLevel_30 : decode cX2_setLevel 30 = .ok (.lload 6, 2) := by decide +kernel
theorem dX2_setLevel_32 : decode cX2_setLevel 32 = .ok (.ldiv, 1) := by decide +kernel
theorem dX2_setLevel_33 : decode cX2_setLevel 33 = .ok (.lastore, 1) := by decide +kernel
theorem dX2_setLevel_34 : decode cX2_setLevel 34 = .ok (.aload_n 0, 1) := by decide +kernel
theorem dX2_setLevel_35 : decode cX2_setLevel 35 = .ok (.getfield 15, 3) := by decide +kernel
theorem dX2_setLevel_38 : decode cX2_setLevel 38 = .ok (.iload_n 1, 1) := by decide +kernel
theorem dX2_setLevel_39 : decode cX2_setLevel 39 = .ok (.lload 4, 2) := by decide +kernel
theorem dX2_setLevel_41 : decode cX2_setLevel 41 = .ok (.lload 6, 2) := by decide +kernel
theorem dX2_setLevel_43 : decode cX2_setLevel 43 = .ok (.ldiv, 1) := by decide +kernel
theorem dX2_setLevel_44 : decode cX2_setLevel 44 = .ok (.lastore, 1) := by decide +kernel
theorem dX2_setLevel_45 : decode cX2_setLevel 45 = .ok (.return_, 1) := by decide +kernel
theorem dX2_share_0 : decode cX2_share 0 = .ok (.iload_n 0, 1) := by decide +kernel
theorem dX2_share_1 : decode cX2_share 1 = .ok (.ifCond .le 12, 3) := by decide +kernel
theorem dX2_share_4 : decode cX2_share 4 = .ok (.sipush 5040, 3) := by decide +kernel
theorem dX2_share_7 : decode cX2_share 7 = .ok (.iload_n 0, 1) := by decide +kernel
theorem dX2_share_8 : decode cX2_share 8 = .ok (.idiv, 1) := by decide +kernel
theorem dX2_share_9 : decode cX2_share 9 = .ok (.i2l, 1) := by decide +kernel
theorem dX2_share_10 : decode cX2_share 10 = .ok (.goto 4, 3) := by decide +kernel
theorem dX2_share_13 : decode cX2_share 13 = .ok (.lconst 0, 1) := by decide +kernel
theorem dX2_share_14 : decode cX2_share 14 = .ok (.lreturn, 1) := by decide +kernel
theorem dX3_init_0 : decode cX3_init 0 = .ok (.aload_n 0, 1) := by decide +kernel
theorem dX3_init_1 : decode cX3_init 1 = .ok (.invokespecial 3, 3) := by decide +kernel
theorem dX3_init_4 : decode cX3_init 4 = .ok (.aload_n 0, 1) := by decide +kernel
theorem dX3_init_5 : decode cX3_init 5 = .ok (.bipush 6, 2) := by decide +kernel
theorem dX3_init_7 : decode cX3_init 7 = .ok (.newarray .int, 2) := by decide +kernel
theorem dX3_init_9 : decode cX3_init 9 = .ok (.putfield 9, 3) := by decide +kernel
theorem dX3_init_12 : decode cX3_init 12 = .ok (.aload_n 0, 1) := by decide +kernel
theorem dX3_init_13 : decode cX3_init 13 = .ok (.bipush 36, 2) := by decide +kernel
theorem dX3_init_15 : decode cX3_init 15 = .ok (.newarray .int, 2) := by decide +kernel
theorem dX3_init_17 : decode cX3_init 17 = .ok (.putfield 15, 3) := by decide +kernel
theorem dX3_init_20 : decode cX3_init 20 = .ok (.aload_n 0, 1) := by decide +kernel
theorem dX3_init_21 : decode cX3_init 21 = .ok (.bipush 36, 2) := by decide +kernel
theorem dX3_init_23 : decode cX3_init 23 = .ok (.newarray .int, 2) := by decide +kernel
theorem dX3_init_25 : decode cX3_init 25 = .ok (.putfield 18, 3) := by decide +kernel
theorem dX3_init_28 : decode cX3_init 28 = .ok (.aload_n 0, 1) := by decide +kernel
theorem dX3_init_29 : decode cX3_init 29 = .ok (.bipush 36, 2) := by decide +kernel
theorem dX3_init_31 : decode cX3_init 31 = .ok (.newarray .int, 2) := by decide +kernel
theorem dX3_init_33 : decode cX3_init 33 = .ok (.putfield 21, 3) := by decide +kernel
theorem dX3_init_36 : decode cX3_init 36 = .ok (.return_, 1) := by decide +kernel
theorem dX3_find_0 : decode cX3_find 0 = .ok (.iconst 0, 1) := by decide +kernel
theorem dX3_find_1 : decode cX3_find 1 = .ok (.istore_n 2, 1) := by decide +kernel
theorem dX3_find_2 : decode cX3_find 2 = .ok (.iload_n 2, 1) := by decide +kernel
theorem dX3_find_3 : decode cX3_find 3 = .ok (.bipush 6, 2) := by decide +kernel
theorem dX3_find_5 : decode cX3_find 5 = .ok (.if_icmp .ge 21, 3) := by decide +kernel
theorem dX3_find_8 : decode cX3_find 8 = .ok (.aload_n 0, 1) := by decide +kernel
theorem dX3_find_9 : decode cX3_find 9 = .ok (.getfield 9, 3) := by decide +kernel
theorem dX3_find_12 : decode cX3_find 12 = .ok (.iload_n 2, 1) := by decide +kernel
theorem dX3_find_13 : decode cX3_find 13 = .ok (.aload_n 0, 1) := by decide +kernel
theorem dX3_find_14 : decode cX3_find 14 = .ok (.aload_n 1, 1) := by decide +kernel
theorem dX3_find_15 : decode cX3_find 15 = .ok (.iload_n 2, 1) := by decide +kernel
theorem dX3_find_16 : decode cX3_find 16 = .ok (.invokevirtual 24, 3) := by decide +kernel
theorem dX3_find_19 : decode cX3_find 19 = .ok (.iastore, 1) := by decide +kernel
theorem dX3_find_20 : decode cX3_find 20 = .ok (.iinc 2 1, 3) := by decide +kernel
theorem dX3_find_23 : decode cX3_find 23 = .ok (.goto (-21), 3) := by decide +kernel
theorem dX3_find_26 : decode cX3_find 26 = .ok (.iconst 0, 1) := by decide +kernel
theorem dX3_find_27 : decode cX3_find 27 = .ok (.istore_n 2, 1) := by decide +kernel
theorem dX3_find_28 : decode cX3_find 28 = .ok (.iload_n 2, 1) := by decide +kernel
theorem dX3_find_29 : decode cX3_find 29 = .ok (.bipush 6, 2) := by decide +kernel
theorem dX3_find_31 : decode cX3_find 31 = .ok (.if_icmp .ge 30, 3) := by decide +kernel
theorem dX3_find_34 : decode cX3_find 34 = .ok (.iconst 0, 1) := by decide +kernel
theorem dX3_find_35 : decode cX3_find 35 = .ok (.istore_n 3, 1) := by decide +kernel
theorem dX3_find_36 : decode cX3_find 36 = .ok (.iload_n 3, 1) := by decide +kernel
theorem dX3_find_37 : decode cX3_find 37 = .ok (.bipush 6, 2) := by decide +kernel
theorem dX3_find_39 : decode cX3_find 39 = .ok (.if_icmp .ge 16, 3) := by decide +kernel
theorem dX3_find_42 : decode cX3_find 42 = .ok (.aload_n 0, 1) := by decide +kernel
theorem dX3_find_43 : decode cX3_find 43 = .ok (.aload_n 1, 1) := by decide +kernel
theorem dX3_find_44 : decode cX3_find 44 = .ok (.iload_n 2, 1) := by decide +kernel
theorem dX3_find_45 : decode cX3_find 45 = .ok (.iload_n 3, 1) := by decide +kernel
theorem dX3_find_46 : decode cX3_find 46 = .ok (.invokevirtual 28, 3) := by decide +kernel
theorem dX3_find_49 : decode cX3_find 49 = .ok (.iinc 3 1, 3) := by decide +kernel
theorem dX3_find_52 : decode cX3_find 52 = .ok (.goto (-16), 3) := by decide +kernel
theorem dX3_find_55 : decode cX3_find 55 = .ok (.iinc 2 1, 3) := by decide +kernel
theorem dX3_find_58 : decode cX3_find 58 = .ok (.goto (-30), 3) := by decide +kernel
theorem dX3_find_61 : decode cX3_find 61 = .ok (.return_, 1) := by decide +kernel
theorem dX3_cornerBits_0 : decode cX3_cornerBits 0 = .ok (.iload_n 1, 1) := by decide +kernel
theorem dX3_cornerBits_1 : decode cX3_cornerBits 1 = .ok (.iconst 0, 1) := by decide +kernel
theorem dX3_cornerBits_2 : decode cX3_cornerBits 2 = .ok (.iconst 5, 1) := by decide +kernel
theorem dX3_cornerBits_3 : decode cX3_cornerBits 3 = .ok (.invokestatic 32, 3) := by decide +kernel
theorem dX3_cornerBits_6 : decode cX3_cornerBits 6 = .ok (.ifCond .eq 12, 3) := by decide +kernel
theorem dX3_cornerBits_9 : decode cX3_cornerBits 9 = .ok (.aload_n 0, 1) := by decide +kernel
theorem dX3_cornerBits_10 : decode cX3_cornerBits 10 = .ok (.getfield 9, 3) := by decide +kernel
theorem dX3_cornerBits_13 : decode cX3_cornerBits 13 = .ok (.iload_n 1, 1) := by decide +kernel
theorem dX3_cornerBits_14 : decode cX3_cornerBits 14 = .ok (.iaload, 1) := by decide +kernel
theorem dX3_cornerBits_15 : decode cX3_cornerBits 15 = .ok (.goto 4, 3) := by decide +kernel
theorem dX3_cornerBits_18 : decode cX3_cornerBits 18 = .ok (.iconst 0, 1) := by decide +kernel
theorem dX3_cornerBits_19 : decode cX3_cornerBits 19 = .ok (.ireturn, 1) := by decide +kernel
theorem dX3_votesOf_0 : decode cX3_votesOf 0 = .ok (.iload_n 1, 1) := by decide +kernel
theorem dX3_votesOf_1 : decode cX3_votesOf 1 = .ok (.iload_n 2, 1) := by decide +kernel
theorem dX3_votesOf_2 : decode cX3_votesOf 2 = .ok (.invokestatic 36, 3) := by decide +kernel
theorem dX3_votesOf_5 : decode cX3_votesOf 5 = .ok (.ifCond .eq 17, 3) := by decide +kernel
theorem dX3_votesOf_8 : decode cX3_votesOf 8 = .ok (.aload_n 0, 1) := by decide +kernel
theorem dX3_votesOf_9 : decode cX3_votesOf 9 = .ok (.getfield 15, 3) := by decide +kernel
theorem dX3_votesOf_12 : decode cX3_votesOf 12 = .ok (.iload_n 1, 1) := by decide +kernel
theorem dX3_votesOf_13 : decode cX3_votesOf 13 = .ok (.bipush 6, 2) := by decide +kernel
theorem dX3_votesOf_15 : decode cX3_votesOf 15 = .ok (.imul, 1) := by decide +kernel
theorem dX3_votesOf_16 : decode cX3_votesOf 16 = .ok (.iload_n 2, 1) := by decide +kernel
theorem dX3_votesOf_17 : decode cX3_votesOf 17 = .ok (.iadd, 1) := by decide +kernel
theorem dX3_votesOf_18 : decode cX3_votesOf 18 = .ok (.iaload, 1) := by decide +kernel
theorem dX3_votesOf_19 : decode cX3_votesOf 19 = .ok (.goto 4, 3) := by decide +kernel
theorem dX3_votesOf_22 : decode cX3_votesOf 22 = .ok (.iconst 0, 1) := by decide +kernel
theorem dX3_votesOf_23 : decode cX3_votesOf 23 = .ok (.ireturn, 1) := by decide +kernel
theorem dX3_shiftE_0 : decode cX3_shiftE 0 = .ok (.iload_n 1, 1) := by decide +kernel
theorem dX3_shiftE_1 : decode cX3_shiftE 1 = .ok (.iload_n 2, 1) := by decide +kernel
theorem dX3_shiftE_2 : decode cX3_shiftE 2 = .ok (.invokestatic 36, 3) := by decide +kernel
theorem dX3_shiftE_5 : decode cX3_shiftE 5 = .ok (.ifCond .eq 17, 3) := by decide +kernel
theorem dX3_shiftE_8 : decode cX3_shiftE 8 = .ok (.aload_n 0, 1) := by decide +kernel
theorem dX3_shiftE_9 : decode cX3_shiftE 9 = .ok (.getfield 18, 3) := by decide +kernel
theorem dX3_shiftE_12 : decode cX3_shiftE 12 = .ok (.iload_n 1, 1) := by decide +kernel
theorem dX3_shiftE_13 : decode cX3_shiftE 13 = .ok (.bipush 6, 2) := by decide +kernel
theorem dX3_shiftE_15 : decode cX3_shiftE 15 = .ok (.imul, 1) := by decide +kernel
theorem dX3_shiftE_16 : decode cX3_shiftE 16 = .ok (.iload_n 2, 1) := by decide +kernel
theorem dX3_shiftE_17 : decode cX3_shiftE 17 = .ok (.iadd, 1) := by decide +kernel
theorem dX3_shiftE_18 : decode cX3_shiftE 18 = .ok (.iaload, 1) := by decide +kernel
theorem dX3_shiftE_19 : decode cX3_shiftE 19 = .ok (.goto 4, 3) := by decide +kernel
theorem dX3_shiftE_22 : decode cX3_shiftE 22 = .ok (.iconst 0, 1) := by decide +kernel
theorem dX3_shiftE_23 : decode cX3_shiftE 23 = .ok (.ireturn, 1) := by decide +kernel
theorem dX3_shiftF_0 : decode cX3_shiftF 0 = .ok (.iload_n 1, 1) := by decide +kernel
theorem dX3_shiftF_1 : decode cX3_shiftF 1 = .ok (.iload_n 2, 1) := by decide +kernel
theorem dX3_shiftF_2 : decode cX3_shiftF 2 = .ok (.invokestatic 36, 3) := by decide +kernel
theorem dX3_shiftF_5 : decode cX3_shiftF 5 = .ok (.ifCond .eq 17, 3) := by decide +kernel
theorem dX3_shiftF_8 : decode cX3_shiftF 8 = .ok (.aload_n 0, 1) := by decide +kernel
theorem dX3_shiftF_9 : decode cX3_shiftF 9 = .ok (.getfield 21, 3) := by decide +kernel
theorem dX3_shiftF_12 : decode cX3_shiftF 12 = .ok (.iload_n 1, 1) := by decide +kernel
theorem dX3_shiftF_13 : decode cX3_shiftF 13 = .ok (.bipush 6, 2) := by decide +kernel
theorem dX3_shiftF_15 : decode cX3_shiftF 15 = .ok (.imul, 1) := by decide +kernel
theorem dX3_shiftF_16 : decode cX3_shiftF 16 = .ok (.iload_n 2, 1) := by decide +kernel
theorem dX3_shiftF_17 : decode cX3_shiftF 17 = .ok (.iadd, 1) := by decide +kernel
theorem dX3_shiftF_18 : decode cX3_shiftF 18 = .ok (.iaload, 1) := by decide +kernel
theorem dX3_shiftF_19 : decode cX3_shiftF 19 = .ok (.goto 4, 3) := by decide +kernel
theorem dX3_shiftF_22 : decode cX3_shiftF 22 = .ok (.iconst 0, 1) := by decide +kernel
theorem dX3_shiftF_23 : decode cX3_shiftF 23 = .ok (.ireturn, 1) := by decide +kernel
theorem dX3_countVotes_0 : decode cX3_countVotes 0 = .ok (.iconst 0, 1) := by decide +kernel
theorem dX3_countVotes_1 : decode cX3_countVotes 1 = .ok (.istore 6, 2) := by decide +kernel
theorem dX3_countVotes_3 : decode cX3_countVotes 3 = .ok (.iconst 1, 1) := by decide +kernel
theorem dX3_countVotes_4 : decode cX3_countVotes 4 = .ok (.istore 7, 2) := by decide +kernel
theorem dX3_countVotes_6 : decode cX3_countVotes 6 = .ok (.iload 7, 2) := by decide +kernel
theorem dX3_countVotes_8 : decode cX3_countVotes 8 = .ok (.iconst 2, 1) := by decide +kernel
theorem dX3_countVotes_9 : decode cX3_countVotes 9 = .ok (.if_icmp .gt 104, 3) := by decide +kernel
theorem dX3_countVotes_12 : decode cX3_countVotes 12 = .ok (.iconst 1, 1) := by decide +kernel
theorem dX3_countVotes_13 : decode cX3_countVotes 13 = .ok (.istore 8, 2) := by decide +kernel
theorem dX3_countVotes_15 : decode cX3_countVotes 15 = .ok (.iload 8, 2) := by decide +kernel
theorem dX3_countVotes_17 : decode cX3_countVotes 17 = .ok (.bipush 6, 2) := by decide +kernel
theorem dX3_countVotes_19 : decode cX3_countVotes 19 = .ok (.if_icmp .gt 88, 3) := by decide +kernel
theorem dX3_countVotes_22 : decode cX3_countVotes 22 = .ok (.aload_n 0, 1) := by decide +kernel
theorem dX3_countVotes_23 : decode cX3_countVotes 23 = .ok (.iload_n 2, 1) := by decide +kernel
theorem dX3_countVotes_24 : decode cX3_countVotes 24 = .ok (.iload 7, 2) := by decide +kernel
theorem dX3_countVotes_26 : decode cX3_countVotes 26 = .ok (.iload 8, 2) := by decide +kernel
theorem dX3_countVotes_28 : decode cX3_countVotes 28 = .ok (.invokevirtual 40, 3) := by decide +kernel
theorem dX3_countVotes_31 : decode cX3_countVotes 31 = .ok (.ifCond .eq 70, 3) := by decide +kernel
theorem dX3_countVotes_34 : decode cX3_countVotes 34 = .ok (.aload_n 0, 1) := by decide +kernel
theorem dX3_countVotes_35 : decode cX3_countVotes 35 = .ok (.iload_n 3, 1) := by decide +kernel
theorem dX3_countVotes_36 : decode cX3_countVotes 36 = .ok (.iload 7, 2) := by decide +kernel
theorem dX3_countVotes_38 : decode cX3_countVotes 38 = .ok (.iload 4, 2) := by decide +kernel
theorem dX3_countVotes_40 : decode cX3_countVotes 40 = .ok (.isub, 1) := by decide +kernel
theorem dX3_countVotes_41 : decode cX3_countVotes 41 = .ok (.iload 8, 2) := by decide +kernel
theorem dX3_countVotes_43 : decode cX3_countVotes 43 = .ok (.iload 5, 2) := by decide +kernel
theorem dX3_countVotes_45 : decode cX3_countVotes 45 = .ok (.isub, 1) := by decide +kernel
theorem dX3_countVotes_46 : decode cX3_countVotes 46 = .ok (.invokevirtual 40, 3) := by decide +kernel
theorem dX3_countVotes_49 : decode cX3_countVotes 49 = .ok (.ifCond .eq 52, 3) := by decide +kernel
theorem dX3_countVotes_52 : decode cX3_countVotes 52 = .ok (.aload_n 1, 1) := by decide +kernel
theorem dX3_countVotes_53 : decode cX3_countVotes 53 = .ok (.iload_n 2, 1) := by decide +kernel
theorem dX3_countVotes_54 : decode cX3_countVotes 54 = .ok (.iload 7, 2) := by decide +kernel
theorem dX3_countVotes_56 : decode cX3_countVotes 56 = .ok (.iload 8, 2) := by decide +kernel
theorem dX3_countVotes_58 : decode cX3_countVotes 58 = .ok (.invokevirtual 43, 3) := by decide +kernel
theorem dX3_countVotes_61 : decode cX3_countVotes 61 = .ok (.aload_n 1, 1) := by decide +kernel
theorem dX3_countVotes_62 : decode cX3_countVotes 62 = .ok (.iload_n 3, 1) := by decide +kernel
theorem dX3_countVotes_63 : decode cX3_countVotes 63 = .ok (.iload 7, 2) := by decide +kernel
theorem dX3_countVotes_65 : decode cX3_countVotes 65 = .ok (.iload 4, 2) := by decide +kernel
theorem dX3_countVotes_67 : decode cX3_countVotes 67 = .ok (.isub, 1) := by decide +kernel
theorem dX3_countVotes_68 : decode cX3_countVotes 68 = .ok (.iload 8, 2) := by decide +kernel
theorem dX3_countVotes_70 : decode cX3_countVotes 70 = .ok (.iload 5, 2) := by decide +kernel
theorem dX3_countVotes_72 : decode cX3_countVotes 72 = .ok (.isub, 1) := by decide +kernel
theorem dX3_countVotes_73 : decode cX3_countVotes 73 = .ok (.invokevirtual 43, 3) := by decide +kernel
theorem dX3_countVotes_76 : decode cX3_countVotes 76 = .ok (.isub, 1) := by decide +kernel
theorem dX3_countVotes_77 : decode cX3_countVotes 77 = .ok (.istore 9, 2) := by decide +kernel
theorem dX3_countVotes_79 : decode cX3_countVotes 79 = .ok (.iload 6, 2) := by decide +kernel
theorem dX3_countVotes_81 : decode cX3_countVotes 81 = .ok (.iload 9, 2) := by decide +kernel
theorem dX3_countVotes_83 : decode cX3_countVotes 83 = .ok (.invokestatic 49, 3) := by decide +kernel
theorem dX3_countVotes_86 : decode cX3_countVotes 86 = .ok (.aload_n 1, 1) := by decide +kernel
theorem dX3_countVotes_87 : decode cX3_countVotes 87 = .ok (.getfield 55, 3) := by decide +kernel
theorem dX3_countVotes_90 : decode cX3_countVotes 90 = .ok (.if_icmp .gt 7, 3) := by decide +kernel
theorem dX3_countVotes_93 : decode cX3_countVotes 93 = .ok (.iconst 1, 1) := by decide +kernel
theorem dX3_countVotes_94 : decode cX3_countVotes 94 = .ok (.goto 4, 3) := by decide +kernel
theorem dX3_countVotes_97 : decode cX3_countVotes 97 = .ok (.iconst 0, 1) := by decide +kernel
theorem dX3_countVotes_98 : decode cX3_countVotes 98 = .ok (.iadd, 1) := by decide +kernel
theorem dX3_countVotes_99 : decode cX3_countVotes 99 = .ok (.istore 6, 2) := by decide +kernel
theorem dX3_countVotes_101 : decode cX3_countVotes 101 = .ok (.iinc 8 1, 3) := by decide +kernel
theorem dX3_countVotes_104 : decode cX3_countVotes 104 = .ok (.goto (-89), 3) := by decide +kernel
theorem dX3_countVotes_107 : decode cX3_countVotes 107 = .ok (.iinc 7 1, 3) := by decide +kernel
theorem dX3_countVotes_110 : decode cX3_countVotes 110 = .ok (.goto (-104), 3) := by decide +kernel
theorem dX3_countVotes_113 : decode cX3_countVotes 113 = .ok (.iload 6, 2) := by decide +kernel
theorem dX3_countVotes_115 : decode cX3_countVotes 115 = .ok (.ireturn, 1) := by decide +kernel
theorem dX3_changeAt_0 : decode cX3_changeAt 0 = .ok (.aload_n 0, 1) := by decide +kernel
theorem dX3_changeAt_1 : decode cX3_changeAt 1 = .ok (.iload_n 1, 1) := by decide +kernel
theorem dX3_changeAt_2 : decode cX3_changeAt 2 = .ok (.iload_n 2, 1) := by decide +kernel
theorem dX3_changeAt_3 : decode cX3_changeAt 3 = .ok (.iload_n 3, 1) := by decide +kernel
theorem dX3_changeAt_4 : decode cX3_changeAt 4 = .ok (.iconst 0, 1) := by decide +kernel
theorem dX3_changeAt_5 : decode cX3_changeAt 5 = .ok (.iconst 1, 1) := by decide +kernel
theorem dX3_changeAt_6 : decode cX3_changeAt 6 = .ok (.invokestatic 59, 3) := by decide +kernel
theorem dX3_changeAt_9 : decode cX3_changeAt 9 = .ok (.istore 4, 2) := by decide +kernel
theorem dX3_changeAt_11 : decode cX3_changeAt 11 = .ok (.iload 4, 2) := by decide +kernel
theorem dX3_changeAt_13 : decode cX3_changeAt 13 = .ok (.aload_n 0, 1) := by decide +kernel
theorem dX3_changeAt_14 : decode cX3_changeAt 14 = .ok (.iload_n 1, 1) := by decide +kernel
theorem dX3_changeAt_15 : decode cX3_changeAt 15 = .ok (.iload_n 2, 1) := by decide +kernel
theorem dX3_changeAt_16 : decode cX3_changeAt 16 = .ok (.iload_n 3, 1) := by decide +kernel
theorem dX3_changeAt_17 : decode cX3_changeAt 17 = .ok (.iconst 1, 1) := by decide +kernel
theorem dX3_changeAt_18 : decode cX3_changeAt 18 = .ok (.iconst 0, 1) := by decide +kernel
theorem dX3_changeAt_19 : decode cX3_changeAt 19 = .ok (.invokestatic 59, 3) := by decide +kernel
theorem dX3_changeAt_22 : decode cX3_changeAt 22 = .ok (.invokestatic 63, 3) := by decide +kernel
theorem dX3_changeAt_25 : decode cX3_changeAt 25 = .ok (.istore 4, 2) := by decide +kernel
theorem dX3_changeAt_27 : decode cX3_changeAt 27 = .ok (.iload 4, 2) := by decide +kernel
theorem dX3_changeAt_29 : decode cX3_changeAt 29 = .ok (.aload_n 0, 1) := by decide +kernel
theorem dX3_changeAt_30 : decode cX3_changeAt 30 = .ok (.iload_n 1, 1) := by decide +kernel
theorem dX3_changeAt_31 : decode cX3_changeAt 31 = .ok (.iload_n 2, 1) := by decide +kernel
theorem dX3_changeAt_32 : decode cX3_changeAt 32 = .ok (.iload_n 3, 1) := by decide +kernel
theorem dX3_changeAt_33 : decode cX3_changeAt 33 = .ok (.iconst 1, 1) := by decide +kernel
theorem dX3_changeAt_34 : decode cX3_changeAt 34 = .ok (.iconst 1, 1) := by decide +kernel
theorem dX3_changeAt_35 : decode cX3_changeAt 35 = .ok (.invokestatic 59, 3) := by decide +kernel
theorem dX3_changeAt_38 : decode cX3_changeAt 38 = .ok (.invokestatic 63, 3) := by decide +kernel
theorem dX3_changeAt_41 : decode cX3_changeAt 41 = .ok (.istore 4, 2) := by decide +kernel
theorem dX3_changeAt_43 : decode cX3_changeAt 43 = .ok (.iload 4, 2) := by decide +kernel
theorem dX3_changeAt_45 : decode cX3_changeAt 45 = .ok (.aload_n 0, 1) := by decide +kernel
theorem dX3_changeAt_46 : decode cX3_changeAt 46 = .ok (.iload_n 1, 1) := by decide +kernel
theorem dX3_changeAt_47 : decode cX3_changeAt 47 = .ok (.iload_n 2, 1) := by decide +kernel
theorem dX3_changeAt_48 : decode cX3_changeAt 48 = .ok (.iload_n 3, 1) := by decide +kernel
theorem dX3_changeAt_49 : decode cX3_changeAt 49 = .ok (.iconst 1, 1) := by decide +kernel
theorem dX3_changeAt_50 : decode cX3_changeAt 50 = .ok (.iconst (-1), 1) := by decide +kernel
theorem dX3_changeAt_51 : decode cX3_changeAt 51 = .ok (.invokestatic 59, 3) := by decide +kernel
theorem dX3_changeAt_54 : decode cX3_changeAt 54 = .ok (.invokestatic 63, 3) := by decide +kernel
theorem dX3_changeAt_57 : decode cX3_changeAt 57 = .ok (.ireturn, 1) := by decide +kernel
theorem dX3_changeAlong_0 : decode cX3_changeAlong 0 = .ok (.aload_n 0, 1) := by decide +kernel
theorem dX3_changeAlong_1 : decode cX3_changeAlong 1 = .ok (.iload_n 1, 1) := by decide +kernel
theorem dX3_changeAlong_2 : decode cX3_changeAlong 2 = .ok (.iload_n 2, 1) := by decide +kernel
theorem dX3_changeAlong_3 : decode cX3_changeAlong 3 = .ok (.iload_n 3, 1) := by decide +kernel
theorem dX3_changeAlong_4 : decode cX3_changeAlong 4 = .ok (.invokevirtual 43, 3) := by decide +kernel
theorem dX3_changeAlong_7 : decode cX3_changeAlong 7 = .ok (.istore 6, 2) := by decide +kernel
theorem dX3_changeAlong_9 : decode cX3_changeAlong 9 = .ok (.iload 6, 2) := by decide +kernel
theorem dX3_changeAlong_11 : decode cX3_changeAlong 11 = .ok (.aload_n 0, 1) := by decide +kernel
theorem dX3_changeAlong_12 : decode cX3_changeAlong 12 = .ok (.iload_n 1, 1) := by decide +kernel
theorem dX3_changeAlong_13 : decode cX3_changeAlong 13 = .ok (.iload_n 2, 1) := by decide +kernel
theorem dX3_changeAlong_14 : decode cX3_changeAlong 14 = .ok (.iload 4, 2) := by decide +kernel
theorem dX3_changeAlong_16 : decode cX3_changeAlong 16 = .ok (.isub, 1) := by decide +kernel
theorem dX3_changeAlong_17 : decode cX3_changeAlong 17 = .ok (.iload_n 3, 1) := by decide +kernel
theorem dX3_changeAlong_18 : decode cX3_changeAlong 18 = .ok (.iload 5, 2) := by decide +kernel
theorem dX3_changeAlong_20 : decode cX3_changeAlong 20 = .ok (.isub, 1) := by decide +kernel
theorem dX3_changeAlong_21 : decode cX3_changeAlong 21 = .ok (.invokevirtual 43, 3) := by decide +kernel
theorem dX3_changeAlong_24 : decode cX3_changeAlong 24 = .ok (.isub, 1) := by decide +kernel
theorem dX3_changeAlong_25 : decode cX3_changeAlong 25 = .ok (.invokestatic 49, 3) := by decide +kernel
theorem dX3_changeAlong_28 : decode cX3_changeAlong 28 = .ok (.iload 6, 2) := by decide +kernel
theorem dX3_changeAlong_30 : decode cX3_changeAlong 30 = .ok (.aload_n 0, 1) := by decide +kernel
theorem dX3_changeAlong_31 : decode cX3_changeAlong 31 = .ok (.iload_n 1, 1) := by decide +kernel
theorem dX3_changeAlong_32 : decode cX3_changeAlong 32 = .ok (.iload_n 2, 1) := by decide +kernel
theorem dX3_changeAlong_33 : decode cX3_changeAlong 33 = .ok (.iload 4, 2) := by decide +kernel
theorem dX3_changeAlong_35 : decode cX3_changeAlong 35 = .ok (.iadd, 1) := by decide +kernel
theorem dX3_changeAlong_36 : decode cX3_changeAlong 36 = .ok (.iload_n 3, 1) := by decide +kernel
theorem dX3_changeAlong_37 : decode cX3_changeAlong 37 = .ok (.iload 5, 2) := by decide +kernel
theorem dX3_changeAlong_39 : decode cX3_changeAlong 39 = .ok (.iadd, 1) := by decide +kernel
theorem dX3_changeAlong_40 : decode cX3_changeAlong 40 = .ok (.invokevirtual 43, 3) := by decide +kernel
theorem dX3_changeAlong_43 : decode cX3_changeAlong 43 = .ok (.isub, 1) := by decide +kernel
theorem dX3_changeAlong_44 : decode cX3_changeAlong 44 = .ok (.invokestatic 49, 3) := by decide +kernel
theorem dX3_changeAlong_47 : decode cX3_changeAlong 47 = .ok (.iadd, 1) := by decide +kernel
theorem dX3_changeAlong_48 : decode cX3_changeAlong 48 = .ok (.ireturn, 1) := by decide +kernel
theorem dX3_areTwo_0 : decode cX3_areTwo 0 = .ok (.iload_n 0, 1) := by decide +kernel
theorem dX3_areTwo_1 : decode cX3_areTwo 1 = .ok (.iconst 0, 1) := by decide +kernel
theorem dX3_areTwo_2 : decode cX3_areTwo 2 = .ok (.iconst 5, 1) := by decide +kernel
theorem dX3_areTwo_3 : decode cX3_areTwo 3 = .ok (.invokestatic 32, 3) := by decide +kernel
theorem dX3_areTwo_6 : decode cX3_areTwo 6 = .ok (.ifCond .eq 16, 3) := by decide +kernel
theorem dX3_areTwo_9 : decode cX3_areTwo 9 = .ok (.iload_n 1, 1) := by decide +kernel
theorem dX3_areTwo_10 : decode cX3_areTwo 10 = .ok (.iconst 0, 1) := by decide +kernel
theorem dX3_areTwo_11 : decode cX3_areTwo 11 = .ok (.iconst 5, 1) := by decide +kernel
theorem dX3_areTwo_12 : decode cX3_areTwo 12 = .ok (.invokestatic 32, 3) := by decide +kernel
theorem dX3_areTwo_15 : decode cX3_areTwo 15 = .ok (.ifCond .eq 7, 3) := by decide +kernel
theorem dX3_areTwo_18 : decode cX3_areTwo 18 = .ok (.iconst 1, 1) := by decide +kernel
theorem dX3_areTwo_19 : decode cX3_areTwo 19 = .ok (.goto 4, 3) := by decide +kernel
theorem dX3_areTwo_22 : decode cX3_areTwo 22 = .ok (.iconst 0, 1) := by decide +kernel
theorem dX3_areTwo_23 : decode cX3_areTwo 23 = .ok (.ireturn, 1) := by decide +kernel
theorem dX3_cornerBit_0 : decode cX3_cornerBit 0 = .ok (.iconst 1, 1) := by decide +kernel
theorem dX3_cornerBit_1 : decode cX3_cornerBit 1 = .ok (.bipush 6, 2) := by decide +kernel
theorem dX3_cornerBit_3 : decode cX3_cornerBit 3 = .ok (.iload_n 0, 1) := by decide +kernel
theorem dX3_cornerBit_4 : decode cX3_cornerBit 4 = .ok (.iconst 1, 1) := by decide +kernel
theorem dX3_cornerBit_5 : decode cX3_cornerBit 5 = .ok (.isub, 1) := by decide +kernel
theorem dX3_cornerBit_6 : decode cX3_cornerBit 6 = .ok (.imul, 1) := by decide +kernel
theorem dX3_cornerBit_7 : decode cX3_cornerBit 7 = .ok (.iload_n 1, 1) := by decide +kernel
theorem dX3_cornerBit_8 : decode cX3_cornerBit 8 = .ok (.iadd, 1) := by decide +kernel
theorem dX3_cornerBit_9 : decode cX3_cornerBit 9 = .ok (.iconst 1, 1) := by decide +kernel
theorem dX3_cornerBit_10 : decode cX3_cornerBit 10 = .ok (.isub, 1) := by decide +kernel
theorem dX3_cornerBit_11 : decode cX3_cornerBit 11 = .ok (.ishl, 1) := by decide +kernel
theorem dX3_cornerBit_12 : decode cX3_cornerBit 12 = .ok (.ireturn, 1) := by decide +kernel
theorem dX3_findCorners_0 : decode cX3_findCorners 0 = .ok (.aload_n 1, 1) := by decide +kernel
theorem dX3_findCorners_1 : decode cX3_findCorners 1 = .ok (.iload_n 2, 1) := by decide +kernel
theorem dX3_findCorners_2 : decode cX3_findCorners 2 = .ok (.invokevirtual 67, 3) := by decide +kernel
theorem dX3_findCorners_5 : decode cX3_findCorners 5 = .ok (.ifCond .ne 5, 3) := by decide +kernel
theorem dX3_findCorners_8 : decode cX3_findCorners 8 = .ok (.iconst 0, 1) := by decide +kernel
theorem dX3_findCorners_9 : decode cX3_findCorners 9 = .ok (.ireturn, 1) := by decide +kernel
theorem dX3_findCorners_10 : decode cX3_findCorners 10 = .ok (.iconst 0, 1) := by decide +kernel
theorem dX3_findCorners_11 : decode cX3_findCorners 11 = .ok (.istore_n 3, 1) := by decide +kernel
theorem dX3_findCorners_12 : decode cX3_findCorners 12 = .ok (.iconst 1, 1) := by decide +kernel
theorem dX3_findCorners_13 : decode cX3_findCorners 13 = .ok (.istore 4, 2) := by decide +kernel
theorem dX3_findCorners_15 : decode cX3_findCorners 15 = .ok (.iload 4, 2) := by decide +kernel
theorem dX3_findCorners_17 : decode cX3_findCorners 17 = .ok (.iconst 2, 1) := by decide +kernel
theorem dX3_findCorners_18 : decode cX3_findCorners 18 = .ok (.if_icmp .gt 51, 3) := by decide +kernel
theorem dX3_findCorners_21 : decode cX3_findCorners 21 = .ok (.iconst 1, 1) := by decide +kernel
theorem dX3_findCorners_22 : decode cX3_findCorners 22 = .ok (.istore 5, 2) := by decide +kernel
theorem dX3_findCorners_24 : decode cX3_findCorners 24 = .ok (.iload 5, 2) := by decide +kernel
theorem dX3_findCorners_26 : decode cX3_findCorners 26 = .ok (.bipush 6, 2) := by decide +kernel
theorem dX3_findCorners_28 : decode cX3_findCorners 28 = .ok (.if_icmp .gt 35, 3) := by decide +kernel
theorem dX3_findCorners_31 : decode cX3_findCorners 31 = .ok (.aload_n 1, 1) := by decide +kernel
theorem dX3_findCorners_32 : decode cX3_findCorners 32 = .ok (.iload_n 2, 1) := by decide +kernel
theorem dX3_findCorners_33 : decode cX3_findCorners 33 = .ok (.iload 4, 2) := by decide +kernel
theorem dX3_findCorners_35 : decode cX3_findCorners 35 = .ok (.iload 5, 2) := by decide +kernel
theorem dX3_findCorners_37 : decode cX3_findCorners 37 = .ok (.invokestatic 71, 3) := by decide +kernel
theorem dX3_findCorners_40 : decode cX3_findCorners 40 = .ok (.aload_n 1, 1) := by decide +kernel
theorem dX3_findCorners_41 : decode cX3_findCorners 41 = .ok (.getfield 75, 3) := by decide +kernel
theorem dX3_findCorners_44 : decode cX3_findCorners 44 = .ok (.if_icmp .lt 13, 3) := by decide +kernel
theorem dX3_findCorners_47 : decode cX3_findCorners 47 = .ok (.iload_n 3, 1) := by decide +kernel
theorem dX3_findCorners_48 : decode cX3_findCorners 48 = .ok (.iload 4, 2) := by decide +kernel
theorem dX3_findCorners_50 : decode cX3_findCorners 50 = .ok (.iload 5, 2) := by decide +kernel
theorem dX3_findCorners_52 : decode cX3_findCorners 52 = .ok (.invokestatic 78, 3) := by decide +kernel
theorem dX3_findCorners_55 : decode cX3_findCorners 55 = .ok (.ior, 1) := by decide +kernel
theorem dX3_findCorners_56 : decode cX3_findCorners 56 = .ok (.istore_n 3, 1) := by decide +kernel
theorem dX3_findCorners_57 : decode cX3_findCorners 57 = .ok (.iinc 5 1, 3) := by decide +kernel
theorem dX3_findCorners_60 : decode cX3_findCorners 60 = .ok (.goto (-36), 3) := by decide +kernel
theorem dX3_findCorners_63 : decode cX3_findCorners 63 = .ok (.iinc 4 1, 3) := by decide +kernel
theorem dX3_findCorners_66 : decode cX3_findCorners 66 = .ok (.goto (-51), 3) := by decide +kernel
theorem dX3_findCorners_69 : decode cX3_findCorners 69 = .ok (.iload_n 3, 1) := by decide +kernel
theorem dX3_findCorners_70 : decode cX3_findCorners 70 = .ok (.ireturn, 1) := by decide +kernel
theorem dX3_isCorner_0 : decode cX3_isCorner 0 = .ok (.iload_n 2, 1) := by decide +kernel
theorem dX3_isCorner_1 : decode cX3_isCorner 1 = .ok (.iload_n 3, 1) := by decide +kernel
theorem dX3_isCorner_2 : decode cX3_isCorner 2 = .ok (.invokestatic 81, 3) := by decide +kernel
theorem dX3_isCorner_5 : decode cX3_isCorner 5 = .ok (.ifCond .eq 32, 3) := by decide +kernel
theorem dX3_isCorner_8 : decode cX3_isCorner 8 = .ok (.iload_n 1, 1) := by decide +kernel
theorem dX3_isCorner_9 : decode cX3_isCorner 9 = .ok (.ifCond .lt 28, 3) := by decide +kernel
theorem dX3_isCorner_12 : decode cX3_isCorner 12 = .ok (.iload_n 1, 1) := by decide +kernel
theorem dX3_isCorner_13 : decode cX3_isCorner 13 = .ok (.bipush 6, 2) := by decide +kernel
theorem dX3_isCorner_15 : decode cX3_isCorner 15 = .ok (.if_icmp .ge 22, 3) := by decide +kernel
theorem dX3_isCorner_18 : decode cX3_isCorner 18 = .ok (.aload_n 0, 1) := by decide +kernel
theorem dX3_isCorner_19 : decode cX3_isCorner 19 = .ok (.getfield 9, 3) := by decide +kernel
theorem dX3_isCorner_22 : decode cX3_isCorner 22 = .ok (.iload_n 1, 1) := by decide +kernel
theorem dX3_isCorner_23 : decode cX3_isCorner 23 = .ok (.iaload, 1) := by decide +kernel
theorem dX3_isCorner_24 : decode cX3_isCorner 24 = .ok (.iload_n 2, 1) := by decide +kernel
theorem dX3_isCorner_25 : decode cX3_isCorner 25 = .ok (.iload_n 3, 1) := by decide +kernel
theorem dX3_isCorner_26 : decode cX3_isCorner 26 = .ok (.invokestatic 78, 3) := by decide +kernel
theorem dX3_isCorner_29 : decode cX3_isCorner 29 = .ok (.iand, 1) := by decide +kernel
theorem dX3_isCorner_30 : decode cX3_isCorner 30 = .ok (.ifCond .eq 7, 3) := by decide +kernel
theorem dX3_isCorner_33 : decode cX3_isCorner 33 = .ok (.iconst 1, 1) := by decide +kernel
theorem dX3_isCorner_34 : decode cX3_isCorner 34 = .ok (.goto 4, 3) := by decide +kernel
theorem dX3_isCorner_37 : decode cX3_isCorner 37 = .ok (.iconst 0, 1) := by decide +kernel
theorem dX3_isCorner_38 : decode cX3_isCorner 38 = .ok (.ireturn, 1) := by decide +kernel
theorem dX3_findLink_0 : decode cX3_findLink 0 = .ok (.iload_n 2, 1) := by decide +kernel
theorem dX3_findLink_1 : decode cX3_findLink 1 = .ok (.bipush 6, 2) := by decide +kernel
theorem dX3_findLink_3 : decode cX3_findLink 3 = .ok (.imul, 1) := by decide +kernel
theorem dX3_findLink_4 : decode cX3_findLink 4 = .ok (.iload_n 3, 1) := by decide +kernel
theorem dX3_findLink_5 : decode cX3_findLink 5 = .ok (.iadd, 1) := by decide +kernel
theorem dX3_findLink_6 : decode cX3_findLink 6 = .ok (.istore 4, 2) := by decide +kernel
theorem dX3_findLink_8 : decode cX3_findLink 8 = .ok (.iload_n 2, 1) := by decide +kernel
theorem dX3_findLink_9 : decode cX3_findLink 9 = .ok (.iload_n 3, 1) := by decide +kernel
theorem dX3_findLink_10 : decode cX3_findLink 10 = .ok (.invokestatic 36, 3) := by decide +kernel
theorem dX3_findLink_13 : decode cX3_findLink 13 = .ok (.ifCond .ne 4, 3) := by decide +kernel
theorem dX3_findLink_16 : decode cX3_findLink 16 = .ok (.return_, 1) := by decide +kernel
theorem dX3_findLink_17 : decode cX3_findLink 17 = .ok (.aload_n 0, 1) := by decide +kernel
theorem dX3_findLink_18 : decode cX3_findLink 18 = .ok (.getfield 15, 3) := by decide +kernel
theorem dX3_findLink_21 : decode cX3_findLink 21 = .ok (.iload 4, 2) := by decide +kernel
theorem dX3_findLink_23 : decode cX3_findLink 23 = .ok (.iconst 0, 1) := by decide +kernel
theorem dX3_findLink_24 : decode cX3_findLink 24 = .ok (.iastore, 1) := by decide +kernel
theorem dX3_findLink_25 : decode cX3_findLink 25 = .ok (.iload_n 2, 1) := by decide +kernel
theorem dX3_findLink_26 : decode cX3_findLink 26 = .ok (.iload_n 3, 1) := by decide +kernel
theorem dX3_findLink_27 : decode cX3_findLink 27 = .ok (.if_icmp .eq 19, 3) := by decide +kernel
theorem dX3_findLink_30 : decode cX3_findLink 30 = .ok (.aload_n 1, 1) := by decide +kernel
theorem dX3_findLink_31 : decode cX3_findLink 31 = .ok (.iload_n 2, 1) := by decide +kernel
theorem dX3_findLink_32 : decode cX3_findLink 32 = .ok (.invokevirtual 67, 3) := by decide +kernel
theorem dX3_findLink_35 : decode cX3_findLink 35 = .ok (.ifCond .eq 11, 3) := by decide +kernel
theorem dX3_findLink_38 : decode cX3_findLink 38 = .ok (.aload_n 1, 1) := by decide +kernel
theorem dX3_findLink_39 : decode cX3_findLink 39 = .ok (.iload_n 3, 1) := by decide +kernel
theorem dX3_findLink_40 : decode cX3_findLink 40 = .ok (.invokevirtual 67, 3) := by decide +kernel
theorem dX3_findLink_43 : decode cX3_findLink 43 = .ok (.ifCond .ne 4, 3) := by decide +kernel
theorem dX3_findLink_46 : decode cX3_findLink 46 = .ok (.return_, 1) := by decide +kernel
theorem dX3_findLink_47 : decode cX3_findLink 47 = .ok (.iconst 0, 1) := by decide +kernel
theorem dX3_findLink_48 : decode cX3_findLink 48 = .ok (.istore 5, 2) := by decide +kernel
theorem dX3_findLink_50 : decode cX3_findLink 50 = .ok (.iload 5, 2) := by decide +kernel
theorem dX3_findLink_52 : decode cX3_findLink 52 = .ok (.iconst 1, 1) := by decide +kernel
theorem dX3_findLink_53 : decode cX3_findLink 53 = .ok (.if_icmp .gt 102, 3) := by decide +kernel
theorem dX3_findLink_56 : decode cX3_findLink 56 = .ok (.iconst 0, 1) := by decide +kernel
theorem dX3_findLink_57 : decode cX3_findLink 57 = .ok (.istore 6, 2) := by decide +kernel
theorem dX3_findLink_59 : decode cX3_findLink 59 = .ok (.iload 6, 2) := by decide +kernel
theorem dX3_findLink_61 : decode cX3_findLink 61 = .ok (.bipush 10, 2) := by decide +kernel
theorem dX3_findLink_63 : decode cX3_findLink 63 = .ok (.if_icmp .ge 86, 3) := by decide +kernel
theorem dX3_findLink_66 : decode cX3_findLink 66 = .ok (.iload 6, 2) := by decide +kernel
theorem dX3_findLink_68 : decode cX3_findLink 68 = .ok (.iconst 2, 1) := by decide +kernel
theorem dX3_findLink_69 : decode cX3_findLink 69 = .ok (.irem, 1) := by decide +kernel
theorem dX3_findLink_70 : decode cX3_findLink 70 = .ok (.ifCond .ne 9, 3) := by decide +kernel
theorem dX3_findLink_73 : decode cX3_findLink 73 = .ok (.iload 5, 2) := by decide +kernel
theorem dX3_findLink_75 : decode cX3_findLink 75 = .ok (.ineg, 1) := by decide +kernel
theorem dX3_findLink_76 : decode cX3_findLink 76 = .ok (.goto 5, 3) := by decide +kernel
theorem dX3_findLink_79 : decode cX3_findLink 79 = .ok (.iload 5, 2) := by decide +kernel
theorem dX3_findLink_81 : decode cX3_findLink 81 = .ok (.istore 7, 2) := by decide +kernel
theorem dX3_findLink_83 : decode cX3_findLink 83 = .ok (.iconst 1, 1) := by decide +kernel
theorem dX3_findLink_84 : decode cX3_findLink 84 = .ok (.iload 6, 2) := by decide +kernel
theorem dX3_findLink_86 : decode cX3_findLink 86 = .ok (.iconst 2, 1) := by decide +kernel
theorem dX3_findLink_87 : decode cX3_findLink 87 = .ok (.idiv, 1) := by decide +kernel
theorem dX3_findLink_88 : decode cX3_findLink 88 = .ok (.iadd, 1) := by decide +kernel
theorem dX3_findLink_89 : decode cX3_findLink 89 = .ok (.istore 8, 2) := by decide +kernel
theorem dX3_findLink_91 : decode cX3_findLink 91 = .ok (.aload_n 0, 1) := by decide +kernel
theorem dX3_findLink_92 : decode cX3_findLink 92 = .ok (.aload_n 1, 1) := by decide +kernel
theorem dX3_findLink_93 : decode cX3_findLink 93 = .ok (.iload_n 2, 1) := by decide +kernel
theorem dX3_findLink_94 : decode cX3_findLink 94 = .ok (.iload_n 3, 1) := by decide +kernel
theorem dX3_findLink_95 : decode cX3_findLink 95 = .ok (.iload 7, 2) := by decide +kernel
theorem dX3_findLink_97 : decode cX3_findLink 97 = .ok (.iload 8, 2) := by decide +kernel
theorem dX3_findLink_99 : decode cX3_findLink 99 = .ok (.invokevirtual 84, 3) := by decide +kernel
theorem dX3_findLink_102 : decode cX3_findLink 102 = .ok (.istore 9, 2) := by decide +kernel
theorem dX3_findLink_104 : decode cX3_findLink 104 = .ok (.iload 9, 2) := by decide +kernel
theorem dX3_findLink_106 : decode cX3_findLink 106 = .ok (.aload_n 0, 1) := by decide +kernel
theorem dX3_findLink_107 : decode cX3_findLink 107 = .ok (.getfield 15, 3) := by decide +kernel
theorem dX3_findLink_110 : decode cX3_findLink 110 = .ok (.iload 4, 2) := by decide +kernel
theorem dX3_findLink_112 : decode cX3_findLink 112 = .ok (.iaload, 1) := by decide +kernel
theorem dX3_findLink_113 : decode cX3_findLink 113 = .ok (.if_icmp .le 30, 3) := by decide +kernel
theorem dX3_findLink_116 : decode cX3_findLink 116 = .ok (.aload_n 0, 1) := by decide +kernel
theorem dX3_findLink_117 : decode cX3_findLink 117 = .ok (.getfield 15, 3) := by decide +kernel
theorem dX3_findLink_120 : decode cX3_findLink 120 = .ok (.iload 4, 2) := by decide +kernel
theorem dX3_findLink_122 : decode cX3_findLink 122 = .ok (.iload 9, 2) := by decide +kernel
theorem dX3_findLink_124 : decode cX3_findLink 124 = .ok (.iastore, 1) := by decide +kernel
theorem dX3_findLink_125 : decode cX3_findLink 125 = .ok (.aload_n 0, 1) := by decide +kernel
theorem dX3_findLink_126 : decode cX3_findLink 126 = .ok (.getfield 18, 3) := by decide +kernel
theorem dX3_findLink_129 : decode cX3_findLink 129 = .ok (.iload 4, 2) := by decide +kernel
theorem dX3_findLink_131 : decode cX3_findLink 131 = .ok (.iload 7, 2) := by decide +kernel
theorem dX3_findLink_133 : decode cX3_findLink 133 = .ok (.iastore, 1) := by decide +kernel
theorem dX3_findLink_134 : decode cX3_findLink 134 = .ok (.aload_n 0, 1) := by decide +kernel
theorem dX3_findLink_135 : decode cX3_findLink 135 = .ok (.getfield 21, 3) := by decide +kernel
theorem dX3_findLink_138 : decode cX3_findLink 138 = .ok (.iload 4, 2) := by decide +kernel
theorem dX3_findLink_140 : decode cX3_findLink 140 = .ok (.iload 8, 2) := by decide +kernel
theorem dX3_findLink_142 : decode cX3_findLink 142 = .ok (.iastore, 1) := by decide +kernel
theorem dX3_findLink_143 : decode cX3_findLink 143 = .ok (.iinc 6 1, 3) := by decide +kernel
theorem dX3_findLink_146 : decode cX3_findLink 146 = .ok (.goto (-87), 3) := by decide +kernel
theorem dX3_findLink_149 : decode cX3_findLink 149 = .ok (.iinc 5 1, 3) := by decide +kernel
theorem dX3_findLink_152 : decode cX3_findLink 152 = .ok (.goto (-102), 3) := by decide +kernel
theorem dX3_findLink_155 : decode cX3_findLink 155 = .ok (.return_, 1) := by decide +kernel
theorem dX4_init_0 : decode cX4_init 0 = .ok (.aload_n 0, 1) := by decide +kernel
theorem dX4_init_1 : decode cX4_init 1 = .ok (.invokespecial 3, 3) := by decide +kernel
theorem dX4_init_4 : decode cX4_init 4 = .ok (.aload_n 0, 1) := by decide +kernel
theorem dX4_init_5 : decode cX4_init 5 = .ok (.bipush 40, 2) := by decide +kernel
theorem dX4_init_7 : decode cX4_init 7 = .ok (.newarray .int, 2) := by decide +kernel
theorem dX4_init_9 : decode cX4_init 9 = .ok (.putfield 9, 3) := by decide +kernel
theorem dX4_init_12 : decode cX4_init 12 = .ok (.aload_n 0, 1) := by decide +kernel
theorem dX4_init_13 : decode cX4_init 13 = .ok (.sipush 160, 3) := by decide +kernel
theorem dX4_init_16 : decode cX4_init 16 = .ok (.newarray .int, 2) := by decide +kernel
theorem dX4_init_18 : decode cX4_init 18 = .ok (.putfield 15, 3) := by decide +kernel
theorem dX4_init_21 : decode cX4_init 21 = .ok (.return_, 1) := by decide +kernel
theorem dX4_findFault_0 : decode cX4_findFault 0 = .ok (.aload_n 0, 1) := by decide +kernel
theorem dX4_findFault_1 : decode cX4_findFault 1 = .ok (.iconst 0, 1) := by decide +kernel
theorem dX4_findFault_2 : decode cX4_findFault 2 = .ok (.putfield 18, 3) := by decide +kernel
theorem dX4_findFault_5 : decode cX4_findFault 5 = .ok (.aload_n 0, 1) := by decide +kernel
theorem dX4_findFault_6 : decode cX4_findFault 6 = .ok (.iconst 0, 1) := by decide +kernel
theorem dX4_findFault_7 : decode cX4_findFault 7 = .ok (.putfield 22, 3) := by decide +kernel
theorem dX4_findFault_10 : decode cX4_findFault 10 = .ok (.iconst 0, 1) := by decide +kernel
theorem dX4_findFault_11 : decode cX4_findFault 11 = .ok (.istore_n 3, 1) := by decide +kernel
theorem dX4_findFault_12 : decode cX4_findFault 12 = .ok (.iload_n 3, 1) := by decide +kernel
theorem dX4_findFault_13 : decode cX4_findFault 13 = .ok (.iload_n 2, 1) := by decide +kernel
theorem dX4_findFault_14 : decode cX4_findFault 14 = .ok (.if_icmp .ge 27, 3) := by decide +kernel
theorem dX4_findFault_17 : decode cX4_findFault 17 = .ok (.iload_n 3, 1) := by decide +kernel
theorem dX4_findFault_18 : decode cX4_findFault 18 = .ok (.aload_n 1, 1) := by decide +kernel
theorem dX4_findFault_19 : decode cX4_findFault 19 = .ok (.arraylength, 1) := by decide +kernel
theorem dX4_findFault_20 : decode cX4_findFault 20 = .ok (.if_icmp .ge 21, 3) := by decide +kernel
theorem dX4_findFault_23 : decode cX4_findFault 23 = .ok (.aload_n 0, 1) := by decide +kernel
theorem dX4_findFault_24 : decode cX4_findFault 24 = .ok (.aload_n 1, 1) := by decide +kernel
theorem dX4_findFault_25 : decode cX4_findFault 25 = .ok (.iload_n 3, 1) := by decide +kernel
theorem dX4_findFault_26 : decode cX4_findFault 26 = .ok (.iaload, 1) := by decide +kernel
theorem dX4_findFault_27 : decode cX4_findFault 27 = .ok (.invokevirtual 25, 3) := by decide +kernel
theorem dX4_findFault_30 : decode cX4_findFault 30 = .ok (.ifCond .ne 5, 3) := by decide +kernel
theorem dX4_findFault_33 : decode cX4_findFault 33 = .ok (.iload_n 3, 1) := by decide +kernel
theorem dX4_findFault_34 : decode cX4_findFault 34 = .ok (.ireturn, 1) := by decide +kernel
theorem dX4_findFault_35 : decode cX4_findFault 35 = .ok (.iinc 3 1, 3) := by decide +kernel
theorem dX4_findFault_38 : decode cX4_findFault 38 = .ok (.goto (-26), 3) := by decide +kernel
theorem dX4_findFault_41 : decode cX4_findFault 41 = .ok (.aload_n 0, 1) := by decide +kernel
theorem dX4_findFault_42 : decode cX4_findFault 42 = .ok (.getfield 18, 3) := by decide +kernel
theorem dX4_findFault_45 : decode cX4_findFault 45 = .ok (.ifCond .le 14, 3) := by decide +kernel
theorem dX4_findFault_48 : decode cX4_findFault 48 = .ok (.aload_n 0, 1) := by decide +kernel
theorem dX4_findFault_49 : decode cX4_findFault 49 = .ok (.getfield 22, 3) := by decide +kernel
theorem dX4_findFault_52 : decode cX4_findFault 52 = .ok (.ifCond .ne 7, 3) := by decide +kernel
theorem dX4_findFault_55 : decode cX4_findFault 55 = .ok (.iconst (-1), 1) := by decide +kernel
theorem dX4_findFault_56 : decode cX4_findFault 56 = .ok (.goto 4, 3) := by decide +kernel
theorem dX4_findFault_59 : decode cX4_findFault 59 = .ok (.iload_n 2, 1) := by decide +kernel
theorem dX4_findFault_60 : decode cX4_findFault 60 = .ok (.ireturn, 1) := by decide +kernel
theorem dX4_carryOut_0 : decode cX4_carryOut 0 = .ok (.iconst 0, 1) := by decide +kernel
theorem dX4_carryOut_1 : decode cX4_carryOut 1 = .ok (.istore_n 2, 1) := by decide +kernel
theorem dX4_carryOut_2 : decode cX4_carryOut 2 = .ok (.iload_n 2, 1) := by decide +kernel
theorem dX4_carryOut_3 : decode cX4_carryOut 3 = .ok (.aload_n 0, 1) := by decide +kernel
theorem dX4_carryOut_4 : decode cX4_carryOut 4 = .ok (.getfield 18, 3) := by decide +kernel
theorem dX4_carryOut_7 : decode cX4_carryOut 7 = .ok (.if_icmp .ge 42, 3) := by decide +kernel
theorem dX4_carryOut_10 : decode cX4_carryOut 10 = .ok (.iload_n 2, 1) := by decide +kernel
theorem dX4_carryOut_11 : decode cX4_carryOut 11 = .ok (.bipush 40, 2) := by decide +kernel
theorem dX4_carryOut_13 : decode cX4_carryOut 13 = .ok (.if_icmp .ge 36, 3) := by decide +kernel
theorem dX4_carryOut_16 : decode cX4_carryOut 16 = .ok (.aload_n 0, 1) := by decide +kernel
theorem dX4_carryOut_17 : decode cX4_carryOut 17 = .ok (.aload_n 1, 1) := by decide +kernel
theorem dX4_carryOut_18 : decode cX4_carryOut 18 = .ok (.aload_n 0, 1) := by decide +kernel
theorem dX4_carryOut_19 : decode cX4_carryOut 19 = .ok (.getfield 9, 3) := by decide +kernel
theorem dX4_carryOut_22 : decode cX4_carryOut 22 = .ok (.iload_n 2, 1) := by decide +kernel
theorem dX4_carryOut_23 : decode cX4_carryOut 23 = .ok (.iaload, 1) := by decide +kernel
theorem dX4_carryOut_24 : decode cX4_carryOut 24 = .ok (.iload_n 2, 1) := by decide +kernel
theorem dX4_carryOut_25 : decode cX4_carryOut 25 = .ok (.iconst 4, 1) := by decide +kernel
theorem dX4_carryOut_26 : decode cX4_carryOut 26 = .ok (.imul, 1) := by decide +kernel
theorem dX4_carryOut_27 : decode cX4_carryOut 27 = .ok (.invokevirtual 29, 3) := by decide +kernel
theorem dX4_carryOut_30 : decode cX4_carryOut 30 = .ok (.istore_n 3, 1) := by decide +kernel
theorem dX4_carryOut_31 : decode cX4_carryOut 31 = .ok (.iload_n 3, 1) := by decide +kernel
theorem dX4_carryOut_32 : decode cX4_carryOut 32 = .ok (.ifCond .ge 11, 3) := by decide +kernel
theorem dX4_carryOut_35 : decode cX4_carryOut 35 = .ok (.aload_n 0, 1) := by decide +kernel
theorem dX4_carryOut_36 : decode cX4_carryOut 36 = .ok (.iload_n 3, 1) := by decide +kernel
theorem dX4_carryOut_37 : decode cX4_carryOut 37 = .ok (.ineg, 1) := by decide +kernel
theorem dX4_carryOut_38 : decode cX4_carryOut 38 = .ok (.putfield 33, 3) := by decide +kernel
theorem dX4_carryOut_41 : decode cX4_carryOut 41 = .ok (.iload_n 2, 1) := by decide +kernel
theorem dX4_carryOut_42 : decode cX4_carryOut 42 = .ok (.ireturn, 1) := by decide +kernel
theorem dX4_carryOut_43 : decode cX4_carryOut 43 = .ok (.iinc 2 1, 3) := by decide +kernel
theorem dX4_carryOut_46 : decode cX4_carryOut 46 = .ok (.goto (-44), 3) := by decide +kernel
theorem dX4_carryOut_49 : decode cX4_carryOut 49 = .ok (.iconst (-1), 1) := by decide +kernel
theorem dX4_carryOut_50 : decode cX4_carryOut 50 = .ok (.ireturn, 1) := by decide +kernel
theorem dX4_carryOutOne_0 : decode cX4_carryOutOne 0 = .ok (.iload_n 3, 1) := by decide +kernel
theorem dX4_carryOutOne_1 : decode cX4_carryOutOne 1 = .ok (.iconst 0, 1) := by decide +kernel
theorem dX4_carryOutOne_2 : decode cX4_carryOutOne 2 = .ok (.sipush 156, 3) := by decide +kernel
theorem dX4_carryOutOne_5 : decode cX4_carryOutOne 5 = .ok (.invokestatic 36, 3) := by decide +kernel
theorem dX4_carryOutOne_8 : decode cX4_carryOutOne 8 = .ok (.ifCond .ne 6, 3) := by decide +kernel
theorem dX4_carryOutOne_11 : decode cX4_carryOutOne 11 = .ok (.bipush (-2), 2) := by decide +kernel
theorem dX4_carryOutOne_13 : decode cX4_carryOutOne 13 = .ok (.ireturn, 1) := by decide +kernel
theorem dX4_carryOutOne_14 : decode cX4_carryOutOne 14 = .ok (.aload_n 0, 1) := by decide +kernel
theorem dX4_carryOutOne_15 : decode cX4_carryOutOne 15 = .ok (.getfield 15, 3) := by decide +kernel
theorem dX4_carryOutOne_18 : decode cX4_carryOutOne 18 = .ok (.iload_n 3, 1) := by decide +kernel
theorem dX4_carryOutOne_19 : decode cX4_carryOutOne 19 = .ok (.iaload, 1) := by decide +kernel
theorem dX4_carryOutOne_20 : decode cX4_carryOutOne 20 = .ok (.istore 4, 2) := by decide +kernel
theorem dX4_carryOutOne_22 : decode cX4_carryOutOne 22 = .ok (.aload_n 0, 1) := by decide +kernel
theorem dX4_carryOutOne_23 : decode cX4_carryOutOne 23 = .ok (.getfield 15, 3) := by decide +kernel
theorem dX4_carryOutOne_26 : decode cX4_carryOutOne 26 = .ok (.iload_n 3, 1) := by decide +kernel
theorem dX4_carryOutOne_27 : decode cX4_carryOutOne 27 = .ok (.iconst 1, 1) := by decide +kernel
theorem dX4_carryOutOne_28 : decode cX4_carryOutOne 28 = .ok (.iadd, 1) := by decide +kernel
theorem dX4_carryOutOne_29 : decode cX4_carryOutOne 29 = .ok (.iaload, 1) := by decide +kernel
theorem dX4_carryOutOne_30 : decode cX4_carryOutOne 30 = .ok (.istore 5, 2) := by decide +kernel
theorem dX4_carryOutOne_32 : decode cX4_carryOutOne 32 = .ok (.aload_n 0, 1) := by decide +kernel
theorem dX4_carryOutOne_33 : decode cX4_carryOutOne 33 = .ok (.getfield 15, 3) := by decide +kernel
theorem dX4_carryOutOne_36 : decode cX4_carryOutOne 36 = .ok (.iload_n 3, 1) := by decide +kernel
theorem dX4_carryOutOne_37 : decode cX4_carryOutOne 37 = .ok (.iconst 2, 1) := by decide +kernel
theorem dX4_carryOutOne_38 : decode cX4_carryOutOne 38 = .ok (.iadd, 1) := by decide +kernel
theorem dX4_carryOutOne_39 : decode cX4_carryOutOne 39 = .ok (.iaload, 1) := by decide +kernel
theorem dX4_carryOutOne_40 : decode cX4_carryOutOne 40 = .ok (.istore 6, 2) := by decide +kernel
theorem dX4_carryOutOne_42 : decode cX4_carryOutOne 42 = .ok (.iload_n 2, 1) := by decide +kernel
theorem dX4_carryOutOne_43 : decode cX4_carryOutOne 43 = .ok (.tableswitch 182 97 120 #[167, 182, 148, 182, 182, 182, 182, 182, 182, 182, 182, 182, 182, 182, 182, 129, 182, 182, 118, 159, 182, 182, 109, 175], 109) := by decide +kernel
theorem dX4_carryOutOne_152 : decode cX4_carryOutOne 152 = .ok (.aload_n 1, 1) := by decide +kernel
theorem dX4_carryOutOne_153 : decode cX4_carryOutOne 153 = .ok (.iload 4, 2) := by decide +kernel
theorem dX4_carryOutOne_155 : decode cX4_carryOutOne 155 = .ok (.iload 5, 2) := by decide +kernel
theorem dX4_carryOutOne_157 : decode cX4_carryOutOne 157 = .ok (.invokevirtual 40, 3) := by decide +kernel
theorem dX4_carryOutOne_160 : decode cX4_carryOutOne 160 = .ok (.ireturn, 1) := by decide +kernel
theorem dX4_carryOutOne_161 : decode cX4_carryOutOne 161 = .ok (.aload_n 1, 1) := by decide +kernel
theorem dX4_carryOutOne_162 : decode cX4_carryOutOne 162 = .ok (.iload 4, 2) := by decide +kernel
theorem dX4_carryOutOne_164 : decode cX4_carryOutOne 164 = .ok (.iload 5, 2) := by decide +kernel
theorem dX4_carryOutOne_166 : decode cX4_carryOutOne 166 = .ok (.iload 6, 2) := by decide +kernel
theorem dX4_carryOutOne_168 : decode cX4_carryOutOne 168 = .ok (.invokevirtual 46, 3) := by decide +kernel
theorem dX4_carryOutOne_171 : decode cX4_carryOutOne 171 = .ok (.ireturn, 1) := by decide +kernel
theorem dX4_carryOutOne_172 : decode cX4_carryOutOne 172 = .ok (.aload_n 1, 1) := by decide +kernel
theorem dX4_carryOutOne_173 : decode cX4_carryOutOne 173 = .ok (.iload 4, 2) := by decide +kernel
theorem dX4_carryOutOne_175 : decode cX4_carryOutOne 175 = .ok (.iload 5, 2) := by decide +kernel
theorem dX4_carryOutOne_177 : decode cX4_carryOutOne 177 = .ok (.iload 6, 2) := by decide +kernel
theorem dX4_carryOutOne_179 : decode cX4_carryOutOne 179 = .ok (.aload_n 0, 1) := by decide +kernel
theorem dX4_carryOutOne_180 : decode cX4_carryOutOne 180 = .ok (.getfield 15, 3) := by decide +kernel
theorem dX4_carryOutOne_183 : decode cX4_carryOutOne 183 = .ok (.iload_n 3, 1) := by decide +kernel
theorem dX4_carryOutOne_184 : decode cX4_carryOutOne 184 = .ok (.iconst 3, 1) := by decide +kernel
theorem dX4_carryOutOne_185 : decode cX4_carryOutOne 185 = .ok (.iadd, 1) := by decide +kernel
theorem dX4_carryOutOne_186 : decode cX4_carryOutOne 186 = .ok (.iaload, 1) := by decide +kernel
theorem dX4_carryOutOne_187 : decode cX4_carryOutOne 187 = .ok (.invokevirtual 50, 3) := by decide +kernel
theorem dX4_carryOutOne_190 : decode cX4_carryOutOne 190 = .ok (.ireturn, 1) := by decide +kernel
theorem dX4_carryOutOne_191 : decode cX4_carryOutOne 191 = .ok (.aload_n 1, 1) := by decide +kernel
theorem dX4_carryOutOne_192 : decode cX4_carryOutOne 192 = .ok (.iload 4, 2) := by decide +kernel
theorem dX4_carryOutOne_194 : decode cX4_carryOutOne 194 = .ok (.iload 5, 2) := by decide +kernel
theorem dX4_carryOutOne_196 : decode cX4_carryOutOne 196 = .ok (.iload 6, 2) := by decide +kernel
theorem dX4_carryOutOne_198 : decode cX4_carryOutOne 198 = .ok (.invokevirtual 54, 3) := by decide +kernel
theorem dX4_carryOutOne_201 : decode cX4_carryOutOne 201 = .ok (.ireturn, 1) := by decide +kernel
theorem dX4_carryOutOne_202 : decode cX4_carryOutOne 202 = .ok (.aload_n 1, 1) := by decide +kernel
theorem dX4_carryOutOne_203 : decode cX4_carryOutOne 203 = .ok (.iconst 0, 1) := by decide +kernel
theorem dX4_carryOutOne_204 : decode cX4_carryOutOne 204 = .ok (.iload 4, 2) := by decide +kernel
theorem dX4_carryOutOne_206 : decode cX4_carryOutOne 206 = .ok (.invokevirtual 57, 3) := by decide +kernel
theorem dX4_carryOutOne_209 : decode cX4_carryOutOne 209 = .ok (.ireturn, 1) := by decide +kernel
theorem dX4_carryOutOne_210 : decode cX4_carryOutOne 210 = .ok (.aload_n 1, 1) := by decide +kernel
theorem dX4_carryOutOne_211 : decode cX4_carryOutOne 211 = .ok (.iconst 1, 1) := by decide +kernel
theorem dX4_carryOutOne_212 : decode cX4_carryOutOne 212 = .ok (.iload 4, 2) := by decide +kernel
theorem dX4_carryOutOne_214 : decode cX4_carryOutOne 214 = .ok (.invokevirtual 57, 3) := by decide +kernel
theorem dX4_carryOutOne_217 : decode cX4_carryOutOne 217 = .ok (.ireturn, 1) := by decide +kernel
theorem dX4_carryOutOne_218 : decode cX4_carryOutOne 218 = .ok (.aload_n 1, 1) := by decide +kernel
theorem dX4_carryOutOne_219 : decode cX4_carryOutOne 219 = .ok (.iload 4, 2) := by decide +kernel
theorem dX4_carryOutOne_221 : decode cX4_carryOutOne 221 = .ok (.invokevirtual 60, 3) := by decide +kernel
theorem dX4_carryOutOne_224 : decode cX4_carryOutOne 224 = .ok (.ireturn, 1) := by decide +kernel
theorem dX4_carryOutOne_225 : decode cX4_carryOutOne 225 = .ok (.bipush (-2), 2) := by decide +kernel
theorem dX4_carryOutOne_227 : decode cX4_carryOutOne 227 = .ok (.ireturn, 1) := by decide +kernel
theorem dX4_numbersOf_0 : decode cX4_numbersOf 0 = .ok (.iload_n 0, 1) := by decide +kernel
theorem dX4_numbersOf_1 : decode cX4_numbersOf 1 = .ok (.tableswitch 119 97 120 #[117, 119, 113, 119, 119, 119, 119, 119, 119, 119, 119, 119, 119, 119, 119, 115, 119, 119, 113, 117, 119, 119, 111, 117], 111) := by decide +kernel
theorem dX4_numbersOf_112 : decode cX4_numbersOf 112 = .ok (.iconst 2, 1) := by decide +kernel
theorem dX4_numbersOf_113 : decode cX4_numbersOf 113 = .ok (.ireturn, 1) := by decide +kernel
theorem dX4_numbersOf_114 : decode cX4_numbersOf 114 = .ok (.iconst 3, 1) := by decide +kernel
theorem dX4_numbersOf_115 : decode cX4_numbersOf 115 = .ok (.ireturn, 1) := by decide +kernel
theorem dX4_numbersOf_116 : decode cX4_numbersOf 116 = .ok (.iconst 4, 1) := by decide +kernel
theorem dX4_numbersOf_117 : decode cX4_numbersOf 117 = .ok (.ireturn, 1) := by decide +kernel
theorem dX4_numbersOf_118 : decode cX4_numbersOf 118 = .ok (.iconst 1, 1) := by decide +kernel
theorem dX4_numbersOf_119 : decode cX4_numbersOf 119 = .ok (.ireturn, 1) := by decide +kernel
theorem dX4_numbersOf_120 : decode cX4_numbersOf 120 = .ok (.iconst 0, 1) := by decide +kernel
theorem dX4_numbersOf_121 : decode cX4_numbersOf 121 = .ok (.ireturn, 1) := by decide +kernel
theorem dX4_accept_0 : decode cX4_accept 0 = .ok (.aload_n 0, 1) := by decide +kernel
theorem dX4_accept_1 : decode cX4_accept 1 = .ok (.getfield 22, 3) := by decide +kernel
theorem dX4_accept_4 : decode cX4_accept 4 = .ok (.tableswitch 96 0 3 #[32, 96, 52, 73], 32) := by decide +kernel
theorem dX4_accept_36 : decode cX4_accept 36 = .ok (.iload_n 1, 1) := by decide +kernel
theorem dX4_accept_37 : decode cX4_accept 37 = .ok (.bipush 32, 2) := by decide +kernel
theorem dX4_accept_39 : decode cX4_accept 39 = .ok (.if_icmp .eq 11, 3) := by decide +kernel
theorem dX4_accept_42 : decode cX4_accept 42 = .ok (.aload_n 0, 1) := by decide +kernel
theorem dX4_accept_43 : decode cX4_accept 43 = .ok (.iload_n 1, 1) := by decide +kernel
theorem dX4_accept_44 : decode cX4_accept 44 = .ok (.invokevirtual 64, 3) := by decide +kernel
theorem dX4_accept_47 : decode cX4_accept 47 = .ok (.ifCond .eq 7, 3) := by decide +kernel
theorem dX4_accept_50 : decode cX4_accept 50 = .ok (.iconst 1, 1) := by decide +kernel
theorem dX4_accept_51 : decode cX4_accept 51 = .ok (.goto 4, 3) := by decide +kernel
theorem dX4_accept_54 : decode cX4_accept 54 = .ok (.iconst 0, 1) := by decide +kernel
theorem dX4_accept_55 : decode cX4_accept 55 = .ok (.ireturn, 1) := by decide +kernel
theorem dX4_accept_56 : decode cX4_accept 56 = .ok (.iload_n 1, 1) := by decide +kernel
theorem dX4_accept_57 : decode cX4_accept 57 = .ok (.invokestatic 67, 3) := by decide +kernel
theorem dX4_accept_60 : decode cX4_accept 60 = .ok (.ifCond .eq 15, 3) := by decide +kernel
theorem dX4_accept_63 : decode cX4_accept 63 = .ok (.aload_n 0, 1) := by decide +kernel
theorem dX4_accept_64 : decode cX4_accept 64 = .ok (.iload_n 1, 1) := by decide +kernel
theorem dX4_accept_65 : decode cX4_accept 65 = .ok (.invokevirtual 70, 3) := by decide +kernel
theorem dX4_accept_68 : decode cX4_accept 68 = .ok (.ifCond .eq 7, 3) := by decide +kernel
theorem dX4_accept_71 : decode cX4_accept 71 = .ok (.iconst 1, 1) := by decide +kernel
theorem dX4_accept_72 : decode cX4_accept 72 = .ok (.goto 4, 3) := by decide +kernel
theorem dX4_accept_75 : decode cX4_accept 75 = .ok (.iconst 0, 1) := by decide +kernel
theorem dX4_accept_76 : decode cX4_accept 76 = .ok (.ireturn, 1) := by decide +kernel
theorem dX4_accept_77 : decode cX4_accept 77 = .ok (.iload_n 1, 1) := by decide +kernel
theorem dX4_accept_78 : decode cX4_accept 78 = .ok (.invokestatic 67, 3) := by decide +kernel
theorem dX4_accept_81 : decode cX4_accept 81 = .ok (.ifCond .eq 9, 3) := by decide +kernel
theorem dX4_accept_84 : decode cX4_accept 84 = .ok (.aload_n 0, 1) := by decide +kernel
theorem dX4_accept_85 : decode cX4_accept 85 = .ok (.iload_n 1, 1) := by decide +kernel
theorem dX4_accept_86 : decode cX4_accept 86 = .ok (.invokevirtual 70, 3) := by decide +kernel
theorem dX4_accept_89 : decode cX4_accept 89 = .ok (.ireturn, 1) := by decide +kernel
theorem dX4_accept_90 : decode cX4_accept 90 = .ok (.aload_n 0, 1) := by decide +kernel
theorem dX4_accept_91 : decode cX4_accept 91 = .ok (.invokevirtual 73, 3) := by decide +kernel
theorem dX4_accept_94 : decode cX4_accept 94 = .ok (.aload_n 0, 1) := by decide +kernel
theorem dX4_accept_95 : decode cX4_accept 95 = .ok (.iload_n 1, 1) := by decide +kernel
theorem dX4_accept_96 : decode cX4_accept 96 = .ok (.invokevirtual 76, 3) := by decide +kernel
theorem dX4_accept_99 : decode cX4_accept 99 = .ok (.ireturn, 1) := by decide +kernel
theorem dX4_accept_100 : decode cX4_accept 100 = .ok (.aload_n 0, 1) := by decide +kernel
theorem dX4_accept_101 : decode cX4_accept 101 = .ok (.iload_n 1, 1) := by decide +kernel
theorem dX4_accept_102 : decode cX4_accept 102 = .ok (.invokevirtual 76, 3) := by decide +kernel
theorem dX4_accept_105 : decode cX4_accept 105 = .ok (.ireturn, 1) := by decide +kernel
theorem dX4_acceptLetter_0 : decode cX4_acceptLetter 0 = .ok (.iload_n 1, 1) := by decide +kernel
theorem dX4_acceptLetter_1 : decode cX4_acceptLetter 1 = .ok (.invokestatic 79, 3) := by decide +kernel
theorem dX4_acceptLetter_4 : decode cX4_acceptLetter 4 = .ok (.ifCond .eq 16, 3) := by decide +kernel
theorem dX4_acceptLetter_7 : decode cX4_acceptLetter 7 = .ok (.aload_n 0, 1) := by decide +kernel
theorem dX4_acceptLetter_8 : decode cX4_acceptLetter 8 = .ok (.getfield 18, 3) := by decide +kernel
theorem dX4_acceptLetter_11 : decode cX4_acceptLetter 11 = .ok (.iconst 0, 1) := by decide +kernel
theorem dX4_acceptLetter_12 : decode cX4_acceptLetter 12 = .ok (.bipush 39, 2) := by decide +kernel
theorem dX4_acceptLetter_14 : decode cX4_acceptLetter 14 = .ok (.invokestatic 36, 3) := by decide +kernel
theorem dX4_acceptLetter_17 : decode cX4_acceptLetter 17 = .ok (.ifCond .ne 5, 3) := by decide +kernel
theorem dX4_acceptLetter_20 : decode cX4_acceptLetter 20 = .ok (.iconst 0, 1) := by decide +kernel
theorem dX4_acceptLetter_21 : decode cX4_acceptLetter 21 = .ok (.ireturn, 1) := by decide +kernel
theorem dX4_acceptLetter_22 : decode cX4_acceptLetter 22 = .ok (.aload_n 0, 1) := by decide +kernel
theorem dX4_acceptLetter_23 : decode cX4_acceptLetter 23 = .ok (.iload_n 1, 1) := by decide +kernel
theorem dX4_acceptLetter_24 : decode cX4_acceptLetter 24 = .ok (.putfield 82, 3) := by decide +kernel
theorem dX4_acceptLetter_27 : decode cX4_acceptLetter 27 = .ok (.aload_n 0, 1) := by decide +kernel
theorem dX4_acceptLetter_28 : decode cX4_acceptLetter 28 = .ok (.iconst 0, 1) := by decide +kernel
theorem dX4_acceptLetter_29 : decode cX4_acceptLetter 29 = .ok (.putfield 85, 3) := by decide +kernel
theorem dX4_acceptLetter_32 : decode cX4_acceptLetter 32 = .ok (.aload_n 0, 1) := by decide +kernel
theorem dX4_acceptLetter_33 : decode cX4_acceptLetter 33 = .ok (.iconst 1, 1) := by decide +kernel
theorem dX4_acceptLetter_34 : decode cX4_acceptLetter 34 = .ok (.putfield 22, 3) := by decide +kernel
theorem dX4_acceptLetter_37 : decode cX4_acceptLetter 37 = .ok (.iconst 1, 1) := by decide +kernel
theorem dX4_acceptLetter_38 : decode cX4_acceptLetter 38 = .ok (.ireturn, 1) := by decide +kernel
theorem dX4_acceptInGap_0 : decode cX4_acceptInGap 0 = .ok (.iload_n 1, 1) := by decide +kernel
theorem dX4_acceptInGap_1 : decode cX4_acceptInGap 1 = .ok (.bipush 32, 2) := by decide +kernel
theorem dX4_acceptInGap_3 : decode cX4_acceptInGap 3 = .ok (.if_icmp .ne 5, 3) := by decide +kernel
theorem dX4_acceptInGap_6 : decode cX4_acceptInGap 6 = .ok (.iconst 1, 1) := by decide +kernel
theorem dX4_acceptInGap_7 : decode cX4_acceptInGap 7 = .ok (.ireturn, 1) := by decide +kernel
theorem dX4_acceptInGap_8 : decode cX4_acceptInGap 8 = .ok (.aload_n 0, 1) := by decide +kernel
theorem dX4_acceptInGap_9 : decode cX4_acceptInGap 9 = .ok (.getfield 85, 3) := by decide +kernel
theorem dX4_acceptInGap_12 : decode cX4_acceptInGap 12 = .ok (.aload_n 0, 1) := by decide +kernel
theorem dX4_acceptInGap_13 : decode cX4_acceptInGap 13 = .ok (.getfield 82, 3) := by decide +kernel
theorem dX4_acceptInGap_16 : decode cX4_acceptInGap 16 = .ok (.invokestatic 79, 3) := by decide +kernel
theorem dX4_acceptInGap_19 : decode cX4_acceptInGap 19 = .ok (.if_icmp .lt 22, 3) := by decide +kernel
theorem dX4_acceptInGap_22 : decode cX4_acceptInGap 22 = .ok (.iload_n 1, 1) := by decide +kernel
theorem dX4_acceptInGap_23 : decode cX4_acceptInGap 23 = .ok (.bipush 59, 2) := by decide +kernel
theorem dX4_acceptInGap_25 : decode cX4_acceptInGap 25 = .ok (.if_icmp .ne 14, 3) := by decide +kernel
theorem dX4_acceptInGap_28 : decode cX4_acceptInGap 28 = .ok (.aload_n 0, 1) := by decide +kernel
theorem dX4_acceptInGap_29 : decode cX4_acceptInGap 29 = .ok (.invokevirtual 88, 3) := by decide +kernel
theorem dX4_acceptInGap_32 : decode cX4_acceptInGap 32 = .ok (.ifCond .eq 7, 3) := by decide +kernel
theorem dX4_acceptInGap_35 : decode cX4_acceptInGap 35 = .ok (.iconst 1, 1) := by decide +kernel
theorem dX4_acceptInGap_36 : decode cX4_acceptInGap 36 = .ok (.goto 4, 3) := by decide +kernel
theorem dX4_acceptInGap_39 : decode cX4_acceptInGap 39 = .ok (.iconst 0, 1) := by decide +kernel
theorem dX4_acceptInGap_40 : decode cX4_acceptInGap 40 = .ok (.ireturn, 1) := by decide +kernel
theorem dX4_acceptInGap_41 : decode cX4_acceptInGap 41 = .ok (.iload_n 1, 1) := by decide +kernel
theorem dX4_acceptInGap_42 : decode cX4_acceptInGap 42 = .ok (.bipush 45, 2) := by decide +kernel
theorem dX4_acceptInGap_44 : decode cX4_acceptInGap 44 = .ok (.if_icmp .ne 24, 3) := by decide +kernel
theorem dX4_acceptInGap_47 : decode cX4_acceptInGap 47 = .ok (.aload_n 0, 1) := by decide +kernel
theorem dX4_acceptInGap_48 : decode cX4_acceptInGap 48 = .ok (.getfield 82, 3) := by decide +kernel
theorem dX4_acceptInGap_51 : decode cX4_acceptInGap 51 = .ok (.bipush 115, 2) := by decide +kernel
theorem dX4_acceptInGap_53 : decode cX4_acceptInGap 53 = .ok (.if_icmp .ne 15, 3) := by decide +kernel
theorem dX4_acceptInGap_56 : decode cX4_acceptInGap 56 = .ok (.aload_n 0, 1) := by decide +kernel
theorem dX4_acceptInGap_57 : decode cX4_acceptInGap 57 = .ok (.getfield 85, 3) := by decide +kernel
theorem dX4_acceptInGap_60 : decode cX4_acceptInGap 60 = .ok (.iconst 2, 1) := by decide +kernel
theorem dX4_acceptInGap_61 : decode cX4_acceptInGap 61 = .ok (.if_icmp .ne 7, 3) := by decide +kernel
theorem dX4_acceptInGap_64 : decode cX4_acceptInGap 64 = .ok (.iconst 1, 1) := by decide +kernel
theorem dX4_acceptInGap_65 : decode cX4_acceptInGap 65 = .ok (.goto 4, 3) := by decide +kernel
theorem dX4_acceptInGap_68 : decode cX4_acceptInGap 68 = .ok (.iconst 0, 1) := by decide +kernel
theorem dX4_acceptInGap_69 : decode cX4_acceptInGap 69 = .ok (.istore_n 2, 1) := by decide +kernel
theorem dX4_acceptInGap_70 : decode cX4_acceptInGap 70 = .ok (.iload_n 2, 1) := by decide +kernel
theorem dX4_acceptInGap_71 : decode cX4_acceptInGap 71 = .ok (.ifCond .ne 12, 3) := by decide +kernel
theorem dX4_acceptInGap_74 : decode cX4_acceptInGap 74 = .ok (.iload_n 1, 1) := by decide +kernel
theorem dX4_acceptInGap_75 : decode cX4_acceptInGap 75 = .ok (.invokestatic 67, 3) := by decide +kernel
theorem dX4_acceptInGap_78 : decode cX4_acceptInGap 78 = .ok (.ifCond .ne 5, 3) := by decide +kernel
theorem dX4_acceptInGap_81 : decode cX4_acceptInGap 81 = .ok (.iconst 0, 1) := by decide +kernel
theorem dX4_acceptInGap_82 : decode cX4_acceptInGap 82 = .ok (.ireturn, 1) := by decide +kernel
theorem dX4_acceptInGap_83 : decode cX4_acceptInGap 83 = .ok (.aload_n 0, 1) := by decide +kernel
theorem dX4_acceptInGap_84 : decode cX4_acceptInGap 84 = .ok (.iconst 0, 1) := by decide +kernel
theorem dX4_acceptInGap_85 : decode cX4_acceptInGap 85 = .ok (.putfield 92, 3) := by decide +kernel
theorem dX4_acceptInGap_88 : decode cX4_acceptInGap 88 = .ok (.aload_n 0, 1) := by decide +kernel
theorem dX4_acceptInGap_89 : decode cX4_acceptInGap 89 = .ok (.iconst 0, 1) := by decide +kernel
theorem dX4_acceptInGap_90 : decode cX4_acceptInGap 90 = .ok (.putfield 95, 3) := by decide +kernel
theorem dX4_acceptInGap_93 : decode cX4_acceptInGap 93 = .ok (.aload_n 0, 1) := by decide +kernel
theorem dX4_acceptInGap_94 : decode cX4_acceptInGap 94 = .ok (.iload_n 2, 1) := by decide +kernel
theorem dX4_acceptInGap_95 : decode cX4_acceptInGap 95 = .ok (.putfield 98, 3) := by decide +kernel
theorem dX4_acceptInGap_98 : decode cX4_acceptInGap 98 = .ok (.aload_n 0, 1) := by decide +kernel
theorem dX4_acceptInGap_99 : decode cX4_acceptInGap 99 = .ok (.iconst 2, 1) := by decide +kernel
theorem dX4_acceptInGap_100 : decode cX4_acceptInGap 100 = .ok (.putfield 22, 3) := by decide +kernel
theorem dX4_acceptInGap_103 : decode cX4_acceptInGap 103 = .ok (.iload_n 2, 1) := by decide +kernel
theorem dX4_acceptInGap_104 : decode cX4_acceptInGap 104 = .ok (.ifCond .ne 11, 3) := by decide +kernel
theorem dX4_acceptInGap_107 : decode cX4_acceptInGap 107 = .ok (.aload_n 0, 1) := by decide +kernel
theorem dX4_acceptInGap_108 : decode cX4_acceptInGap 108 = .ok (.iload_n 1, 1) := by decide +kernel
theorem dX4_acceptInGap_109 : decode cX4_acceptInGap 109 = .ok (.invokevirtual 70, 3) := by decide +kernel
theorem dX4_acceptInGap_112 : decode cX4_acceptInGap 112 = .ok (.ifCond .eq 7, 3) := by decide +kernel
theorem dX4_acceptInGap_115 : decode cX4_acceptInGap 115 = .ok (.iconst 1, 1) := by decide +kernel
theorem dX4_acceptInGap_116 : decode cX4_acceptInGap 116 = .ok (.goto 4, 3) := by decide +kernel
theorem dX4_acceptInGap_119 : decode cX4_acceptInGap 119 = .ok (.iconst 0, 1) := by decide +kernel
theorem dX4_acceptInGap_120 : decode cX4_acceptInGap 120 = .ok (.ireturn, 1) := by decide +kernel
theorem dX4_acceptFigure_0 : decode cX4_acceptFigure 0 = .ok (.aload_n 0, 1) := by decide +kernel
theorem dX4_acceptFigure_1 : decode cX4_acceptFigure 1 = .ok (.getfield 95, 3) := by decide +kernel
theorem dX4_acceptFigure_4 : decode cX4_acceptFigure 4 = .ok (.bipush 6, 2) := by decide +kernel
theorem dX4_acceptFigure_6 : decode cX4_acceptFigure 6 = .ok (.if_icmp .lt 5, 3) := by decide +kernel
theorem dX4_acceptFigure_9 : decode cX4_acceptFigure 9 = .ok (.iconst 0, 1) := by decide +kernel
theorem dX4_acceptFigure_10 : decode cX4_acceptFigure 10 = .ok (.ireturn, 1) := by decide +kernel
theorem dX4_acceptFigure_11 : decode cX4_acceptFigure 11 = .ok (.aload_n 0, 1) := by decide +kernel
theorem dX4_acceptFigure_12 : decode cX4_acceptFigure 12 = .ok (.dup, 1) := by decide +kernel
theorem dX4_acceptFigure_13 : decode cX4_acceptFigure 13 = .ok (.getfield 95, 3) := by decide +kernel
theorem dX4_acceptFigure_16 : decode cX4_acceptFigure 16 = .ok (.iconst 1, 1) := by decide +kernel
theorem dX4_acceptFigure_17 : decode cX4_acceptFigure 17 = .ok (.iadd, 1) := by decide +kernel
theorem dX4_acceptFigure_18 : decode cX4_acceptFigure 18 = .ok (.putfield 95, 3) := by decide +kernel
theorem dX4_acceptFigure_21 : decode cX4_acceptFigure 21 = .ok (.aload_n 0, 1) := by decide +kernel
theorem dX4_acceptFigure_22 : decode cX4_acceptFigure 22 = .ok (.bipush 10, 2) := by decide +kernel
theorem dX4_acceptFigure_24 : decode cX4_acceptFigure 24 = .ok (.aload_n 0, 1) := by decide +kernel
theorem dX4_acceptFigure_25 : decode cX4_acceptFigure 25 = .ok (.getfield 92, 3) := by decide +kernel
theorem dX4_acceptFigure_28 : decode cX4_acceptFigure 28 = .ok (.imul, 1) := by decide +kernel
theorem dX4_acceptFigure_29 : decode cX4_acceptFigure 29 = .ok (.iload_n 1, 1) := by decide +kernel
theorem dX4_acceptFigure_30 : decode cX4_acceptFigure 30 = .ok (.iadd, 1) := by decide +kernel
theorem dX4_acceptFigure_31 : decode cX4_acceptFigure 31 = .ok (.bipush 48, 2) := by decide +kernel
theorem dX4_acceptFigure_33 : decode cX4_acceptFigure 33 = .ok (.isub, 1) := by decide +kernel
theorem dX4_acceptFigure_34 : decode cX4_acceptFigure 34 = .ok (.putfield 92, 3) := by decide +kernel
theorem dX4_acceptFigure_37 : decode cX4_acceptFigure 37 = .ok (.aload_n 0, 1) := by decide +kernel
theorem dX4_acceptFigure_38 : decode cX4_acceptFigure 38 = .ok (.iconst 3, 1) := by decide +kernel
theorem dX4_acceptFigure_39 : decode cX4_acceptFigure 39 = .ok (.putfield 22, 3) := by decide +kernel
theorem dX4_acceptFigure_42 : decode cX4_acceptFigure 42 = .ok (.iconst 1, 1) := by decide +kernel
theorem dX4_acceptFigure_43 : decode cX4_acceptFigure 43 = .ok (.ireturn, 1) := by decide +kernel
theorem dX4_endNumber_0 : decode cX4_endNumber 0 = .ok (.aload_n 0, 1) := by decide +kernel
theorem dX4_endNumber_1 : decode cX4_endNumber 1 = .ok (.getfield 18, 3) := by decide +kernel
theorem dX4_endNumber_4 : decode cX4_endNumber 4 = .ok (.iconst 4, 1) := by decide +kernel
theorem dX4_endNumber_5 : decode cX4_endNumber 5 = .ok (.imul, 1) := by decide +kernel
theorem dX4_endNumber_6 : decode cX4_endNumber 6 = .ok (.aload_n 0, 1) := by decide +kernel
theorem dX4_endNumber_7 : decode cX4_endNumber 7 = .ok (.getfield 85, 3) := by decide +kernel
theorem dX4_endNumber_10 : decode cX4_endNumber 10 = .ok (.iadd, 1) := by decide +kernel
theorem dX4_endNumber_11 : decode cX4_endNumber 11 = .ok (.istore_n 1, 1) := by decide +kernel
theorem dX4_endNumber_12 : decode cX4_endNumber 12 = .ok (.iload_n 1, 1) := by decide +kernel
theorem dX4_endNumber_13 : decode cX4_endNumber 13 = .ok (.iconst 0, 1) := by decide +kernel
theorem dX4_endNumber_14 : decode cX4_endNumber 14 = .ok (.sipush 159, 3) := by decide +kernel
theorem dX4_endNumber_17 : decode cX4_endNumber 17 = .ok (.invokestatic 36, 3) := by decide +kernel
theorem dX4_endNumber_20 : decode cX4_endNumber 20 = .ok (.ifCond .eq 28, 3) := by decide +kernel
theorem dX4_endNumber_23 : decode cX4_endNumber 23 = .ok (.aload_n 0, 1) := by decide +kernel
theorem dX4_endNumber_24 : decode cX4_endNumber 24 = .ok (.getfield 15, 3) := by decide +kernel
theorem dX4_endNumber_27 : decode cX4_endNumber 27 = .ok (.iload_n 1, 1) := by decide +kernel
theorem dX4_endNumber_28 : decode cX4_endNumber 28 = .ok (.aload_n 0, 1) := by decide +kernel
theorem dX4_endNumber_29 : decode cX4_endNumber 29 = .ok (.getfield 98, 3) := by decide +kernel
theorem dX4_endNumber_32 : decode cX4_endNumber 32 = .ok (.ifCond .eq 11, 3) := by decide +kernel
theorem dX4_endNumber_35 : decode cX4_endNumber 35 = .ok (.aload_n 0, 1) := by decide +kernel
theorem dX4_endNumber_36 : decode cX4_endNumber 36 = .ok (.getfield 92, 3) := by decide +kernel
theorem dX4_endNumber_39 : decode cX4_endNumber 39 = .ok (.ineg, 1) := by decide +kernel
theorem dX4_endNumber_40 : decode cX4_endNumber 40 = .ok (.goto 7, 3) := by decide +kernel
theorem dX4_endNumber_43 : decode cX4_endNumber 43 = .ok (.aload_n 0, 1) := by decide +kernel
theorem dX4_endNumber_44 : decode cX4_endNumber 44 = .ok (.getfield 92, 3) := by decide +kernel
theorem dX4_endNumber_47 : decode cX4_endNumber 47 = .ok (.iastore, 1) := by decide +kernel
theorem dX4_endNumber_48 : decode cX4_endNumber 48 = .ok (.aload_n 0, 1) := by decide +kernel
theorem dX4_endNumber_49 : decode cX4_endNumber 49 = .ok (.dup, 1) := by decide +kernel
theorem dX4_endNumber_50 : decode cX4_endNumber 50 = .ok (.getfield 85, 3) := by decide +kernel
theorem dX4_endNumber_53 : decode cX4_endNumber 53 = .ok (.iconst 1, 1) := by decide +kernel
theorem dX4_endNumber_54 : decode cX4_endNumber 54 = .ok (.iadd, 1) := by decide +kernel
theorem dX4_endNumber_55 : decode cX4_endNumber 55 = .ok (.putfield 85, 3) := by decide +kernel
theorem dX4_endNumber_58 : decode cX4_endNumber 58 = .ok (.aload_n 0, 1) := by decide +kernel
theorem dX4_endNumber_59 : decode cX4_endNumber 59 = .ok (.iconst 1, 1) := by decide +kernel
theorem dX4_endNumber_60 : decode cX4_endNumber 60 = .ok (.putfield 22, 3) := by decide +kernel
theorem dX4_endNumber_63 : decode cX4_endNumber 63 = .ok (.return_, 1) := by decide +kernel
theorem dX4_endOrder_0 : decode cX4_endOrder 0 = .ok (.aload_n 0, 1) := by decide +kernel
theorem dX4_endOrder_1 : decode cX4_endOrder 1 = .ok (.getfield 18, 3) := by decide +kernel
theorem dX4_endOrder_4 : decode cX4_endOrder 4 = .ok (.iconst 0, 1) := by decide +kernel
theorem dX4_endOrder_5 : decode cX4_endOrder 5 = .ok (.bipush 39, 2) := by decide +kernel
theorem dX4_endOrder_7 : decode cX4_endOrder 7 = .ok (.invokestatic 36, 3) := by decide +kernel
theorem dX4_endOrder_10 : decode cX4_endOrder 10 = .ok (.ifCond .ne 5, 3) := by decide +kernel
theorem dX4_endOrder_13 : decode cX4_endOrder 13 = .ok (.iconst 0, 1) := by decide +kernel
theorem dX4_endOrder_14 : decode cX4_endOrder 14 = .ok (.ireturn, 1) := by decide +kernel
theorem dX4_endOrder_15 : decode cX4_endOrder 15 = .ok (.aload_n 0, 1) := by decide +kernel
theorem dX4_endOrder_16 : decode cX4_endOrder 16 = .ok (.getfield 9, 3) := by decide +kernel
theorem dX4_endOrder_19 : decode cX4_endOrder 19 = .ok (.aload_n 0, 1) := by decide +kernel
theorem dX4_endOrder_20 : decode cX4_endOrder 20 = .ok (.getfield 18, 3) := by decide +kernel
theorem dX4_endOrder_23 : decode cX4_endOrder 23 = .ok (.aload_n 0, 1) := by decide +kernel
theorem dX4_endOrder_24 : decode cX4_endOrder 24 = .ok (.getfield 82, 3) := by decide +kernel
theorem dX4_endOrder_27 : decode cX4_endOrder 27 = .ok (.iastore, 1) := by decide +kernel
theorem dX4_endOrder_28 : decode cX4_endOrder 28 = .ok (.aload_n 0, 1) := by decide +kernel
theorem dX4_endOrder_29 : decode cX4_endOrder 29 = .ok (.dup, 1) := by decide +kernel
theorem dX4_endOrder_30 : decode cX4_endOrder 30 = .ok (.getfield 18, 3) := by decide +kernel
theorem dX4_endOrder_33 : decode cX4_endOrder 33 = .ok (.iconst 1, 1) := by decide +kernel
theorem dX4_endOrder_34 : decode cX4_endOrder 34 = .ok (.iadd, 1) := by decide +kernel
theorem dX4_endOrder_35 : decode cX4_endOrder 35 = .ok (.putfield 18, 3) := by decide +kernel
theorem dX4_endOrder_38 : decode cX4_endOrder 38 = .ok (.aload_n 0, 1) := by decide +kernel
theorem dX4_endOrder_39 : decode cX4_endOrder 39 = .ok (.iconst 0, 1) := by decide +kernel
theorem dX4_endOrder_40 : decode cX4_endOrder 40 = .ok (.putfield 22, 3) := by decide +kernel
theorem dX4_endOrder_43 : decode cX4_endOrder 43 = .ok (.iconst 1, 1) := by decide +kernel
theorem dX4_endOrder_44 : decode cX4_endOrder 44 = .ok (.ireturn, 1) := by decide +kernel
theorem dX4_isFigure_0 : decode cX4_isFigure 0 = .ok (.iload_n 0, 1) := by decide +kernel
theorem dX4_isFigure_1 : decode cX4_isFigure 1 = .ok (.bipush 48, 2) := by decide +kernel
theorem dX4_isFigure_3 : decode cX4_isFigure 3 = .ok (.if_icmp .lt 13, 3) := by decide +kernel
theorem dX4_isFigure_6 : decode cX4_isFigure 6 = .ok (.iload_n 0, 1) := by decide +kernel
theorem dX4_isFigure_7 : decode cX4_isFigure 7 = .ok (.bipush 57, 2) := by decide +kernel
theorem dX4_isFigure_9 : decode cX4_isFigure 9 = .ok (.if_icmp .gt 7, 3) := by decide +kernel
theorem dX4_isFigure_12 : decode cX4_isFigure 12 = .ok (.iconst 1, 1) := by decide +kernel
theorem dX4_isFigure_13 : decode cX4_isFigure 13 = .ok (.goto 4, 3) := by decide +kernel
theorem dX4_isFigure_16 : decode cX4_isFigure 16 = .ok (.iconst 0, 1) := by decide +kernel
theorem dX4_isFigure_17 : decode cX4_isFigure 17 = .ok (.ireturn, 1) := by decide +kernel
theorem dX5_init_0 : decode cX5_init 0 = .ok (.aload_n 0, 1) := by decide +kernel
theorem dX5_init_1 : decode cX5_init 1 = .ok (.invokespecial 3, 3) := by decide +kernel
theorem dX5_init_4 : decode cX5_init 4 = .ok (.aload_n 0, 1) := by decide +kernel
theorem dX5_init_5 : decode cX5_init 5 = .ok (.bipush 8, 2) := by decide +kernel
theorem dX5_init_7 : decode cX5_init 7 = .ok (.putfield 9, 3) := by decide +kernel
theorem dX5_init_10 : decode cX5_init 10 = .ok (.aload_n 0, 1) := by decide +kernel
theorem dX5_init_11 : decode cX5_init 11 = .ok (.bipush 12, 2) := by decide +kernel
theorem dX5_init_13 : decode cX5_init 13 = .ok (.putfield 15, 3) := by decide +kernel
theorem dX5_init_16 : decode cX5_init 16 = .ok (.aload_n 0, 1) := by decide +kernel
theorem dX5_init_17 : decode cX5_init 17 = .ok (.sipush 192, 3) := by decide +kernel
theorem dX5_init_20 : decode cX5_init 20 = .ok (.newarray .int, 2) := by decide +kernel
theorem dX5_init_22 : decode cX5_init 22 = .ok (.putfield 18, 3) := by decide +kernel
theorem dX5_init_25 : decode cX5_init 25 = .ok (.aload_n 0, 1) := by decide +kernel
theorem dX5_init_26 : decode cX5_init 26 = .ok (.sipush 192, 3) := by decide +kernel
theorem dX5_init_29 : decode cX5_init 29 = .ok (.newarray .int, 2) := by decide +kernel
theorem dX5_init_31 : decode cX5_init 31 = .ok (.putfield 22, 3) := by decide +kernel
theorem dX5_init_34 : decode cX5_init 34 = .ok (.aload_n 0, 1) := by decide +kernel
theorem dX5_init_35 : decode cX5_init 35 = .ok (.bipush 6, 2) := by decide +kernel
theorem dX5_init_37 : decode cX5_init 37 = .ok (.newarray .int, 2) := by decide +kernel
theorem dX5_init_39 : decode cX5_init 39 = .ok (.putfield 25, 3) := by decide +kernel
theorem dX5_init_42 : decode cX5_init 42 = .ok (.aload_n 0, 1) := by decide +kernel
theorem dX5_init_43 : decode cX5_init 43 = .ok (.bipush 6, 2) := by decide +kernel
theorem dX5_init_45 : decode cX5_init 45 = .ok (.newarray .int, 2) := by decide +kernel
theorem dX5_init_47 : decode cX5_init 47 = .ok (.putfield 28, 3) := by decide +kernel
theorem dX5_init_50 : decode cX5_init 50 = .ok (.aload_n 0, 1) := by decide +kernel
theorem dX5_init_51 : decode cX5_init 51 = .ok (.bipush 6, 2) := by decide +kernel
theorem dX5_init_53 : decode cX5_init 53 = .ok (.newarray .int, 2) := by decide +kernel
theorem dX5_init_55 : decode cX5_init 55 = .ok (.putfield 31, 3) := by decide +kernel
theorem dX5_init_58 : decode cX5_init 58 = .ok (.return_, 1) := by decide +kernel
theorem dX5_copyFrom_0 : decode cX5_copyFrom 0 = .ok (.aload_n 0, 1) := by decide +kernel
theorem dX5_copyFrom_1 : decode cX5_copyFrom 1 = .ok (.aload_n 1, 1) := by decide +kernel
theorem dX5_copyFrom_2 : decode cX5_copyFrom 2 = .ok (.getfield 34, 3) := by decide +kernel
theorem dX5_copyFrom_5 : decode cX5_copyFrom 5 = .ok (.putfield 34, 3) := by decide +kernel
theorem dX5_copyFrom_8 : decode cX5_copyFrom 8 = .ok (.aload_n 0, 1) := by decide +kernel
theorem dX5_copyFrom_9 : decode cX5_copyFrom 9 = .ok (.aload_n 1, 1) := by decide +kernel
theorem dX5_copyFrom_10 : decode cX5_copyFrom 10 = .ok (.getfield 37, 3) := by decide +kernel
theorem dX5_copyFrom_13 : decode cX5_copyFrom 13 = .ok (.putfield 37, 3) := by decide +kernel
theorem dX5_copyFrom_16 : decode cX5_copyFrom 16 = .ok (.aload_n 0, 1) := by decide +kernel
theorem dX5_copyFrom_17 : decode cX5_copyFrom 17 = .ok (.aload_n 1, 1) := by decide +kernel
theorem dX5_copyFrom_18 : decode cX5_copyFrom 18 = .ok (.getfield 9, 3) := by decide +kernel
theorem dX5_copyFrom_21 : decode cX5_copyFrom 21 = .ok (.putfield 9, 3) := by decide +kernel
theorem dX5_copyFrom_24 : decode cX5_copyFrom 24 = .ok (.aload_n 0, 1) := by decide +kernel
theorem dX5_copyFrom_25 : decode cX5_copyFrom 25 = .ok (.aload_n 1, 1) := by decide +kernel
theorem dX5_copyFrom_26 : decode cX5_copyFrom 26 = .ok (.getfield 15, 3) := by decide +kernel
theorem dX5_copyFrom_29 : decode cX5_copyFrom 29 = .ok (.putfield 15, 3) := by decide +kernel
theorem dX5_copyFrom_32 : decode cX5_copyFrom 32 = .ok (.aload_n 1, 1) := by decide +kernel
theorem dX5_copyFrom_33 : decode cX5_copyFrom 33 = .ok (.getfield 18, 3) := by decide +kernel
theorem dX5_copyFrom_36 : decode cX5_copyFrom 36 = .ok (.iconst 0, 1) := by decide +kernel
theorem dX5_copyFrom_37 : decode cX5_copyFrom 37 = .ok (.aload_n 0, 1) := by decide +kernel
theorem dX5_copyFrom_38 : decode cX5_copyFrom 38 = .ok (.getfield 18, 3) := by decide +kernel
theorem dX5_copyFrom_41 : decode cX5_copyFrom 41 = .ok (.iconst 0, 1) := by decide +kernel
theorem dX5_copyFrom_42 : decode cX5_copyFrom 42 = .ok (.sipush 192, 3) := by decide +kernel
theorem dX5_copyFrom_45 : decode cX5_copyFrom 45 = .ok (.invokestatic 40, 3) := by decide +kernel
theorem dX5_copyFrom_48 : decode cX5_copyFrom 48 = .ok (.aload_n 1, 1) := by decide +kernel
theorem dX5_copyFrom_49 : decode cX5_copyFrom 49 = .ok (.getfield 22, 3) := by decide +kernel
theorem dX5_copyFrom_52 : decode cX5_copyFrom 52 = .ok (.iconst 0, 1) := by decide +kernel
theorem dX5_copyFrom_53 : decode cX5_copyFrom 53 = .ok (.aload_n 0, 1) := by decide +kernel
theorem dX5_copyFrom_54 : decode cX5_copyFrom 54 = .ok (.getfield 22, 3) := by decide +kernel
theorem dX5_copyFrom_57 : decode cX5_copyFrom 57 = .ok (.iconst 0, 1) := by decide +kernel
theorem dX5_copyFrom_58 : decode cX5_copyFrom 58 = .ok (.sipush 192, 3) := by decide +kernel
theorem dX5_copyFrom_61 : decode cX5_copyFrom 61 = .ok (.invokestatic 40, 3) := by decide +kernel
theorem dX5_copyFrom_64 : decode cX5_copyFrom 64 = .ok (.aload_n 1, 1) := by decide +kernel
theorem dX5_copyFrom_65 : decode cX5_copyFrom 65 = .ok (.getfield 25, 3) := by decide +kernel
theorem dX5_copyFrom_68 : decode cX5_copyFrom 68 = .ok (.iconst 0, 1) := by decide +kernel
theorem dX5_copyFrom_69 : decode cX5_copyFrom 69 = .ok (.aload_n 0, 1) := by decide +kernel
theorem dX5_copyFrom_70 : decode cX5_copyFrom 70 = .ok (.getfield 25, 3) := by decide +kernel
theorem dX5_copyFrom_73 : decode cX5_copyFrom 73 = .ok (.iconst 0, 1) := by decide +kernel
theorem dX5_copyFrom_74 : decode cX5_copyFrom 74 = .ok (.bipush 6, 2) := by decide +kernel
theorem dX5_copyFrom_76 : decode cX5_copyFrom 76 = .ok (.invokestatic 40, 3) := by decide +kernel
theorem dX5_copyFrom_79 : decode cX5_copyFrom 79 = .ok (.aload_n 1, 1) := by decide +kernel
theorem dX5_copyFrom_80 : decode cX5_copyFrom 80 = .ok (.getfield 28, 3) := by decide +kernel
theorem dX5_copyFrom_83 : decode cX5_copyFrom 83 = .ok (.iconst 0, 1) := by decide +kernel
theorem dX5_copyFrom_84 : decode cX5_copyFrom 84 = .ok (.aload_n 0, 1) := by decide +kernel
theorem dX5_copyFrom_85 : decode cX5_copyFrom 85 = .ok (.getfield 28, 3) := by decide +kernel
theorem dX5_copyFrom_88 : decode cX5_copyFrom 88 = .ok (.iconst 0, 1) := by decide +kernel
theorem dX5_copyFrom_89 : decode cX5_copyFrom 89 = .ok (.bipush 6, 2) := by decide +kernel
theorem dX5_copyFrom_91 : decode cX5_copyFrom 91 = .ok (.invokestatic 40, 3) := by decide +kernel
theorem dX5_copyFrom_94 : decode cX5_copyFrom 94 = .ok (.aload_n 1, 1) := by decide +kernel
theorem dX5_copyFrom_95 : decode cX5_copyFrom 95 = .ok (.getfield 31, 3) := by decide +kernel
theorem dX5_copyFrom_98 : decode cX5_copyFrom 98 = .ok (.iconst 0, 1) := by decide +kernel
theorem dX5_copyFrom_99 : decode cX5_copyFrom 99 = .ok (.aload_n 0, 1) := by decide +kernel
theorem dX5_copyFrom_100 : decode cX5_copyFrom 100 = .ok (.getfield 31, 3) := by decide +kernel
theorem dX5_copyFrom_103 : decode cX5_copyFrom 103 = .ok (.iconst 0, 1) := by decide +kernel
theorem dX5_copyFrom_104 : decode cX5_copyFrom 104 = .ok (.bipush 6, 2) := by decide +kernel
theorem dX5_copyFrom_106 : decode cX5_copyFrom 106 = .ok (.invokestatic 40, 3) := by decide +kernel
theorem dX5_copyFrom_109 : decode cX5_copyFrom 109 = .ok (.return_, 1) := by decide +kernel
theorem dX5_hasDot_0 : decode cX5_hasDot 0 = .ok (.iload_n 1, 1) := by decide +kernel
theorem dX5_hasDot_1 : decode cX5_hasDot 1 = .ok (.ifCond .lt 31, 3) := by decide +kernel
theorem dX5_hasDot_4 : decode cX5_hasDot 4 = .ok (.iload_n 1, 1) := by decide +kernel
theorem dX5_hasDot_5 : decode cX5_hasDot 5 = .ok (.bipush 6, 2) := by decide +kernel
theorem dX5_hasDot_7 : decode cX5_hasDot 7 = .ok (.if_icmp .ge 25, 3) := by decide +kernel
theorem dX5_hasDot_10 : decode cX5_hasDot 10 = .ok (.iload_n 2, 1) := by decide +kernel
theorem dX5_hasDot_11 : decode cX5_hasDot 11 = .ok (.ifCond .lt 21, 3) := by decide +kernel
theorem dX5_hasDot_14 : decode cX5_hasDot 14 = .ok (.iload_n 2, 1) := by decide +kernel
theorem dX5_hasDot_15 : decode cX5_hasDot 15 = .ok (.aload_n 0, 1) := by decide +kernel
theorem dX5_hasDot_16 : decode cX5_hasDot 16 = .ok (.getfield 34, 3) := by decide +kernel
theorem dX5_hasDot_19 : decode cX5_hasDot 19 = .ok (.if_icmp .ge 13, 3) := by decide +kernel
theorem dX5_hasDot_22 : decode cX5_hasDot 22 = .ok (.iload_n 2, 1) := by decide +kernel
theorem dX5_hasDot_23 : decode cX5_hasDot 23 = .ok (.bipush 32, 2) := by decide +kernel
theorem dX5_hasDot_25 : decode cX5_hasDot 25 = .ok (.if_icmp .ge 7, 3) := by decide +kernel
theorem dX5_hasDot_28 : decode cX5_hasDot 28 = .ok (.iconst 1, 1) := by decide +kernel
theorem dX5_hasDot_29 : decode cX5_hasDot 29 = .ok (.goto 4, 3) := by decide +kernel
theorem dX5_hasDot_32 : decode cX5_hasDot 32 = .ok (.iconst 0, 1) := by decide +kernel
theorem dX5_hasDot_33 : decode cX5_hasDot 33 = .ok (.ireturn, 1) := by decide +kernel
theorem dX5_dotAt_0 : decode cX5_dotAt 0 = .ok (.aload_n 0, 1) := by decide +kernel
theorem dX5_dotAt_1 : decode cX5_dotAt 1 = .ok (.iload_n 1, 1) := by decide +kernel
theorem dX5_dotAt_2 : decode cX5_dotAt 2 = .ok (.iload_n 2, 1) := by decide +kernel
theorem dX5_dotAt_3 : decode cX5_dotAt 3 = .ok (.invokevirtual 46, 3) := by decide +kernel
theorem dX5_dotAt_6 : decode cX5_dotAt 6 = .ok (.ifCond .eq 17, 3) := by decide +kernel
theorem dX5_dotAt_9 : decode cX5_dotAt 9 = .ok (.aload_n 0, 1) := by decide +kernel
theorem dX5_dotAt_10 : decode cX5_dotAt 10 = .ok (.getfield 18, 3) := by decide +kernel
theorem dX5_dotAt_13 : decode cX5_dotAt 13 = .ok (.iload_n 1, 1) := by decide +kernel
theorem dX5_dotAt_14 : decode cX5_dotAt 14 = .ok (.bipush 32, 2) := by decide +kernel
theorem dX5_dotAt_16 : decode cX5_dotAt 16 = .ok (.imul, 1) := by decide +kernel
theorem dX5_dotAt_17 : decode cX5_dotAt 17 = .ok (.iload_n 2, 1) := by decide +kernel
theorem dX5_dotAt_18 : decode cX5_dotAt 18 = .ok (.iadd, 1) := by decide +kernel
theorem dX5_dotAt_19 : decode cX5_dotAt 19 = .ok (.iaload, 1) := by decide +kernel
theorem dX5_dotAt_20 : decode cX5_dotAt 20 = .ok (.goto 4, 3) := by decide +kernel
theorem dX5_dotAt_23 : decode cX5_dotAt 23 = .ok (.iconst 0, 1) := by decide +kernel
theorem dX5_dotAt_24 : decode cX5_dotAt 24 = .ok (.ireturn, 1) := by decide +kernel
theorem dX5_hasPicture_0 : decode cX5_hasPicture 0 = .ok (.iload_n 1, 1) := by decide +kernel
theorem dX5_hasPicture_1 : decode cX5_hasPicture 1 = .ok (.ifCond .lt 21, 3) := by decide +kernel
theorem dX5_hasPicture_4 : decode cX5_hasPicture 4 = .ok (.iload_n 1, 1) := by decide +kernel
theorem dX5_hasPicture_5 : decode cX5_hasPicture 5 = .ok (.aload_n 0, 1) := by decide +kernel
theorem dX5_hasPicture_6 : decode cX5_hasPicture 6 = .ok (.getfield 37, 3) := by decide +kernel
theorem dX5_hasPicture_9 : decode cX5_hasPicture 9 = .ok (.if_icmp .ge 13, 3) := by decide +kernel
theorem dX5_hasPicture_12 : decode cX5_hasPicture 12 = .ok (.iload_n 1, 1) := by decide +kernel
theorem dX5_hasPicture_13 : decode cX5_hasPicture 13 = .ok (.bipush 6, 2) := by decide +kernel
theorem dX5_hasPicture_15 : decode cX5_hasPicture 15 = .ok (.if_icmp .ge 7, 3) := by decide +kernel
theorem dX5_hasPicture_18 : decode cX5_hasPicture 18 = .ok (.iconst 1, 1) := by decide +kernel
theorem dX5_hasPicture_19 : decode cX5_hasPicture 19 = .ok (.goto 4, 3) := by decide +kernel
theorem dX5_hasPicture_22 : decode cX5_hasPicture 22 = .ok (.iconst 0, 1) := by decide +kernel
theorem dX5_hasPicture_23 : decode cX5_hasPicture 23 = .ok (.ireturn, 1) := by decide +kernel
theorem dX5_hasCell_0 : decode cX5_hasCell 0 = .ok (.iload_n 1, 1) := by decide +kernel
theorem dX5_hasCell_1 : decode cX5_hasCell 1 = .ok (.ifCond .lt 40, 3) := by decide +kernel
theorem dX5_hasCell_4 : decode cX5_hasCell 4 = .ok (.iload_n 1, 1) := by decide +kernel
theorem dX5_hasCell_5 : decode cX5_hasCell 5 = .ok (.aload_n 0, 1) := by decide +kernel
theorem dX5_hasCell_6 : decode cX5_hasCell 6 = .ok (.getfield 37, 3) := by decide +kernel
theorem dX5_hasCell_9 : decode cX5_hasCell 9 = .ok (.if_icmp .ge 32, 3) := by decide +kernel
theorem dX5_hasCell_12 : decode cX5_hasCell 12 = .ok (.iload_n 1, 1) := by decide +kernel
theorem dX5_hasCell_13 : decode cX5_hasCell 13 = .ok (.bipush 6, 2) := by decide +kernel
theorem dX5_hasCell_15 : decode cX5_hasCell 15 = .ok (.if_icmp .ge 26, 3) := by decide +kernel
theorem dX5_hasCell_18 : decode cX5_hasCell 18 = .ok (.iload_n 2, 1) := by decide +kernel
theorem dX5_hasCell_19 : decode cX5_hasCell 19 = .ok (.ifCond .lt 22, 3) := by decide +kernel
theorem dX5_hasCell_22 : decode cX5_hasCell 22 = .ok (.iload_n 2, 1) := by decide +kernel
theorem dX5_hasCell_23 : decode cX5_hasCell 23 = .ok (.iconst 4, 1) := by decide +kernel
theorem dX5_hasCell_24 : decode cX5_hasCell 24 = .ok (.if_icmp .ge 17, 3) := by decide +kernel
theorem dX5_hasCell_27 : decode cX5_hasCell 27 = .ok (.iload_n 3, 1) := by decide +kernel
theorem dX5_hasCell_28 : decode cX5_hasCell 28 = .ok (.ifCond .lt 13, 3) := by decide +kernel
theorem dX5_hasCell_31 : decode cX5_hasCell 31 = .ok (.iload_n 3, 1) := by decide +kernel
theorem dX5_hasCell_32 : decode cX5_hasCell 32 = .ok (.bipush 8, 2) := by decide +kernel
theorem dX5_hasCell_34 : decode cX5_hasCell 34 = .ok (.if_icmp .ge 7, 3) := by decide +kernel
theorem dX5_hasCell_37 : decode cX5_hasCell 37 = .ok (.iconst 1, 1) := by decide +kernel
theorem dX5_hasCell_38 : decode cX5_hasCell 38 = .ok (.goto 4, 3) := by decide +kernel
theorem dX5_hasCell_41 : decode cX5_hasCell 41 = .ok (.iconst 0, 1) := by decide +kernel
theorem dX5_hasCell_42 : decode cX5_hasCell 42 = .ok (.ireturn, 1) := by decide +kernel
theorem dX5_cellAt_0 : decode cX5_cellAt 0 = .ok (.aload_n 0, 1) := by decide +kernel
theorem dX5_cellAt_1 : decode cX5_cellAt 1 = .ok (.iload_n 1, 1) := by decide +kernel
theorem dX5_cellAt_2 : decode cX5_cellAt 2 = .ok (.iload_n 2, 1) := by decide +kernel
theorem dX5_cellAt_3 : decode cX5_cellAt 3 = .ok (.iload_n 3, 1) := by decide +kernel
theorem dX5_cellAt_4 : decode cX5_cellAt 4 = .ok (.invokevirtual 50, 3) := by decide +kernel
theorem dX5_cellAt_7 : decode cX5_cellAt 7 = .ok (.ifCond .eq 22, 3) := by decide +kernel
theorem dX5_cellAt_10 : decode cX5_cellAt 10 = .ok (.aload_n 0, 1) := by decide +kernel
theorem dX5_cellAt_11 : decode cX5_cellAt 11 = .ok (.getfield 22, 3) := by decide +kernel
theorem dX5_cellAt_14 : decode cX5_cellAt 14 = .ok (.iload_n 1, 1) := by decide +kernel
theorem dX5_cellAt_15 : decode cX5_cellAt 15 = .ok (.bipush 32, 2) := by decide +kernel
theorem dX5_cellAt_17 : decode cX5_cellAt 17 = .ok (.imul, 1) := by decide +kernel
theorem dX5_cellAt_18 : decode cX5_cellAt 18 = .ok (.iload_n 2, 1) := by decide +kernel
theorem dX5_cellAt_19 : decode cX5_cellAt 19 = .ok (.bipush 8, 2) := by decide +kernel
theorem dX5_cellAt_21 : decode cX5_cellAt 21 = .ok (.imul, 1) := by decide +kernel
theorem dX5_cellAt_22 : decode cX5_cellAt 22 = .ok (.iadd, 1) := by decide +kernel
theorem dX5_cellAt_23 : decode cX5_cellAt 23 = .ok (.iload_n 3, 1) := by decide +kernel
theorem dX5_cellAt_24 : decode cX5_cellAt 24 = .ok (.iadd, 1) := by decide +kernel
theorem dX5_cellAt_25 : decode cX5_cellAt 25 = .ok (.iaload, 1) := by decide +kernel
theorem dX5_cellAt_26 : decode cX5_cellAt 26 = .ok (.goto 4, 3) := by decide +kernel
theorem dX5_cellAt_29 : decode cX5_cellAt 29 = .ok (.iconst 0, 1) := by decide +kernel
theorem dX5_cellAt_30 : decode cX5_cellAt 30 = .ok (.ireturn, 1) := by decide +kernel
theorem dX5_drawWorld_0 : decode cX5_drawWorld 0 = .ok (.iload_n 1, 1) := by decide +kernel
theorem dX5_drawWorld_1 : decode cX5_drawWorld 1 = .ok (.iconst 0, 1) := by decide +kernel
theorem dX5_drawWorld_2 : decode cX5_drawWorld 2 = .ok (.ldc 54, 2) := by decide +kernel
theorem dX5_drawWorld_4 : decode cX5_drawWorld 4 = .ok (.invokestatic 55, 3) := by decide +kernel
theorem dX5_drawWorld_7 : decode cX5_drawWorld 7 = .ok (.ifCond .eq 14, 3) := by decide +kernel
theorem dX5_drawWorld_10 : decode cX5_drawWorld 10 = .ok (.iload_n 2, 1) := by decide +kernel
theorem dX5_drawWorld_11 : decode cX5_drawWorld 11 = .ok (.bipush 12, 2) := by decide +kernel
theorem dX5_drawWorld_13 : decode cX5_drawWorld 13 = .ok (.bipush 32, 2) := by decide +kernel
theorem dX5_drawWorld_15 : decode cX5_drawWorld 15 = .ok (.invokestatic 55, 3) := by decide +kernel
theorem dX5_drawWorld_18 : decode cX5_drawWorld 18 = .ok (.ifCond .ne 6, 3) := by decide +kernel
theorem dX5_drawWorld_21 : decode cX5_drawWorld 21 = .ok (.bipush (-2), 2) := by decide +kernel
theorem dX5_drawWorld_23 : decode cX5_drawWorld 23 = .ok (.ireturn, 1) := by decide +kernel
theorem dX5_drawWorld_24 : decode cX5_drawWorld 24 = .ok (.aload_n 0, 1) := by decide +kernel
theorem dX5_drawWorld_25 : decode cX5_drawWorld 25 = .ok (.getfield 34, 3) := by decide +kernel
theorem dX5_drawWorld_28 : decode cX5_drawWorld 28 = .ok (.istore_n 3, 1) := by decide +kernel
theorem dX5_drawWorld_29 : decode cX5_drawWorld 29 = .ok (.aload_n 0, 1) := by decide +kernel
theorem dX5_drawWorld_30 : decode cX5_drawWorld 30 = .ok (.iload_n 2, 1) := by decide +kernel
theorem dX5_drawWorld_31 : decode cX5_drawWorld 31 = .ok (.putfield 34, 3) := by decide +kernel
theorem dX5_drawWorld_34 : decode cX5_drawWorld 34 = .ok (.iload_n 1, 1) := by decide +kernel
theorem dX5_drawWorld_35 : decode cX5_drawWorld 35 = .ok (.i2l, 1) := by decide +kernel
theorem dX5_drawWorld_36 : decode cX5_drawWorld 36 = .ok (.lstore 4, 2) := by decide +kernel
theorem dX5_drawWorld_38 : decode cX5_drawWorld 38 = .ok (.iconst 0, 1) := by decide +kernel
theorem dX5_drawWorld_39 : decode cX5_drawWorld 39 = .ok (.istore 6, 2) := by decide +kernel
theorem dX5_drawWorld_41 : decode cX5_drawWorld 41 = .ok (.iload 6, 2) := by decide +kernel
theorem dX5_drawWorld_43 : decode cX5_drawWorld 43 = .ok (.bipush 32, 2) := by decide +kernel
theorem dX5_drawWorld_45 : decode cX5_drawWorld 45 = .ok (.if_icmp .ge 71, 3) := by decide +kernel
theorem dX5_drawWorld_48 : decode cX5_drawWorld 48 = .ok (.iload 6, 2) := by decide +kernel
theorem dX5_drawWorld_50 : decode cX5_drawWorld 50 = .ok (.iload_n 2, 1) := by decide +kernel
theorem dX5_drawWorld_51 : decode cX5_drawWorld 51 = .ok (.if_icmp .ge 65, 3) := by decide +kernel
theorem dX5_drawWorld_54 : decode cX5_drawWorld 54 = .ok (.iconst 0, 1) := by decide +kernel
theorem dX5_drawWorld_55 : decode cX5_drawWorld 55 = .ok (.istore 7, 2) := by decide +kernel
theorem dX5_drawWorld_57 : decode cX5_drawWorld 57 = .ok (.iload 7, 2) := by decide +kernel
theorem dX5_drawWorld_59 : decode cX5_drawWorld 59 = .ok (.bipush 6, 2) := by decide +kernel
theorem dX5_drawWorld_61 : decode cX5_drawWorld 61 = .ok (.if_icmp .ge 49, 3) := by decide +kernel
theorem dX5_drawWorld_64 : decode cX5_drawWorld 64 = .ok (.lload 4, 2) := by decide +kernel
theorem dX5_drawWorld_66 : decode cX5_drawWorld 66 = .ok (.ldc2_w 58, 3) := by decide +kernel
theorem dX5_drawWorld_69 : decode cX5_drawWorld 69 = .ok (.lmul, 1) := by decide +kernel
theorem dX5_drawWorld_70 : decode cX5_drawWorld 70 = .ok (.ldc2_w 60, 3) := by decide +kernel
theorem dX5_drawWorld_73 : decode cX5_drawWorld 73 = .ok (.ladd, 1) := by decide +kernel
theorem dX5_drawWorld_74 : decode cX5_drawWorld 74 = .ok (.ldc2_w 62, 3) := by decide +kernel
theorem dX5_drawWorld_77 : decode cX5_drawWorld 77 = .ok (.lrem, 1) := by decide +kernel
theorem dX5_drawWorld_78 : decode cX5_drawWorld 78 = .ok (.lstore 4, 2) := by decide +kernel
theorem dX5_drawWorld_80 : decode cX5_drawWorld 80 = .ok (.aload_n 0, 1) := by decide +kernel
theorem dX5_drawWorld_81 : decode cX5_drawWorld 81 = .ok (.getfield 18, 3) := by decide +kernel
theorem dX5_drawWorld_84 : decode cX5_drawWorld 84 = .ok (.iload 7, 2) := by decide +kernel
theorem dX5_drawWorld_86 : decode cX5_drawWorld 86 = .ok (.bipush 32, 2) := by decide +kernel
theorem dX5_drawWorld_88 : decode cX5_drawWorld 88 = .ok (.imul, 1) := by decide +kernel
theorem dX5_drawWorld_89 : decode cX5_drawWorld 89 = .ok (.iload 6, 2) := by decide +kernel
theorem dX5_drawWorld_91 : decode cX5_drawWorld 91 = .ok (.iadd, 1) := by decide +kernel
theorem dX5_drawWorld_92 : decode cX5_drawWorld 92 = .ok (.lload 4, 2) := by decide +kernel
theorem dX5_drawWorld_94 : decode cX5_drawWorld 94 = .ok (.ldc2_w 64, 3) := by decide +kernel
theorem dX5_drawWorld_97 : decode cX5_drawWorld 97 = .ok (.ldiv, 1) := by decide +kernel
theorem dX5_drawWorld_98 : decode cX5_drawWorld 98 = .ok (.ldc2_w 66, 3) := by decide +kernel
theorem dX5_drawWorld_101 : decode cX5_drawWorld 101 = .ok (.lrem, 1) := by decide +kernel
theorem dX5_drawWorld_102 : decode cX5_drawWorld 102 = .ok (.l2i, 1) := by decide +kernel
theorem dX5_drawWorld_103 : decode cX5_drawWorld 103 = .ok (.iastore, 1) := by decide +kernel
theorem dX5_drawWorld_104 : decode cX5_drawWorld 104 = .ok (.iinc 7 1, 3) := by decide +kernel
theorem dX5_drawWorld_107 : decode cX5_drawWorld 107 = .ok (.goto (-50), 3) := by decide +kernel
theorem dX5_drawWorld_110 : decode cX5_drawWorld 110 = .ok (.iinc 6 1, 3) := by decide +kernel
theorem dX5_drawWorld_113 : decode cX5_drawWorld 113 = .ok (.goto (-72), 3) := by decide +kernel
theorem dX5_drawWorld_116 : decode cX5_drawWorld 116 = .ok (.iload_n 3, 1) := by decide +kernel
theorem dX5_drawWorld_117 : decode cX5_drawWorld 117 = .ok (.ireturn, 1) := by decide +kernel
theorem dX5_putDot_0 : decode cX5_putDot 0 = .ok (.aload_n 0, 1) := by decide +kernel
theorem dX5_putDot_1 : decode cX5_putDot 1 = .ok (.iload_n 1, 1) := by decide +kernel
theorem dX5_putDot_2 : decode cX5_putDot 2 = .ok (.iload_n 2, 1) := by decide +kernel
theorem dX5_putDot_3 : decode cX5_putDot 3 = .ok (.invokevirtual 46, 3) := by decide +kernel
theorem dX5_putDot_6 : decode cX5_putDot 6 = .ok (.ifCond .eq 13, 3) := by decide +kernel
theorem dX5_putDot_9 : decode cX5_putDot 9 = .ok (.iload_n 3, 1) := by decide +kernel
theorem dX5_putDot_10 : decode cX5_putDot 10 = .ok (.iconst 0, 1) := by decide +kernel
theorem dX5_putDot_11 : decode cX5_putDot 11 = .ok (.bipush 63, 2) := by decide +kernel
theorem dX5_putDot_13 : decode cX5_putDot 13 = .ok (.invokestatic 55, 3) := by decide +kernel
theorem dX5_putDot_16 : decode cX5_putDot 16 = .ok (.ifCond .ne 6, 3) := by decide +kernel
theorem dX5_putDot_19 : decode cX5_putDot 19 = .ok (.bipush (-2), 2) := by decide +kernel
theorem dX5_putDot_21 : decode cX5_putDot 21 = .ok (.ireturn, 1) := by decide +kernel
theorem dX5_putDot_22 : decode cX5_putDot 22 = .ok (.aload_n 0, 1) := by decide +kernel
theorem dX5_putDot_23 : decode cX5_putDot 23 = .ok (.getfield 18, 3) := by decide +kernel
theorem dX5_putDot_26 : decode cX5_putDot 26 = .ok (.iload_n 1, 1) := by decide +kernel
theorem dX5_putDot_27 : decode cX5_putDot 27 = .ok (.bipush 32, 2) := by decide +kernel
theorem dX5_putDot_29 : decode cX5_putDot 29 = .ok (.imul, 1) := by decide +kernel
theorem dX5_putDot_30 : decode cX5_putDot 30 = .ok (.iload_n 2, 1) := by decide +kernel
theorem dX5_putDot_31 : decode cX5_putDot 31 = .ok (.iadd, 1) := by decide +kernel
theorem dX5_putDot_32 : decode cX5_putDot 32 = .ok (.iaload, 1) := by decide +kernel
theorem dX5_putDot_33 : decode cX5_putDot 33 = .ok (.istore 4, 2) := by decide +kernel
theorem dX5_putDot_35 : decode cX5_putDot 35 = .ok (.aload_n 0, 1) := by decide +kernel
theorem dX5_putDot_36 : decode cX5_putDot 36 = .ok (.getfield 18, 3) := by decide +kernel
theorem dX5_putDot_39 : decode cX5_putDot 39 = .ok (.iload_n 1, 1) := by decide +kernel
theorem dX5_putDot_40 : decode cX5_putDot 40 = .ok (.bipush 32, 2) := by decide +kernel
theorem dX5_putDot_42 : decode cX5_putDot 42 = .ok (.imul, 1) := by decide +kernel
theorem dX5_putDot_43 : decode cX5_putDot 43 = .ok (.iload_n 2, 1) := by decide +kernel
theorem dX5_putDot_44 : decode cX5_putDot 44 = .ok (.iadd, 1) := by decide +kernel
theorem dX5_putDot_45 : decode cX5_putDot 45 = .ok (.iload_n 3, 1) := by decide +kernel
theorem dX5_putDot_46 : decode cX5_putDot 46 = .ok (.iastore, 1) := by decide +kernel
theorem dX5_putDot_47 : decode cX5_putDot 47 = .ok (.iload 4, 2) := by decide +kernel
theorem dX5_putDot_49 : decode cX5_putDot 49 = .ok (.ireturn, 1) := by decide +kernel
theorem dX5_takeShot_0 : decode cX5_takeShot 0 = .ok (.iload_n 1, 1) := by decide +kernel
theorem dX5_takeShot_1 : decode cX5_takeShot 1 = .ok (.iconst 0, 1) := by decide +kernel
theorem dX5_takeShot_2 : decode cX5_takeShot 2 = .ok (.aload_n 0, 1) := by decide +kernel
theorem dX5_takeShot_3 : decode cX5_takeShot 3 = .ok (.getfield 34, 3) := by decide +kernel
theorem dX5_takeShot_6 : decode cX5_takeShot 6 = .ok (.iconst 1, 1) := by decide +kernel
theorem dX5_takeShot_7 : decode cX5_takeShot 7 = .ok (.isub, 1) := by decide +kernel
theorem dX5_takeShot_8 : decode cX5_takeShot 8 = .ok (.invokestatic 55, 3) := by decide +kernel
theorem dX5_takeShot_11 : decode cX5_takeShot 11 = .ok (.ifCond .eq 23, 3) := by decide +kernel
theorem dX5_takeShot_14 : decode cX5_takeShot 14 = .ok (.iload_n 2, 1) := by decide +kernel
theorem dX5_takeShot_15 : decode cX5_takeShot 15 = .ok (.iconst 0, 1) := by decide +kernel
theorem dX5_takeShot_16 : decode cX5_takeShot 16 = .ok (.iconst 2, 1) := by decide +kernel
theorem dX5_takeShot_17 : decode cX5_takeShot 17 = .ok (.invokestatic 55, 3) := by decide +kernel
theorem dX5_takeShot_20 : decode cX5_takeShot 20 = .ok (.ifCond .eq 14, 3) := by decide +kernel
theorem dX5_takeShot_23 : decode cX5_takeShot 23 = .ok (.iload_n 3, 1) := by decide +kernel
theorem dX5_takeShot_24 : decode cX5_takeShot 24 = .ok (.bipush (-20), 2) := by decide +kernel
theorem dX5_takeShot_26 : decode cX5_takeShot 26 = .ok (.bipush 20, 2) := by decide +kernel
theorem dX5_takeShot_28 : decode cX5_takeShot 28 = .ok (.invokestatic 55, 3) := by decide +kernel
theorem dX5_takeShot_31 : decode cX5_takeShot 31 = .ok (.ifCond .ne 6, 3) := by decide +kernel
theorem dX5_takeShot_34 : decode cX5_takeShot 34 = .ok (.bipush (-2), 2) := by decide +kernel
theorem dX5_takeShot_36 : decode cX5_takeShot 36 = .ok (.ireturn, 1) := by decide +kernel
theorem dX5_takeShot_37 : decode cX5_takeShot 37 = .ok (.aload_n 0, 1) := by decide +kernel
theorem dX5_takeShot_38 : decode cX5_takeShot 38 = .ok (.getfield 37, 3) := by decide +kernel
theorem dX5_takeShot_41 : decode cX5_takeShot 41 = .ok (.istore 4, 2) := by decide +kernel
theorem dX5_takeShot_43 : decode cX5_takeShot 43 = .ok (.iload 4, 2) := by decide +kernel
theorem dX5_takeShot_45 : decode cX5_takeShot 45 = .ok (.ifCond .lt 10, 3) := by decide +kernel
theorem dX5_takeShot_48 : decode cX5_takeShot 48 = .ok (.iload 4, 2) := by decide +kernel
theorem dX5_takeShot_50 : decode cX5_takeShot 50 = .ok (.bipush 6, 2) := by decide +kernel
theorem dX5_takeShot_52 : decode cX5_takeShot 52 = .ok (.if_icmp .lt 6, 3) := by decide +kernel
theorem dX5_takeShot_55 : decode cX5_takeShot 55 = .ok (.bipush (-4), 2) := by decide +kernel
theorem dX5_takeShot_57 : decode cX5_takeShot 57 = .ok (.ireturn, 1) := by decide +kernel
theorem dX5_takeShot_58 : decode cX5_takeShot 58 = .ok (.aload_n 0, 1) := by decide +kernel
theorem dX5_takeShot_59 : decode cX5_takeShot 59 = .ok (.dup, 1) := by decide +kernel
theorem dX5_takeShot_60 : decode cX5_takeShot 60 = .ok (.getfield 37, 3) := by decide +kernel
theorem dX5_takeShot_63 : decode cX5_takeShot 63 = .ok (.iconst 1, 1) := by decide +kernel
theorem dX5_takeShot_64 : decode cX5_takeShot 64 = .ok (.iadd, 1) := by decide +kernel
theorem dX5_takeShot_65 : decode cX5_takeShot 65 = .ok (.putfield 37, 3) := by decide +kernel
theorem dX5_takeShot_68 : decode cX5_takeShot 68 = .ok (.aload_n 0, 1) := by decide +kernel
theorem dX5_takeShot_69 : decode cX5_takeShot 69 = .ok (.getfield 25, 3) := by decide +kernel
theorem dX5_takeShot_72 : decode cX5_takeShot 72 = .ok (.iload 4, 2) := by decide +kernel
theorem dX5_takeShot_74 : decode cX5_takeShot 74 = .ok (.iload_n 1, 1) := by decide +kernel
theorem dX5_takeShot_75 : decode cX5_takeShot 75 = .ok (.iastore, 1) := by decide +kernel
theorem dX5_takeShot_76 : decode cX5_takeShot 76 = .ok (.aload_n 0, 1) := by decide +kernel
theorem dX5_takeShot_77 : decode cX5_takeShot 77 = .ok (.getfield 28, 3) := by decide +kernel
theorem dX5_takeShot_80 : decode cX5_takeShot 80 = .ok (.iload 4, 2) := by decide +kernel
theorem dX5_takeShot_82 : decode cX5_takeShot 82 = .ok (.iload_n 2, 1) := by decide +kernel
theorem dX5_takeShot_83 : decode cX5_takeShot 83 = .ok (.iastore, 1) := by decide +kernel
theorem dX5_takeShot_84 : decode cX5_takeShot 84 = .ok (.aload_n 0, 1) := by decide +kernel
theorem dX5_takeShot_85 : decode cX5_takeShot 85 = .ok (.getfield 31, 3) := by decide +kernel
theorem dX5_takeShot_88 : decode cX5_takeShot 88 = .ok (.iload 4, 2) := by decide +kernel
theorem dX5_takeShot_90 : decode cX5_takeShot 90 = .ok (.aload_n 0, 1) := by decide +kernel
theorem dX5_takeShot_91 : decode cX5_takeShot 91 = .ok (.getfield 34, 3) := by decide +kernel
theorem dX5_takeShot_94 : decode cX5_takeShot 94 = .ok (.iastore, 1) := by decide +kernel
theorem dX5_takeShot_95 : decode cX5_takeShot 95 = .ok (.iconst 0, 1) := by decide +kernel
theorem dX5_takeShot_96 : decode cX5_takeShot 96 = .ok (.istore 5, 2) := by decide +kernel
theorem dX5_takeShot_98 : decode cX5_takeShot 98 = .ok (.iload 5, 2) := by decide +kernel
theorem dX5_takeShot_100 : decode cX5_takeShot 100 = .ok (.iconst 4, 1) := by decide +kernel
theorem dX5_takeShot_101 : decode cX5_takeShot 101 = .ok (.if_icmp .ge 94, 3) := by decide +kernel
theorem dX5_takeShot_104 : decode cX5_takeShot 104 = .ok (.iconst 0, 1) := by decide +kernel
theorem dX5_takeShot_105 : decode cX5_takeShot 105 = .ok (.istore 6, 2) := by decide +kernel
theorem dX5_takeShot_107 : decode cX5_takeShot 107 = .ok (.iload 6, 2) := by decide +kernel
theorem dX5_takeShot_109 : decode cX5_takeShot 109 = .ok (.bipush 8, 2) := by decide +kernel
theorem dX5_takeShot_111 : decode cX5_takeShot 111 = .ok (.if_icmp .ge 78, 3) := by decide +kernel
theorem dX5_takeShot_114 : decode cX5_takeShot 114 = .ok (.aload_n 0, 1) := by decide +kernel
theorem dX5_takeShot_115 : decode cX5_takeShot 115 = .ok (.iload_n 2, 1) := by decide +kernel
theorem dX5_takeShot_116 : decode cX5_takeShot 116 = .ok (.iload 5, 2) := by decide +kernel
theorem dX5_takeShot_118 : decode cX5_takeShot 118 = .ok (.iadd, 1) := by decide +kernel
theorem dX5_takeShot_119 : decode cX5_takeShot 119 = .ok (.iload_n 1, 1) := by decide +kernel
theorem dX5_takeShot_120 : decode cX5_takeShot 120 = .ok (.iload 6, 2) := by decide +kernel
theorem dX5_takeShot_122 : decode cX5_takeShot 122 = .ok (.iadd, 1) := by decide +kernel
theorem dX5_takeShot_123 : decode cX5_takeShot 123 = .ok (.aload_n 0, 1) := by decide +kernel
theorem dX5_takeShot_124 : decode cX5_takeShot 124 = .ok (.getfield 34, 3) := by decide +kernel
theorem dX5_takeShot_127 : decode cX5_takeShot 127 = .ok (.if_icmp .ge 10, 3) := by decide +kernel
theorem dX5_takeShot_130 : decode cX5_takeShot 130 = .ok (.iload_n 1, 1) := by decide +kernel
theorem dX5_takeShot_131 : decode cX5_takeShot 131 = .ok (.iload 6, 2) := by decide +kernel
theorem dX5_takeShot_133 : decode cX5_takeShot 133 = .ok (.iadd, 1) := by decide +kernel
theorem dX5_takeShot_134 : decode cX5_takeShot 134 = .ok (.goto 12, 3) := by decide +kernel
theorem dX5_takeShot_137 : decode cX5_takeShot 137 = .ok (.iload_n 1, 1) := by decide +kernel
theorem dX5_takeShot_138 : decode cX5_takeShot 138 = .ok (.iload 6, 2) := by decide +kernel
theorem dX5_takeShot_140 : decode cX5_takeShot 140 = .ok (.iadd, 1) := by decide +kernel
theorem dX5_takeShot_141 : decode cX5_takeShot 141 = .ok (.aload_n 0, 1) := by decide +kernel
theorem dX5_takeShot_142 : decode cX5_takeShot 142 = .ok (.getfield 34, 3) := by decide +kernel
theorem dX5_takeShot_145 : decode cX5_takeShot 145 = .ok (.isub, 1) := by decide +kernel
theorem dX5_takeShot_146 : decode cX5_takeShot 146 = .ok (.invokevirtual 68, 3) := by decide +kernel
theorem dX5_takeShot_149 : decode cX5_takeShot 149 = .ok (.istore 7, 2) := by decide +kernel
theorem dX5_takeShot_151 : decode cX5_takeShot 151 = .ok (.aload_n 0, 1) := by decide +kernel
theorem dX5_takeShot_152 : decode cX5_takeShot 152 = .ok (.getfield 22, 3) := by decide +kernel
theorem dX5_takeShot_155 : decode cX5_takeShot 155 = .ok (.iload 4, 2) := by decide +kernel
theorem dX5_takeShot_157 : decode cX5_takeShot 157 = .ok (.bipush 32, 2) := by decide +kernel
theorem dX5_takeShot_159 : decode cX5_takeShot 159 = .ok (.imul, 1) := by decide +kernel
theorem dX5_takeShot_160 : decode cX5_takeShot 160 = .ok (.iload 5, 2) := by decide +kernel
theorem dX5_takeShot_162 : decode cX5_takeShot 162 = .ok (.bipush 8, 2) := by decide +kernel
theorem dX5_takeShot_164 : decode cX5_takeShot 164 = .ok (.imul, 1) := by decide +kernel
theorem dX5_takeShot_165 : decode cX5_takeShot 165 = .ok (.iadd, 1) := by decide +kernel
theorem dX5_takeShot_166 : decode cX5_takeShot 166 = .ok (.iload 6, 2) := by decide +kernel
theorem dX5_takeShot_168 : decode cX5_takeShot 168 = .ok (.iadd, 1) := by decide +kernel
theorem dX5_takeShot_169 : decode cX5_takeShot 169 = .ok (.iconst 0, 1) := by decide +kernel
theorem dX5_takeShot_170 : decode cX5_takeShot 170 = .ok (.bipush 63, 2) := by decide +kernel
theorem dX5_takeShot_172 : decode cX5_takeShot 172 = .ok (.iload 7, 2) := by decide +kernel
theorem dX5_takeShot_174 : decode cX5_takeShot 174 = .ok (.iload_n 3, 1) := by decide +kernel
theorem dX5_takeShot_175 : decode cX5_takeShot 175 = .ok (.iadd, 1) := by decide +kernel
theorem dX5_takeShot_176 : decode cX5_takeShot 176 = .ok (.invokestatic 72, 3) := by decide +kernel
theorem dX5_takeShot_179 : decode cX5_takeShot 179 = .ok (.invokestatic 77, 3) := by decide +kernel
theorem dX5_takeShot_182 : decode cX5_takeShot 182 = .ok (.iastore, 1) := by decide +kernel
theorem dX5_takeShot_183 : decode cX5_takeShot 183 = .ok (.iinc 6 1, 3) := by decide +kernel
theorem dX5_takeShot_186 : decode cX5_takeShot 186 = .ok (.goto (-79), 3) := by decide +kernel
theorem dX5_takeShot_189 : decode cX5_takeShot 189 = .ok (.iinc 5 1, 3) := by decide +kernel
theorem dX5_takeShot_192 : decode cX5_takeShot 192 = .ok (.goto (-94), 3) := by decide +kernel
theorem dX5_takeShot_195 : decode cX5_takeShot 195 = .ok (.iload 4, 2) := by decide +kernel
theorem dX5_takeShot_197 : decode cX5_takeShot 197 = .ok (.ireturn, 1) := by decide +kernel
theorem dX5_putCell_0 : decode cX5_putCell 0 = .ok (.aload_n 0, 1) := by decide +kernel
theorem dX5_putCell_1 : decode cX5_putCell 1 = .ok (.iload_n 1, 1) := by decide +kernel
theorem dX5_putCell_2 : decode cX5_putCell 2 = .ok (.iload_n 2, 1) := by decide +kernel
theorem dX5_putCell_3 : decode cX5_putCell 3 = .ok (.iload_n 3, 1) := by decide +kernel
theorem dX5_putCell_4 : decode cX5_putCell 4 = .ok (.invokevirtual 50, 3) := by decide +kernel
theorem dX5_putCell_7 : decode cX5_putCell 7 = .ok (.ifCond .eq 14, 3) := by decide +kernel
theorem dX5_putCell_10 : decode cX5_putCell 10 = .ok (.iload 4, 2) := by decide +kernel
theorem dX5_putCell_12 : decode cX5_putCell 12 = .ok (.iconst 0, 1) := by decide +kernel
theorem dX5_putCell_13 : decode cX5_putCell 13 = .ok (.bipush 63, 2) := by decide +kernel
theorem dX5_putCell_15 : decode cX5_putCell 15 = .ok (.invokestatic 55, 3) := by decide +kernel
theorem dX5_putCell_18 : decode cX5_putCell 18 = .ok (.ifCond .ne 6, 3) := by decide +kernel
theorem dX5_putCell_21 : decode cX5_putCell 21 = .ok (.bipush (-2), 2) := by decide +kernel
theorem dX5_putCell_23 : decode cX5_putCell 23 = .ok (.ireturn, 1) := by decide +kernel
theorem dX5_putCell_24 : decode cX5_putCell 24 = .ok (.aload_n 0, 1) := by decide +kernel
theorem dX5_putCell_25 : decode cX5_putCell 25 = .ok (.getfield 22, 3) := by decide +kernel
theorem dX5_putCell_28 : decode cX5_putCell 28 = .ok (.iload_n 1, 1) := by decide +kernel
theorem dX5_putCell_29 : decode cX5_putCell 29 = .ok (.bipush 32, 2) := by decide +kernel
theorem dX5_putCell_31 : decode cX5_putCell 31 = .ok (.imul, 1) := by decide +kernel
theorem dX5_putCell_32 : decode cX5_putCell 32 = .ok (.iload_n 2, 1) := by decide +kernel
theorem dX5_putCell_33 : decode cX5_putCell 33 = .ok (.bipush 8, 2) := by decide +kernel
theorem dX5_putCell_35 : decode cX5_putCell 35 = .ok (.imul, 1) := by decide +kernel
theorem dX5_putCell_36 : decode cX5_putCell 36 = .ok (.iadd, 1) := by decide +kernel
theorem dX5_putCell_37 : decode cX5_putCell 37 = .ok (.iload_n 3, 1) := by decide +kernel
theorem dX5_putCell_38 : decode cX5_putCell 38 = .ok (.iadd, 1) := by decide +kernel
theorem dX5_putCell_39 : decode cX5_putCell 39 = .ok (.iaload, 1) := by decide +kernel
theorem dX5_putCell_40 : decode cX5_putCell 40 = .ok (.istore 5, 2) := by decide +kernel
theorem dX5_putCell_42 : decode cX5_putCell 42 = .ok (.aload_n 0, 1) := by decide +kernel
theorem dX5_putCell_43 : decode cX5_putCell 43 = .ok (.getfield 22, 3) := by decide +kernel
theorem dX5_putCell_46 : decode cX5_putCell 46 = .ok (.iload_n 1, 1) := by decide +kernel
theorem dX5_putCell_47 : decode cX5_putCell 47 = .ok (.bipush 32, 2) := by decide +kernel
theorem dX5_putCell_49 : decode cX5_putCell 49 = .ok (.imul, 1) := by decide +kernel
theorem dX5_putCell_50 : decode cX5_putCell 50 = .ok (.iload_n 2, 1) := by decide +kernel
theorem dX5_putCell_51 : decode cX5_putCell 51 = .ok (.bipush 8, 2) := by decide +kernel
theorem dX5_putCell_53 : decode cX5_putCell 53 = .ok (.imul, 1) := by decide +kernel
theorem dX5_putCell_54 : decode cX5_putCell 54 = .ok (.iadd, 1) := by decide +kernel
theorem dX5_putCell_55 : decode cX5_putCell 55 = .ok (.iload_n 3, 1) := by decide +kernel
theorem dX5_putCell_56 : decode cX5_putCell 56 = .ok (.iadd, 1) := by decide +kernel
theorem dX5_putCell_57 : decode cX5_putCell 57 = .ok (.iload 4, 2) := by decide +kernel
theorem dX5_putCell_59 : decode cX5_putCell 59 = .ok (.iastore, 1) := by decide +kernel
theorem dX5_putCell_60 : decode cX5_putCell 60 = .ok (.iload 5, 2) := by decide +kernel
theorem dX5_putCell_62 : decode cX5_putCell 62 = .ok (.ireturn, 1) := by decide +kernel
theorem dX5_dropPicture_0 : decode cX5_dropPicture 0 = .ok (.aload_n 0, 1) := by decide +kernel
theorem dX5_dropPicture_1 : decode cX5_dropPicture 1 = .ok (.iload_n 1, 1) := by decide +kernel
theorem dX5_dropPicture_2 : decode cX5_dropPicture 2 = .ok (.invokevirtual 80, 3) := by decide +kernel
theorem dX5_dropPicture_5 : decode cX5_dropPicture 5 = .ok (.ifCond .ne 6, 3) := by decide +kernel
theorem dX5_dropPicture_8 : decode cX5_dropPicture 8 = .ok (.bipush (-2), 2) := by decide +kernel
theorem dX5_dropPicture_10 : decode cX5_dropPicture 10 = .ok (.ireturn, 1) := by decide +kernel
theorem dX5_dropPicture_11 : decode cX5_dropPicture 11 = .ok (.iload_n 1, 1) := by decide +kernel
theorem dX5_dropPicture_12 : decode cX5_dropPicture 12 = .ok (.istore_n 2, 1) := by decide +kernel
theorem dX5_dropPicture_13 : decode cX5_dropPicture 13 = .ok (.iload_n 2, 1) := by decide +kernel
theorem dX5_dropPicture_14 : decode cX5_dropPicture 14 = .ok (.aload_n 0, 1) := by decide +kernel
theorem dX5_dropPicture_15 : decode cX5_dropPicture 15 = .ok (.getfield 37, 3) := by decide +kernel
theorem dX5_dropPicture_18 : decode cX5_dropPicture 18 = .ok (.iconst 1, 1) := by decide +kernel
theorem dX5_dropPicture_19 : decode cX5_dropPicture 19 = .ok (.isub, 1) := by decide +kernel
theorem dX5_dropPicture_20 : decode cX5_dropPicture 20 = .ok (.if_icmp .ge 79, 3) := by decide +kernel
theorem dX5_dropPicture_23 : decode cX5_dropPicture 23 = .ok (.iload_n 2, 1) := by decide +kernel
theorem dX5_dropPicture_24 : decode cX5_dropPicture 24 = .ok (.iconst 5, 1) := by decide +kernel
theorem dX5_dropPicture_25 : decode cX5_dropPicture 25 = .ok (.if_icmp .ge 74, 3) := by decide +kernel
theorem dX5_dropPicture_28 : decode cX5_dropPicture 28 = .ok (.aload_n 0, 1) := by decide +kernel
theorem dX5_dropPicture_29 : decode cX5_dropPicture 29 = .ok (.getfield 22, 3) := by decide +kernel
theorem dX5_dropPicture_32 : decode cX5_dropPicture 32 = .ok (.iload_n 2, 1) := by decide +kernel
theorem dX5_dropPicture_33 : decode cX5_dropPicture 33 = .ok (.iconst 1, 1) := by decide +kernel
theorem dX5_dropPicture_34 : decode cX5_dropPicture 34 = .ok (.iadd, 1) := by decide +kernel
theorem dX5_dropPicture_35 : decode cX5_dropPicture 35 = .ok (.bipush 32, 2) := by decide +kernel
theorem dX5_dropPicture_37 : decode cX5_dropPicture 37 = .ok (.imul, 1) := by decide +kernel
theorem dX5_dropPicture_38 : decode cX5_dropPicture 38 = .ok (.aload_n 0, 1) := by decide +kernel
theorem dX5_dropPicture_39 : decode cX5_dropPicture 39 = .ok (.getfield 22, 3) := by decide +kernel
theorem dX5_dropPicture_42 : decode cX5_dropPicture 42 = .ok (.iload_n 2, 1) := by decide +kernel
theorem dX5_dropPicture_43 : decode cX5_dropPicture 43 = .ok (.bipush 32, 2) := by decide +kernel
theorem dX5_dropPicture_45 : decode cX5_dropPicture 45 = .ok (.imul, 1) := by decide +kernel
theorem dX5_dropPicture_46 : decode cX5_dropPicture 46 = .ok (.bipush 32, 2) := by decide +kernel
theorem dX5_dropPicture_48 : decode cX5_dropPicture 48 = .ok (.invokestatic 40, 3) := by decide +kernel
theorem dX5_dropPicture_51 : decode cX5_dropPicture 51 = .ok (.aload_n 0, 1) := by decide +kernel
theorem dX5_dropPicture_52 : decode cX5_dropPicture 52 = .ok (.getfield 25, 3) := by decide +kernel
theorem dX5_dropPicture_55 : decode cX5_dropPicture 55 = .ok (.iload_n 2, 1) := by decide +kernel
theorem dX5_dropPicture_56 : decode cX5_dropPicture 56 = .ok (.aload_n 0, 1) := by decide +kernel
theorem dX5_dropPicture_57 : decode cX5_dropPicture 57 = .ok (.getfield 25, 3) := by decide +kernel
theorem dX5_dropPicture_60 : decode cX5_dropPicture 60 = .ok (.iload_n 2, 1) := by decide +kernel
theorem dX5_dropPicture_61 : decode cX5_dropPicture 61 = .ok (.iconst 1, 1) := by decide +kernel
theorem dX5_dropPicture_62 : decode cX5_dropPicture 62 = .ok (.iadd, 1) := by decide +kernel
theorem dX5_dropPicture_63 : decode cX5_dropPicture 63 = .ok (.iaload, 1) := by decide +kernel
theorem dX5_dropPicture_64 : decode cX5_dropPicture 64 = .ok (.iastore, 1) := by decide +kernel
theorem dX5_dropPicture_65 : decode cX5_dropPicture 65 = .ok (.aload_n 0, 1) := by decide +kernel
theorem dX5_dropPicture_66 : decode cX5_dropPicture 66 = .ok (.getfield 28, 3) := by decide +kernel
theorem dX5_dropPicture_69 : decode cX5_dropPicture 69 = .ok (.iload_n 2, 1) := by decide +kernel
theorem dX5_dropPicture_70 : decode cX5_dropPicture 70 = .ok (.aload_n 0, 1) := by decide +kernel
theorem dX5_dropPicture_71 : decode cX5_dropPicture 71 = .ok (.getfield 28, 3) := by decide +kernel
theorem dX5_dropPicture_74 : decode cX5_dropPicture 74 = .ok (.iload_n 2, 1) := by decide +kernel
theorem dX5_dropPicture_75 : decode cX5_dropPicture 75 = .ok (.iconst 1, 1) := by decide +kernel
theorem dX5_dropPicture_76 : decode cX5_dropPicture 76 = .ok (.iadd, 1) := by decide +kernel
theorem dX5_dropPicture_77 : decode cX5_dropPicture 77 = .ok (.iaload, 1) := by decide +kernel
theorem dX5_dropPicture_78 : decode cX5_dropPicture 78 = .ok (.iastore, 1) := by decide +kernel
theorem dX5_dropPicture_79 : decode cX5_dropPicture 79 = .ok (.aload_n 0, 1) := by decide +kernel
theorem dX5_dropPicture_80 : decode cX5_dropPicture 80 = .ok (.getfield 31, 3) := by decide +kernel
theorem dX5_dropPicture_83 : decode cX5_dropPicture 83 = .ok (.iload_n 2, 1) := by decide +kernel
theorem dX5_dropPicture_84 : decode cX5_dropPicture 84 = .ok (.aload_n 0, 1) := by decide +kernel
theorem dX5_dropPicture_85 : decode cX5_dropPicture 85 = .ok (.getfield 31, 3) := by decide +kernel
theorem dX5_dropPicture_88 : decode cX5_dropPicture 88 = .ok (.iload_n 2, 1) := by decide +kernel
theorem dX5_dropPicture_89 : decode cX5_dropPicture 89 = .ok (.iconst 1, 1) := by decide +kernel
theorem dX5_dropPicture_90 : decode cX5_dropPicture 90 = .ok (.iadd, 1) := by decide +kernel
theorem dX5_dropPicture_91 : decode cX5_dropPicture 91 = .ok (.iaload, 1) := by decide +kernel
theorem dX5_dropPicture_92 : decode cX5_dropPicture 92 = .ok (.iastore, 1) := by decide +kernel
theorem dX5_dropPicture_93 : decode cX5_dropPicture 93 = .ok (.iinc 2 1, 3) := by decide +kernel
theorem dX5_dropPicture_96 : decode cX5_dropPicture 96 = .ok (.goto (-83), 3) := by decide +kernel
theorem dX5_dropPicture_99 : decode cX5_dropPicture 99 = .ok (.aload_n 0, 1) := by decide +kernel
theorem dX5_dropPicture_100 : decode cX5_dropPicture 100 = .ok (.dup, 1) := by decide +kernel
theorem dX5_dropPicture_101 : decode cX5_dropPicture 101 = .ok (.getfield 37, 3) := by decide +kernel
theorem dX5_dropPicture_104 : decode cX5_dropPicture 104 = .ok (.iconst 1, 1) := by decide +kernel
theorem dX5_dropPicture_105 : decode cX5_dropPicture 105 = .ok (.isub, 1) := by decide +kernel
theorem dX5_dropPicture_106 : decode cX5_dropPicture 106 = .ok (.putfield 37, 3) := by decide +kernel
theorem dX5_dropPicture_109 : decode cX5_dropPicture 109 = .ok (.aload_n 0, 1) := by decide +kernel
theorem dX5_dropPicture_110 : decode cX5_dropPicture 110 = .ok (.getfield 37, 3) := by decide +kernel
theorem dX5_dropPicture_113 : decode cX5_dropPicture 113 = .ok (.ireturn, 1) := by decide +kernel
theorem dX5_setNumber_0 : decode cX5_setNumber 0 = .ok (.iload_n 1, 1) := by decide +kernel
theorem dX5_setNumber_1 : decode cX5_setNumber 1 = .ok (.ifCond .ne 25, 3) := by decide +kernel
theorem dX5_setNumber_4 : decode cX5_setNumber 4 = .ok (.iload_n 2, 1) := by decide +kernel
theorem dX5_setNumber_5 : decode cX5_setNumber 5 = .ok (.iconst 1, 1) := by decide +kernel
theorem dX5_setNumber_6 : decode cX5_setNumber 6 = .ok (.bipush 126, 2) := by decide +kernel
theorem dX5_setNumber_8 : decode cX5_setNumber 8 = .ok (.invokestatic 55, 3) := by decide +kernel
theorem dX5_setNumber_11 : decode cX5_setNumber 11 = .ok (.ifCond .eq 15, 3) := by decide +kernel
theorem dX5_setNumber_14 : decode cX5_setNumber 14 = .ok (.aload_n 0, 1) := by decide +kernel
theorem dX5_setNumber_15 : decode cX5_setNumber 15 = .ok (.getfield 9, 3) := by decide +kernel
theorem dX5_setNumber_18 : decode cX5_setNumber 18 = .ok (.istore_n 3, 1) := by decide +kernel
theorem dX5_setNumber_19 : decode cX5_setNumber 19 = .ok (.aload_n 0, 1) := by decide +kernel
theorem dX5_setNumber_20 : decode cX5_setNumber 20 = .ok (.iload_n 2, 1) := by decide +kernel
theorem dX5_setNumber_21 : decode cX5_setNumber 21 = .ok (.putfield 9, 3) := by decide +kernel
theorem dX5_setNumber_24 : decode cX5_setNumber 24 = .ok (.iload_n 3, 1) := by decide +kernel
theorem dX5_setNumber_25 : decode cX5_setNumber 25 = .ok (.ireturn, 1) := by decide +kernel
theorem dX5_setNumber_26 : decode cX5_setNumber 26 = .ok (.iload_n 1, 1) := by decide +kernel
theorem dX5_setNumber_27 : decode cX5_setNumber 27 = .ok (.iconst 1, 1) := by decide +kernel
theorem dX5_setNumber_28 : decode cX5_setNumber 28 = .ok (.if_icmp .ne 25, 3) := by decide +kernel
theorem dX5_setNumber_31 : decode cX5_setNumber 31 = .ok (.iload_n 2, 1) := by decide +kernel
theorem dX5_setNumber_32 : decode cX5_setNumber 32 = .ok (.iconst 0, 1) := by decide +kernel
theorem dX5_setNumber_33 : decode cX5_setNumber 33 = .ok (.bipush 63, 2) := by decide +kernel
theorem dX5_setNumber_35 : decode cX5_setNumber 35 = .ok (.invokestatic 55, 3) := by decide +kernel
theorem dX5_setNumber_38 : decode cX5_setNumber 38 = .ok (.ifCond .eq 15, 3) := by decide +kernel
theorem dX5_setNumber_41 : decode cX5_setNumber 41 = .ok (.aload_n 0, 1) := by decide +kernel
theorem dX5_setNumber_42 : decode cX5_setNumber 42 = .ok (.getfield 15, 3) := by decide +kernel
theorem dX5_setNumber_45 : decode cX5_setNumber 45 = .ok (.istore_n 3, 1) := by decide +kernel
theorem dX5_setNumber_46 : decode cX5_setNumber 46 = .ok (.aload_n 0, 1) := by decide +kernel
theorem dX5_setNumber_47 : decode cX5_setNumber 47 = .ok (.iload_n 2, 1) := by decide +kernel
theorem dX5_setNumber_48 : decode cX5_setNumber 48 = .ok (.putfield 15, 3) := by decide +kernel
theorem dX5_setNumber_51 : decode cX5_setNumber 51 = .ok (.iload_n 3, 1) := by decide +kernel
theorem dX5_setNumber_52 : decode cX5_setNumber 52 = .ok (.ireturn, 1) := by decide +kernel
theorem dX5_setNumber_53 : decode cX5_setNumber 53 = .ok (.bipush (-2), 2) := by decide +kernel
theorem dX5_setNumber_55 : decode cX5_setNumber 55 = .ok (.ireturn, 1) := by decide +kernel
theorem dX5_isRight_0 : decode cX5_isRight 0 = .ok (.aload_n 0, 1) := by decide +kernel
theorem dX5_isRight_1 : decode cX5_isRight 1 = .ok (.iload_n 1, 1) := by decide +kernel
theorem dX5_isRight_2 : decode cX5_isRight 2 = .ok (.invokevirtual 80, 3) := by decide +kernel
theorem dX5_isRight_5 : decode cX5_isRight 5 = .ok (.ifCond .eq 11, 3) := by decide +kernel
theorem dX5_isRight_8 : decode cX5_isRight 8 = .ok (.aload_n 0, 1) := by decide +kernel
theorem dX5_isRight_9 : decode cX5_isRight 9 = .ok (.iload_n 2, 1) := by decide +kernel
theorem dX5_isRight_10 : decode cX5_isRight 10 = .ok (.invokevirtual 80, 3) := by decide +kernel
theorem dX5_isRight_13 : decode cX5_isRight 13 = .ok (.ifCond .ne 5, 3) := by decide +kernel
theorem dX5_isRight_16 : decode cX5_isRight 16 = .ok (.iconst 0, 1) := by decide +kernel
theorem dX5_isRight_17 : decode cX5_isRight 17 = .ok (.ireturn, 1) := by decide +kernel
theorem dX5_isRight_18 : decode cX5_isRight 18 = .ok (.aload_n 0, 1) := by decide +kernel
theorem dX5_isRight_19 : decode cX5_isRight 19 = .ok (.getfield 31, 3) := by decide +kernel
theorem dX5_isRight_22 : decode cX5_isRight 22 = .ok (.iload_n 1, 1) := by decide +kernel
theorem dX5_isRight_23 : decode cX5_isRight 23 = .ok (.iaload, 1) := by decide +kernel
theorem dX5_isRight_24 : decode cX5_isRight 24 = .ok (.istore 5, 2) := by decide +kernel
theorem dX5_isRight_26 : decode cX5_isRight 26 = .ok (.iload 5, 2) := by decide +kernel
theorem dX5_isRight_28 : decode cX5_isRight 28 = .ok (.ifCond .le 56, 3) := by decide +kernel
theorem dX5_isRight_31 : decode cX5_isRight 31 = .ok (.aload_n 0, 1) := by decide +kernel
theorem dX5_isRight_32 : decode cX5_isRight 32 = .ok (.getfield 31, 3) := by decide +kernel
theorem dX5_isRight_35 : decode cX5_isRight 35 = .ok (.iload_n 2, 1) := by decide +kernel
theorem dX5_isRight_36 : decode cX5_isRight 36 = .ok (.iaload, 1) := by decide +kernel
theorem dX5_isRight_37 : decode cX5_isRight 37 = .ok (.iload 5, 2) := by decide +kernel
theorem dX5_isRight_39 : decode cX5_isRight 39 = .ok (.if_icmp .ne 45, 3) := by decide +kernel
theorem dX5_isRight_42 : decode cX5_isRight 42 = .ok (.aload_n 0, 1) := by decide +kernel
theorem dX5_isRight_43 : decode cX5_isRight 43 = .ok (.getfield 28, 3) := by decide +kernel
theorem dX5_isRight_46 : decode cX5_isRight 46 = .ok (.iload_n 2, 1) := by decide +kernel
theorem dX5_isRight_47 : decode cX5_isRight 47 = .ok (.iaload, 1) := by decide +kernel
theorem dX5_isRight_48 : decode cX5_isRight 48 = .ok (.aload_n 0, 1) := by decide +kernel
theorem dX5_isRight_49 : decode cX5_isRight 49 = .ok (.getfield 28, 3) := by decide +kernel
theorem dX5_isRight_52 : decode cX5_isRight 52 = .ok (.iload_n 1, 1) := by decide +kernel
theorem dX5_isRight_53 : decode cX5_isRight 53 = .ok (.iaload, 1) := by decide +kernel
theorem dX5_isRight_54 : decode cX5_isRight 54 = .ok (.iload_n 3, 1) := by decide +kernel
theorem dX5_isRight_55 : decode cX5_isRight 55 = .ok (.iadd, 1) := by decide +kernel
theorem dX5_isRight_56 : decode cX5_isRight 56 = .ok (.if_icmp .ne 28, 3) := by decide +kernel
theorem dX5_isRight_59 : decode cX5_isRight 59 = .ok (.aload_n 0, 1) := by decide +kernel
theorem dX5_isRight_60 : decode cX5_isRight 60 = .ok (.getfield 25, 3) := by decide +kernel
theorem dX5_isRight_63 : decode cX5_isRight 63 = .ok (.iload_n 2, 1) := by decide +kernel
theorem dX5_isRight_64 : decode cX5_isRight 64 = .ok (.iaload, 1) := by decide +kernel
theorem dX5_isRight_65 : decode cX5_isRight 65 = .ok (.aload_n 0, 1) := by decide +kernel
theorem dX5_isRight_66 : decode cX5_isRight 66 = .ok (.getfield 25, 3) := by decide +kernel
theorem dX5_isRight_69 : decode cX5_isRight 69 = .ok (.iload_n 1, 1) := by decide +kernel
theorem dX5_isRight_70 : decode cX5_isRight 70 = .ok (.iaload, 1) := by decide +kernel
theorem dX5_isRight_71 : decode cX5_isRight 71 = .ok (.iload 4, 2) := by decide +kernel
theorem dX5_isRight_73 : decode cX5_isRight 73 = .ok (.iadd, 1) := by decide +kernel
theorem dX5_isRight_74 : decode cX5_isRight 74 = .ok (.iload 5, 2) := by decide +kernel
theorem dX5_isRight_76 : decode cX5_isRight 76 = .ok (.irem, 1) := by decide +kernel
theorem dX5_isRight_77 : decode cX5_isRight 77 = .ok (.if_icmp .ne 7, 3) := by decide +kernel
theorem dX5_isRight_80 : decode cX5_isRight 80 = .ok (.iconst 1, 1) := by decide +kernel
theorem dX5_isRight_81 : decode cX5_isRight 81 = .ok (.goto 4, 3) := by decide +kernel
theorem dX5_isRight_84 : decode cX5_isRight 84 = .ok (.iconst 0, 1) := by decide +kernel
theorem dX5_isRight_85 : decode cX5_isRight 85 = .ok (.ireturn, 1) := by decide +kernel
theorem dX6_init_0 : decode cX6_init 0 = .ok (.aload_n 0, 1) := by decide +kernel
theorem dX6_init_1 : decode cX6_init 1 = .ok (.invokespecial 3, 3) := by decide +kernel
theorem dX6_init_4 : decode cX6_init 4 = .ok (.aload_n 0, 1) := by decide +kernel
theorem dX6_init_5 : decode cX6_init 5 = .ok (.bipush 6, 2) := by decide +kernel
theorem dX6_init_7 : decode cX6_init 7 = .ok (.newarray .int, 2) := by decide +kernel
theorem dX6_init_9 : decode cX6_init 9 = .ok (.putfield 9, 3) := by decide +kernel
theorem dX6_init_12 : decode cX6_init 12 = .ok (.aload_n 0, 1) := by decide +kernel
theorem dX6_init_13 : decode cX6_init 13 = .ok (.bipush 6, 2) := by decide +kernel
theorem dX6_init_15 : decode cX6_init 15 = .ok (.newarray .int, 2) := by decide +kernel
theorem dX6_init_17 : decode cX6_init 17 = .ok (.putfield 15, 3) := by decide +kernel
theorem dX6_init_20 : decode cX6_init 20 = .ok (.aload_n 0, 1) := by decide +kernel
theorem dX6_init_21 : decode cX6_init 21 = .ok (.bipush 6, 2) := by decide +kernel
theorem dX6_init_23 : decode cX6_init 23 = .ok (.newarray .int, 2) := by decide +kernel
theorem dX6_init_25 : decode cX6_init 25 = .ok (.putfield 18, 3) := by decide +kernel
theorem dX6_init_28 : decode cX6_init 28 = .ok (.aload_n 0, 1) := by decide +kernel
theorem dX6_init_29 : decode cX6_init 29 = .ok (.bipush 6, 2) := by decide +kernel
theorem dX6_init_31 : decode cX6_init 31 = .ok (.newarray .int, 2) := by decide +kernel
theorem dX6_init_33 : decode cX6_init 33 = .ok (.putfield 21, 3) := by decide +kernel
theorem dX6_init_36 : decode cX6_init 36 = .ok (.aload_n 0, 1) := by decide +kernel
theorem dX6_init_37 : decode cX6_init 37 = .ok (.bipush 24, 2) := by decide +kernel
theorem dX6_init_39 : decode cX6_init 39 = .ok (.newarray .int, 2) := by decide +kernel
theorem dX6_init_41 : decode cX6_init 41 = .ok (.putfield 24, 3) := by decide +kernel
theorem dX6_init_44 : decode cX6_init 44 = .ok (.aload_n 0, 1) := by decide +kernel
theorem dX6_init_45 : decode cX6_init 45 = .ok (.bipush 32, 2) := by decide +kernel
theorem dX6_init_47 : decode cX6_init 47 = .ok (.newarray .int, 2) := by decide +kernel
theorem dX6_init_49 : decode cX6_init 49 = .ok (.putfield 27, 3) := by decide +kernel
theorem dX6_init_52 : decode cX6_init 52 = .ok (.aload_n 0, 1) := by decide +kernel
theorem dX6_init_53 : decode cX6_init 53 = .ok (.bipush 32, 2) := by decide +kernel
theorem dX6_init_55 : decode cX6_init 55 = .ok (.newarray .int, 2) := by decide +kernel
theorem dX6_init_57 : decode cX6_init 57 = .ok (.putfield 30, 3) := by decide +kernel
theorem dX6_init_60 : decode cX6_init 60 = .ok (.return_, 1) := by decide +kernel
theorem dX6_cellsOf_0 : decode cX6_cellsOf 0 = .ok (.iload_n 1, 1) := by decide +kernel
theorem dX6_cellsOf_1 : decode cX6_cellsOf 1 = .ok (.iconst 0, 1) := by decide +kernel
theorem dX6_cellsOf_2 : decode cX6_cellsOf 2 = .ok (.iconst 5, 1) := by decide +kernel
theorem dX6_cellsOf_3 : decode cX6_cellsOf 3 = .ok (.invokestatic 33, 3) := by decide +kernel
theorem dX6_cellsOf_6 : decode cX6_cellsOf 6 = .ok (.ifCond .eq 12, 3) := by decide +kernel
theorem dX6_cellsOf_9 : decode cX6_cellsOf 9 = .ok (.aload_n 0, 1) := by decide +kernel
theorem dX6_cellsOf_10 : decode cX6_cellsOf 10 = .ok (.getfield 9, 3) := by decide +kernel
theorem dX6_cellsOf_13 : decode cX6_cellsOf 13 = .ok (.iload_n 1, 1) := by decide +kernel
theorem dX6_cellsOf_14 : decode cX6_cellsOf 14 = .ok (.iaload, 1) := by decide +kernel
theorem dX6_cellsOf_15 : decode cX6_cellsOf 15 = .ok (.goto 4, 3) := by decide +kernel
theorem dX6_cellsOf_18 : decode cX6_cellsOf 18 = .ok (.iconst 0, 1) := by decide +kernel
theorem dX6_cellsOf_19 : decode cX6_cellsOf 19 = .ok (.ireturn, 1) := by decide +kernel
theorem dX6_apartOf_0 : decode cX6_apartOf 0 = .ok (.iload_n 1, 1) := by decide +kernel
theorem dX6_apartOf_1 : decode cX6_apartOf 1 = .ok (.iconst 0, 1) := by decide +kernel
theorem dX6_apartOf_2 : decode cX6_apartOf 2 = .ok (.iconst 5, 1) := by decide +kernel
theorem dX6_apartOf_3 : decode cX6_apartOf 3 = .ok (.invokestatic 33, 3) := by decide +kernel
theorem dX6_apartOf_6 : decode cX6_apartOf 6 = .ok (.ifCond .eq 12, 3) := by decide +kernel
theorem dX6_apartOf_9 : decode cX6_apartOf 9 = .ok (.aload_n 0, 1) := by decide +kernel
theorem dX6_apartOf_10 : decode cX6_apartOf 10 = .ok (.getfield 15, 3) := by decide +kernel
theorem dX6_apartOf_13 : decode cX6_apartOf 13 = .ok (.iload_n 1, 1) := by decide +kernel
theorem dX6_apartOf_14 : decode cX6_apartOf 14 = .ok (.iaload, 1) := by decide +kernel
theorem dX6_apartOf_15 : decode cX6_apartOf 15 = .ok (.goto 4, 3) := by decide +kernel
theorem dX6_apartOf_18 : decode cX6_apartOf 18 = .ok (.iconst 0, 1) := by decide +kernel
theorem dX6_apartOf_19 : decode cX6_apartOf 19 = .ok (.ireturn, 1) := by decide +kernel
theorem dX6_surplusOf_0 : decode cX6_surplusOf 0 = .ok (.iload_n 1, 1) := by decide +kernel
theorem dX6_surplusOf_1 : decode cX6_surplusOf 1 = .ok (.iconst 0, 1) := by decide +kernel
theorem dX6_surplusOf_2 : decode cX6_surplusOf 2 = .ok (.iconst 5, 1) := by decide +kernel
theorem dX6_surplusOf_3 : decode cX6_surplusOf 3 = .ok (.invokestatic 33, 3) := by decide +kernel
theorem dX6_surplusOf_6 : decode cX6_surplusOf 6 = .ok (.ifCond .eq 12, 3) := by decide +kernel
theorem dX6_surplusOf_9 : decode cX6_surplusOf 9 = .ok (.aload_n 0, 1) := by decide +kernel
theorem dX6_surplusOf_10 : decode cX6_surplusOf 10 = .ok (.getfield 18, 3) := by decide +kernel
theorem dX6_surplusOf_13 : decode cX6_surplusOf 13 = .ok (.iload_n 1, 1) := by decide +kernel
theorem dX6_surplusOf_14 : decode cX6_surplusOf 14 = .ok (.iaload, 1) := by decide +kernel
theorem dX6_surplusOf_15 : decode cX6_surplusOf 15 = .ok (.goto 4, 3) := by decide +kernel
theorem dX6_surplusOf_18 : decode cX6_surplusOf 18 = .ok (.iconst 0, 1) := by decide +kernel
theorem dX6_surplusOf_19 : decode cX6_surplusOf 19 = .ok (.ireturn, 1) := by decide +kernel
theorem dX6_seamCostOf_0 : decode cX6_seamCostOf 0 = .ok (.iload_n 1, 1) := by decide +kernel
theorem dX6_seamCostOf_1 : decode cX6_seamCostOf 1 = .ok (.iconst 0, 1) := by decide +kernel
theorem dX6_seamCostOf_2 : decode cX6_seamCostOf 2 = .ok (.iconst 5, 1) := by decide +kernel
theorem dX6_seamCostOf_3 : decode cX6_seamCostOf 3 = .ok (.invokestatic 33, 3) := by decide +kernel
theorem dX6_seamCostOf_6 : decode cX6_seamCostOf 6 = .ok (.ifCond .eq 12, 3) := by decide +kernel
theorem dX6_seamCostOf_9 : decode cX6_seamCostOf 9 = .ok (.aload_n 0, 1) := by decide +kernel
theorem dX6_seamCostOf_10 : decode cX6_seamCostOf 10 = .ok (.getfield 21, 3) := by decide +kernel
theorem dX6_seamCostOf_13 : decode cX6_seamCostOf 13 = .ok (.iload_n 1, 1) := by decide +kernel
theorem dX6_seamCostOf_14 : decode cX6_seamCostOf 14 = .ok (.iaload, 1) := by decide +kernel
theorem dX6_seamCostOf_15 : decode cX6_seamCostOf 15 = .ok (.goto 4, 3) := by decide +kernel
theorem dX6_seamCostOf_18 : decode cX6_seamCostOf 18 = .ok (.iconst 0, 1) := by decide +kernel
theorem dX6_seamCostOf_19 : decode cX6_seamCostOf 19 = .ok (.ireturn, 1) := by decide +kernel
theorem dX6_columnAt_0 : decode cX6_columnAt 0 = .ok (.iload_n 1, 1) := by decide +kernel
theorem dX6_columnAt_1 : decode cX6_columnAt 1 = .ok (.iconst 0, 1) := by decide +kernel
theorem dX6_columnAt_2 : decode cX6_columnAt 2 = .ok (.iconst 5, 1) := by decide +kernel
theorem dX6_columnAt_3 : decode cX6_columnAt 3 = .ok (.invokestatic 33, 3) := by decide +kernel
theorem dX6_columnAt_6 : decode cX6_columnAt 6 = .ok (.ifCond .eq 25, 3) := by decide +kernel
theorem dX6_columnAt_9 : decode cX6_columnAt 9 = .ok (.iload_n 2, 1) := by decide +kernel
theorem dX6_columnAt_10 : decode cX6_columnAt 10 = .ok (.iconst 0, 1) := by decide +kernel
theorem dX6_columnAt_11 : decode cX6_columnAt 11 = .ok (.iconst 3, 1) := by decide +kernel
theorem dX6_columnAt_12 : decode cX6_columnAt 12 = .ok (.invokestatic 33, 3) := by decide +kernel
theorem dX6_columnAt_15 : decode cX6_columnAt 15 = .ok (.ifCond .eq 16, 3) := by decide +kernel
theorem dX6_columnAt_18 : decode cX6_columnAt 18 = .ok (.aload_n 0, 1) := by decide +kernel
theorem dX6_columnAt_19 : decode cX6_columnAt 19 = .ok (.getfield 24, 3) := by decide +kernel
theorem dX6_columnAt_22 : decode cX6_columnAt 22 = .ok (.iload_n 1, 1) := by decide +kernel
theorem dX6_columnAt_23 : decode cX6_columnAt 23 = .ok (.iconst 4, 1) := by decide +kernel
theorem dX6_columnAt_24 : decode cX6_columnAt 24 = .ok (.imul, 1) := by decide +kernel
theorem dX6_columnAt_25 : decode cX6_columnAt 25 = .ok (.iload_n 2, 1) := by decide +kernel
theorem dX6_columnAt_26 : decode cX6_columnAt 26 = .ok (.iadd, 1) := by decide +kernel
theorem dX6_columnAt_27 : decode cX6_columnAt 27 = .ok (.iaload, 1) := by decide +kernel
theorem dX6_columnAt_28 : decode cX6_columnAt 28 = .ok (.goto 4, 3) := by decide +kernel
theorem dX6_columnAt_31 : decode cX6_columnAt 31 = .ok (.iconst (-1), 1) := by decide +kernel
theorem dX6_columnAt_32 : decode cX6_columnAt 32 = .ok (.ireturn, 1) := by decide +kernel
theorem dX6_cut_0 : decode cX6_cut 0 = .ok (.iconst 0, 1) := by decide +kernel
theorem dX6_cut_1 : decode cX6_cut 1 = .ok (.istore_n 3, 1) := by decide +kernel
theorem dX6_cut_2 : decode cX6_cut 2 = .ok (.iload_n 3, 1) := by decide +kernel
theorem dX6_cut_3 : decode cX6_cut 3 = .ok (.bipush 24, 2) := by decide +kernel
theorem dX6_cut_5 : decode cX6_cut 5 = .ok (.if_icmp .ge 16, 3) := by decide +kernel
theorem dX6_cut_8 : decode cX6_cut 8 = .ok (.aload_n 0, 1) := by decide +kernel
theorem dX6_cut_9 : decode cX6_cut 9 = .ok (.getfield 24, 3) := by decide +kernel
theorem dX6_cut_12 : decode cX6_cut 12 = .ok (.iload_n 3, 1) := by decide +kernel
theorem dX6_cut_13 : decode cX6_cut 13 = .ok (.iconst (-1), 1) := by decide +kernel
theorem dX6_cut_14 : decode cX6_cut 14 = .ok (.iastore, 1) := by decide +kernel
theorem dX6_cut_15 : decode cX6_cut 15 = .ok (.iinc 3 1, 3) := by decide +kernel
theorem dX6_cut_18 : decode cX6_cut 18 = .ok (.goto (-16), 3) := by decide +kernel
theorem dX6_cut_21 : decode cX6_cut 21 = .ok (.iconst 0, 1) := by decide +kernel
theorem dX6_cut_22 : decode cX6_cut 22 = .ok (.istore_n 3, 1) := by decide +kernel
theorem dX6_cut_23 : decode cX6_cut 23 = .ok (.iload_n 3, 1) := by decide +kernel
theorem dX6_cut_24 : decode cX6_cut 24 = .ok (.bipush 6, 2) := by decide +kernel
theorem dX6_cut_26 : decode cX6_cut 26 = .ok (.if_icmp .ge 25, 3) := by decide +kernel
theorem dX6_cut_29 : decode cX6_cut 29 = .ok (.aload_n 2, 1) := by decide +kernel
theorem dX6_cut_30 : decode cX6_cut 30 = .ok (.iload_n 3, 1) := by decide +kernel
theorem dX6_cut_31 : decode cX6_cut 31 = .ok (.invokevirtual 37, 3) := by decide +kernel
theorem dX6_cut_34 : decode cX6_cut 34 = .ok (.iconst (-1), 1) := by decide +kernel
theorem dX6_cut_35 : decode cX6_cut 35 = .ok (.if_icmp .eq 10, 3) := by decide +kernel
theorem dX6_cut_38 : decode cX6_cut 38 = .ok (.aload_n 0, 1) := by decide +kernel
theorem dX6_cut_39 : decode cX6_cut 39 = .ok (.aload_n 1, 1) := by decide +kernel
theorem dX6_cut_40 : decode cX6_cut 40 = .ok (.aload_n 2, 1) := by decide +kernel
theorem dX6_cut_41 : decode cX6_cut 41 = .ok (.iload_n 3, 1) := by decide +kernel
theorem dX6_cut_42 : decode cX6_cut 42 = .ok (.invokevirtual 43, 3) := by decide +kernel
theorem dX6_cut_45 : decode cX6_cut 45 = .ok (.iinc 3 1, 3) := by decide +kernel
theorem dX6_cut_48 : decode cX6_cut 48 = .ok (.goto (-25), 3) := by decide +kernel
theorem dX6_cut_51 : decode cX6_cut 51 = .ok (.return_, 1) := by decide +kernel
theorem dX6_cutOne_0 : decode cX6_cutOne 0 = .ok (.aload_n 2, 1) := by decide +kernel
theorem dX6_cutOne_1 : decode cX6_cutOne 1 = .ok (.iload_n 3, 1) := by decide +kernel
theorem dX6_cutOne_2 : decode cX6_cutOne 2 = .ok (.invokevirtual 47, 3) := by decide +kernel
theorem dX6_cutOne_5 : decode cX6_cutOne 5 = .ok (.istore 4, 2) := by decide +kernel
theorem dX6_cutOne_7 : decode cX6_cutOne 7 = .ok (.aload_n 2, 1) := by decide +kernel
theorem dX6_cutOne_8 : decode cX6_cutOne 8 = .ok (.iload_n 3, 1) := by decide +kernel
theorem dX6_cutOne_9 : decode cX6_cutOne 9 = .ok (.invokevirtual 50, 3) := by decide +kernel
theorem dX6_cutOne_12 : decode cX6_cutOne 12 = .ok (.istore 5, 2) := by decide +kernel
theorem dX6_cutOne_14 : decode cX6_cutOne 14 = .ok (.iconst 0, 1) := by decide +kernel
theorem dX6_cutOne_15 : decode cX6_cutOne 15 = .ok (.iload 4, 2) := by decide +kernel
theorem dX6_cutOne_17 : decode cX6_cutOne 17 = .ok (.invokestatic 53, 3) := by decide +kernel
theorem dX6_cutOne_20 : decode cX6_cutOne 20 = .ok (.istore 6, 2) := by decide +kernel
theorem dX6_cutOne_22 : decode cX6_cutOne 22 = .ok (.iconst 3, 1) := by decide +kernel
theorem dX6_cutOne_23 : decode cX6_cutOne 23 = .ok (.iconst 3, 1) := by decide +kernel
theorem dX6_cutOne_24 : decode cX6_cutOne 24 = .ok (.iload 4, 2) := by decide +kernel
theorem dX6_cutOne_26 : decode cX6_cutOne 26 = .ok (.iadd, 1) := by decide +kernel
theorem dX6_cutOne_27 : decode cX6_cutOne 27 = .ok (.invokestatic 59, 3) := by decide +kernel
theorem dX6_cutOne_30 : decode cX6_cutOne 30 = .ok (.istore 7, 2) := by decide +kernel
theorem dX6_cutOne_32 : decode cX6_cutOne 32 = .ok (.aload_n 0, 1) := by decide +kernel
theorem dX6_cutOne_33 : decode cX6_cutOne 33 = .ok (.aload_n 1, 1) := by decide +kernel
theorem dX6_cutOne_34 : decode cX6_cutOne 34 = .ok (.aload_n 2, 1) := by decide +kernel
theorem dX6_cutOne_35 : decode cX6_cutOne 35 = .ok (.iload_n 3, 1) := by decide +kernel
theorem dX6_cutOne_36 : decode cX6_cutOne 36 = .ok (.invokevirtual 62, 3) := by decide +kernel
theorem dX6_cutOne_39 : decode cX6_cutOne 39 = .ok (.iload 7, 2) := by decide +kernel
theorem dX6_cutOne_41 : decode cX6_cutOne 41 = .ok (.istore 8, 2) := by decide +kernel
theorem dX6_cutOne_43 : decode cX6_cutOne 43 = .ok (.iload 8, 2) := by decide +kernel
theorem dX6_cutOne_45 : decode cX6_cutOne 45 = .ok (.iload 6, 2) := by decide +kernel
theorem dX6_cutOne_47 : decode cX6_cutOne 47 = .ok (.if_icmp .lt 117, 3) := by decide +kernel
theorem dX6_cutOne_50 : decode cX6_cutOne 50 = .ok (.iload 5, 2) := by decide +kernel
theorem dX6_cutOne_52 : decode cX6_cutOne 52 = .ok (.iconst 0, 1) := by decide +kernel
theorem dX6_cutOne_53 : decode cX6_cutOne 53 = .ok (.invokestatic 53, 3) := by decide +kernel
theorem dX6_cutOne_56 : decode cX6_cutOne 56 = .ok (.istore 9, 2) := by decide +kernel
theorem dX6_cutOne_58 : decode cX6_cutOne 58 = .ok (.iload 9, 2) := by decide +kernel
theorem dX6_cutOne_60 : decode cX6_cutOne 60 = .ok (.bipush 8, 2) := by decide +kernel
theorem dX6_cutOne_62 : decode cX6_cutOne 62 = .ok (.if_icmp .ge 96, 3) := by decide +kernel
theorem dX6_cutOne_65 : decode cX6_cutOne 65 = .ok (.aload_n 0, 1) := by decide +kernel
theorem dX6_cutOne_66 : decode cX6_cutOne 66 = .ok (.getfield 30, 3) := by decide +kernel
theorem dX6_cutOne_69 : decode cX6_cutOne 69 = .ok (.iload 8, 2) := by decide +kernel
theorem dX6_cutOne_71 : decode cX6_cutOne 71 = .ok (.bipush 8, 2) := by decide +kernel
theorem dX6_cutOne_73 : decode cX6_cutOne 73 = .ok (.imul, 1) := by decide +kernel
theorem dX6_cutOne_74 : decode cX6_cutOne 74 = .ok (.iload 9, 2) := by decide +kernel
theorem dX6_cutOne_76 : decode cX6_cutOne 76 = .ok (.iadd, 1) := by decide +kernel
theorem dX6_cutOne_77 : decode cX6_cutOne 77 = .ok (.aload_n 0, 1) := by decide +kernel
theorem dX6_cutOne_78 : decode cX6_cutOne 78 = .ok (.getfield 27, 3) := by decide +kernel
theorem dX6_cutOne_81 : decode cX6_cutOne 81 = .ok (.iload 8, 2) := by decide +kernel
theorem dX6_cutOne_83 : decode cX6_cutOne 83 = .ok (.bipush 8, 2) := by decide +kernel
theorem dX6_cutOne_85 : decode cX6_cutOne 85 = .ok (.imul, 1) := by decide +kernel
theorem dX6_cutOne_86 : decode cX6_cutOne 86 = .ok (.iload 9, 2) := by decide +kernel
theorem dX6_cutOne_88 : decode cX6_cutOne 88 = .ok (.iadd, 1) := by decide +kernel
theorem dX6_cutOne_89 : decode cX6_cutOne 89 = .ok (.iaload, 1) := by decide +kernel
theorem dX6_cutOne_90 : decode cX6_cutOne 90 = .ok (.iastore, 1) := by decide +kernel
theorem dX6_cutOne_91 : decode cX6_cutOne 91 = .ok (.iload 8, 2) := by decide +kernel
theorem dX6_cutOne_93 : decode cX6_cutOne 93 = .ok (.iload 7, 2) := by decide +kernel
theorem dX6_cutOne_95 : decode cX6_cutOne 95 = .ok (.if_icmp .ge 57, 3) := by decide +kernel
theorem dX6_cutOne_98 : decode cX6_cutOne 98 = .ok (.aload_n 0, 1) := by decide +kernel
theorem dX6_cutOne_99 : decode cX6_cutOne 99 = .ok (.iload 8, 2) := by decide +kernel
theorem dX6_cutOne_101 : decode cX6_cutOne 101 = .ok (.iconst 1, 1) := by decide +kernel
theorem dX6_cutOne_102 : decode cX6_cutOne 102 = .ok (.iadd, 1) := by decide +kernel
theorem dX6_cutOne_103 : decode cX6_cutOne 103 = .ok (.iload 5, 2) := by decide +kernel
theorem dX6_cutOne_105 : decode cX6_cutOne 105 = .ok (.iload 9, 2) := by decide +kernel
theorem dX6_cutOne_107 : decode cX6_cutOne 107 = .ok (.iconst 1, 1) := by decide +kernel
theorem dX6_cutOne_108 : decode cX6_cutOne 108 = .ok (.isub, 1) := by decide +kernel
theorem dX6_cutOne_109 : decode cX6_cutOne 109 = .ok (.invokestatic 53, 3) := by decide +kernel
theorem dX6_cutOne_112 : decode cX6_cutOne 112 = .ok (.iload 9, 2) := by decide +kernel
theorem dX6_cutOne_114 : decode cX6_cutOne 114 = .ok (.iconst 1, 1) := by decide +kernel
theorem dX6_cutOne_115 : decode cX6_cutOne 115 = .ok (.iadd, 1) := by decide +kernel
theorem dX6_cutOne_116 : decode cX6_cutOne 116 = .ok (.invokevirtual 65, 3) := by decide +kernel
theorem dX6_cutOne_119 : decode cX6_cutOne 119 = .ok (.istore 10, 2) := by decide +kernel
theorem dX6_cutOne_121 : decode cX6_cutOne 121 = .ok (.aload_n 0, 1) := by decide +kernel
theorem dX6_cutOne_122 : decode cX6_cutOne 122 = .ok (.getfield 30, 3) := by decide +kernel
theorem dX6_cutOne_125 : decode cX6_cutOne 125 = .ok (.iload 8, 2) := by decide +kernel
theorem dX6_cutOne_127 : decode cX6_cutOne 127 = .ok (.bipush 8, 2) := by decide +kernel
theorem dX6_cutOne_129 : decode cX6_cutOne 129 = .ok (.imul, 1) := by decide +kernel
theorem dX6_cutOne_130 : decode cX6_cutOne 130 = .ok (.iload 9, 2) := by decide +kernel
theorem dX6_cutOne_132 : decode cX6_cutOne 132 = .ok (.iadd, 1) := by decide +kernel
theorem dX6_cutOne_133 : decode cX6_cutOne 133 = .ok (.dup2, 1) := by decide +kernel
theorem dX6_cutOne_134 : decode cX6_cutOne 134 = .ok (.iaload, 1) := by decide +kernel
theorem dX6_cutOne_135 : decode cX6_cutOne 135 = .ok (.aload_n 0, 1) := by decide +kernel
theorem dX6_cutOne_136 : decode cX6_cutOne 136 = .ok (.getfield 30, 3) := by decide +kernel
theorem dX6_cutOne_139 : decode cX6_cutOne 139 = .ok (.iload 8, 2) := by decide +kernel
theorem dX6_cutOne_141 : decode cX6_cutOne 141 = .ok (.iconst 1, 1) := by decide +kernel
theorem dX6_cutOne_142 : decode cX6_cutOne 142 = .ok (.iadd, 1) := by decide +kernel
theorem dX6_cutOne_143 : decode cX6_cutOne 143 = .ok (.bipush 8, 2) := by decide +kernel
theorem dX6_cutOne_145 : decode cX6_cutOne 145 = .ok (.imul, 1) := by decide +kernel
theorem dX6_cutOne_146 : decode cX6_cutOne 146 = .ok (.iload 10, 2) := by decide +kernel
theorem dX6_cutOne_148 : decode cX6_cutOne 148 = .ok (.iadd, 1) := by decide +kernel
theorem dX6_cutOne_149 : decode cX6_cutOne 149 = .ok (.iaload, 1) := by decide +kernel
theorem dX6_cutOne_150 : decode cX6_cutOne 150 = .ok (.iadd, 1) := by decide +kernel
theorem dX6_cutOne_151 : decode cX6_cutOne 151 = .ok (.iastore, 1) := by decide +kernel
theorem dX6_cutOne_152 : decode cX6_cutOne 152 = .ok (.iinc 9 1, 3) := by decide +kernel
theorem dX6_cutOne_155 : decode cX6_cutOne 155 = .ok (.goto (-97), 3) := by decide +kernel
theorem dX6_cutOne_158 : decode cX6_cutOne 158 = .ok (.iinc 8 (-1), 3) := by decide +kernel
theorem dX6_cutOne_161 : decode cX6_cutOne 161 = .ok (.goto (-118), 3) := by decide +kernel
theorem dX6_cutOne_164 : decode cX6_cutOne 164 = .ok (.aload_n 0, 1) := by decide +kernel
theorem dX6_cutOne_165 : decode cX6_cutOne 165 = .ok (.iload_n 3, 1) := by decide +kernel
theorem dX6_cutOne_166 : decode cX6_cutOne 166 = .ok (.iload 5, 2) := by decide +kernel
theorem dX6_cutOne_168 : decode cX6_cutOne 168 = .ok (.iload 6, 2) := by decide +kernel
theorem dX6_cutOne_170 : decode cX6_cutOne 170 = .ok (.iload 7, 2) := by decide +kernel
theorem dX6_cutOne_172 : decode cX6_cutOne 172 = .ok (.invokevirtual 69, 3) := by decide +kernel
theorem dX6_cutOne_175 : decode cX6_cutOne 175 = .ok (.return_, 1) := by decide +kernel
theorem dX6_compare_0 : decode cX6_compare 0 = .ok (.aload_n 2, 1) := by decide +kernel
theorem dX6_compare_1 : decode cX6_compare 1 = .ok (.iload_n 3, 1) := by decide +kernel
theorem dX6_compare_2 : decode cX6_compare 2 = .ok (.invokevirtual 37, 3) := by decide +kernel
theorem dX6_compare_5 : decode cX6_compare 5 = .ok (.istore 4, 2) := by decide +kernel
theorem dX6_compare_7 : decode cX6_compare 7 = .ok (.aload_n 2, 1) := by decide +kernel
theorem dX6_compare_8 : decode cX6_compare 8 = .ok (.iload_n 3, 1) := by decide +kernel
theorem dX6_compare_9 : decode cX6_compare 9 = .ok (.invokevirtual 47, 3) := by decide +kernel
theorem dX6_compare_12 : decode cX6_compare 12 = .ok (.istore 5, 2) := by decide +kernel
theorem dX6_compare_14 : decode cX6_compare 14 = .ok (.aload_n 2, 1) := by decide +kernel
theorem dX6_compare_15 : decode cX6_compare 15 = .ok (.iload_n 3, 1) := by decide +kernel
theorem dX6_compare_16 : decode cX6_compare 16 = .ok (.invokevirtual 50, 3) := by decide +kernel
theorem dX6_compare_19 : decode cX6_compare 19 = .ok (.istore 6, 2) := by decide +kernel
theorem dX6_compare_21 : decode cX6_compare 21 = .ok (.aload_n 0, 1) := by decide +kernel
theorem dX6_compare_22 : decode cX6_compare 22 = .ok (.getfield 9, 3) := by decide +kernel
theorem dX6_compare_25 : decode cX6_compare 25 = .ok (.iload_n 3, 1) := by decide +kernel
theorem dX6_compare_26 : decode cX6_compare 26 = .ok (.iconst 0, 1) := by decide +kernel
theorem dX6_compare_27 : decode cX6_compare 27 = .ok (.iastore, 1) := by decide +kernel
theorem dX6_compare_28 : decode cX6_compare 28 = .ok (.aload_n 0, 1) := by decide +kernel
theorem dX6_compare_29 : decode cX6_compare 29 = .ok (.getfield 15, 3) := by decide +kernel
theorem dX6_compare_32 : decode cX6_compare 32 = .ok (.iload_n 3, 1) := by decide +kernel
theorem dX6_compare_33 : decode cX6_compare 33 = .ok (.iconst 0, 1) := by decide +kernel
theorem dX6_compare_34 : decode cX6_compare 34 = .ok (.iastore, 1) := by decide +kernel
theorem dX6_compare_35 : decode cX6_compare 35 = .ok (.aload_n 0, 1) := by decide +kernel
theorem dX6_compare_36 : decode cX6_compare 36 = .ok (.getfield 18, 3) := by decide +kernel
theorem dX6_compare_39 : decode cX6_compare 39 = .ok (.iload_n 3, 1) := by decide +kernel
theorem dX6_compare_40 : decode cX6_compare 40 = .ok (.iconst 0, 1) := by decide +kernel
theorem dX6_compare_41 : decode cX6_compare 41 = .ok (.iastore, 1) := by decide +kernel
theorem dX6_compare_42 : decode cX6_compare 42 = .ok (.iconst 0, 1) := by decide +kernel
theorem dX6_compare_43 : decode cX6_compare 43 = .ok (.istore 7, 2) := by decide +kernel
theorem dX6_compare_45 : decode cX6_compare 45 = .ok (.iload 7, 2) := by decide +kernel
theorem dX6_compare_47 : decode cX6_compare 47 = .ok (.iconst 4, 1) := by decide +kernel
theorem dX6_compare_48 : decode cX6_compare 48 = .ok (.if_icmp .ge 125, 3) := by decide +kernel
theorem dX6_compare_51 : decode cX6_compare 51 = .ok (.iconst 0, 1) := by decide +kernel
theorem dX6_compare_52 : decode cX6_compare 52 = .ok (.istore 8, 2) := by decide +kernel
theorem dX6_compare_54 : decode cX6_compare 54 = .ok (.iload 8, 2) := by decide +kernel
theorem dX6_compare_56 : decode cX6_compare 56 = .ok (.bipush 8, 2) := by decide +kernel
theorem dX6_compare_58 : decode cX6_compare 58 = .ok (.if_icmp .ge 109, 3) := by decide +kernel
theorem dX6_compare_61 : decode cX6_compare 61 = .ok (.aload_n 1, 1) := by decide +kernel
theorem dX6_compare_62 : decode cX6_compare 62 = .ok (.iload 4, 2) := by decide +kernel
theorem dX6_compare_64 : decode cX6_compare 64 = .ok (.iload 7, 2) := by decide +kernel
theorem dX6_compare_66 : decode cX6_compare 66 = .ok (.iload 5, 2) := by decide +kernel
theorem dX6_compare_68 : decode cX6_compare 68 = .ok (.isub, 1) := by decide +kernel
theorem dX6_compare_69 : decode cX6_compare 69 = .ok (.iload 8, 2) := by decide +kernel
theorem dX6_compare_71 : decode cX6_compare 71 = .ok (.iload 6, 2) := by decide +kernel
theorem dX6_compare_73 : decode cX6_compare 73 = .ok (.isub, 1) := by decide +kernel
theorem dX6_compare_74 : decode cX6_compare 74 = .ok (.invokevirtual 73, 3) := by decide +kernel
theorem dX6_compare_77 : decode cX6_compare 77 = .ok (.ifCond .eq 84, 3) := by decide +kernel
theorem dX6_compare_80 : decode cX6_compare 80 = .ok (.aload_n 1, 1) := by decide +kernel
theorem dX6_compare_81 : decode cX6_compare 81 = .ok (.iload_n 3, 1) := by decide +kernel
theorem dX6_compare_82 : decode cX6_compare 82 = .ok (.iload 7, 2) := by decide +kernel
theorem dX6_compare_84 : decode cX6_compare 84 = .ok (.iload 8, 2) := by decide +kernel
theorem dX6_compare_86 : decode cX6_compare 86 = .ok (.invokevirtual 78, 3) := by decide +kernel
theorem dX6_compare_89 : decode cX6_compare 89 = .ok (.aload_n 1, 1) := by decide +kernel
theorem dX6_compare_90 : decode cX6_compare 90 = .ok (.iload 4, 2) := by decide +kernel
theorem dX6_compare_92 : decode cX6_compare 92 = .ok (.iload 7, 2) := by decide +kernel
theorem dX6_compare_94 : decode cX6_compare 94 = .ok (.iload 5, 2) := by decide +kernel
theorem dX6_compare_96 : decode cX6_compare 96 = .ok (.isub, 1) := by decide +kernel
theorem dX6_compare_97 : decode cX6_compare 97 = .ok (.iload 8, 2) := by decide +kernel
theorem dX6_compare_99 : decode cX6_compare 99 = .ok (.iload 6, 2) := by decide +kernel
theorem dX6_compare_101 : decode cX6_compare 101 = .ok (.isub, 1) := by decide +kernel
theorem dX6_compare_102 : decode cX6_compare 102 = .ok (.invokevirtual 78, 3) := by decide +kernel
theorem dX6_compare_105 : decode cX6_compare 105 = .ok (.isub, 1) := by decide +kernel
theorem dX6_compare_106 : decode cX6_compare 106 = .ok (.istore 9, 2) := by decide +kernel
theorem dX6_compare_108 : decode cX6_compare 108 = .ok (.aload_n 0, 1) := by decide +kernel
theorem dX6_compare_109 : decode cX6_compare 109 = .ok (.getfield 27, 3) := by decide +kernel
theorem dX6_compare_112 : decode cX6_compare 112 = .ok (.iload 7, 2) := by decide +kernel
theorem dX6_compare_114 : decode cX6_compare 114 = .ok (.bipush 8, 2) := by decide +kernel
theorem dX6_compare_116 : decode cX6_compare 116 = .ok (.imul, 1) := by decide +kernel
theorem dX6_compare_117 : decode cX6_compare 117 = .ok (.iload 8, 2) := by decide +kernel
theorem dX6_compare_119 : decode cX6_compare 119 = .ok (.iadd, 1) := by decide +kernel
theorem dX6_compare_120 : decode cX6_compare 120 = .ok (.iload 9, 2) := by decide +kernel
theorem dX6_compare_122 : decode cX6_compare 122 = .ok (.invokestatic 81, 3) := by decide +kernel
theorem dX6_compare_125 : decode cX6_compare 125 = .ok (.iastore, 1) := by decide +kernel
theorem dX6_compare_126 : decode cX6_compare 126 = .ok (.aload_n 0, 1) := by decide +kernel
theorem dX6_compare_127 : decode cX6_compare 127 = .ok (.getfield 9, 3) := by decide +kernel
theorem dX6_compare_130 : decode cX6_compare 130 = .ok (.iload_n 3, 1) := by decide +kernel
theorem dX6_compare_131 : decode cX6_compare 131 = .ok (.dup2, 1) := by decide +kernel
theorem dX6_compare_132 : decode cX6_compare 132 = .ok (.iaload, 1) := by decide +kernel
theorem dX6_compare_133 : decode cX6_compare 133 = .ok (.iconst 1, 1) := by decide +kernel
theorem dX6_compare_134 : decode cX6_compare 134 = .ok (.iadd, 1) := by decide +kernel
theorem dX6_compare_135 : decode cX6_compare 135 = .ok (.iastore, 1) := by decide +kernel
theorem dX6_compare_136 : decode cX6_compare 136 = .ok (.aload_n 0, 1) := by decide +kernel
theorem dX6_compare_137 : decode cX6_compare 137 = .ok (.getfield 15, 3) := by decide +kernel
theorem dX6_compare_140 : decode cX6_compare 140 = .ok (.iload_n 3, 1) := by decide +kernel
theorem dX6_compare_141 : decode cX6_compare 141 = .ok (.dup2, 1) := by decide +kernel
theorem dX6_compare_142 : decode cX6_compare 142 = .ok (.iaload, 1) := by decide +kernel
theorem dX6_compare_143 : decode cX6_compare 143 = .ok (.iload 9, 2) := by decide +kernel
theorem dX6_compare_145 : decode cX6_compare 145 = .ok (.invokestatic 81, 3) := by decide +kernel
theorem dX6_compare_148 : decode cX6_compare 148 = .ok (.iadd, 1) := by decide +kernel
theorem dX6_compare_149 : decode cX6_compare 149 = .ok (.iastore, 1) := by decide +kernel
theorem dX6_compare_150 : decode cX6_compare 150 = .ok (.aload_n 0, 1) := by decide +kernel
theorem dX6_compare_151 : decode cX6_compare 151 = .ok (.getfield 18, 3) := by decide +kernel
theorem dX6_compare_154 : decode cX6_compare 154 = .ok (.iload_n 3, 1) := by decide +kernel
theorem dX6_compare_155 : decode cX6_compare 155 = .ok (.dup2, 1) := by decide +kernel
theorem dX6_compare_156 : decode cX6_compare 156 = .ok (.iaload, 1) := by decide +kernel
theorem dX6_compare_157 : decode cX6_compare 157 = .ok (.iload 9, 2) := by decide +kernel
theorem dX6_compare_159 : decode cX6_compare 159 = .ok (.iadd, 1) := by decide +kernel
theorem dX6_compare_160 : decode cX6_compare 160 = .ok (.iastore, 1) := by decide +kernel
theorem dX6_compare_161 : decode cX6_compare 161 = .ok (.iinc 8 1, 3) := by decide +kernel
theorem dX6_compare_164 : decode cX6_compare 164 = .ok (.goto (-110), 3) := by decide +kernel
theorem dX6_compare_167 : decode cX6_compare 167 = .ok (.iinc 7 1, 3) := by decide +kernel
theorem dX6_compare_170 : decode cX6_compare 170 = .ok (.goto (-125), 3) := by decide +kernel
theorem dX6_compare_173 : decode cX6_compare 173 = .ok (.return_, 1) := by decide +kernel
theorem dX6_follow_0 : decode cX6_follow 0 = .ok (.aload_n 0, 1) := by decide +kernel
theorem dX6_follow_1 : decode cX6_follow 1 = .ok (.getfield 21, 3) := by decide +kernel
theorem dX6_follow_4 : decode cX6_follow 4 = .ok (.iload_n 1, 1) := by decide +kernel
theorem dX6_follow_5 : decode cX6_follow 5 = .ok (.iconst 0, 1) := by decide +kernel
theorem dX6_follow_6 : decode cX6_follow 6 = .ok (.iastore, 1) := by decide +kernel
theorem dX6_follow_7 : decode cX6_follow 7 = .ok (.iload_n 2, 1) := by decide +kernel
theorem dX6_follow_8 : decode cX6_follow 8 = .ok (.istore 5, 2) := by decide +kernel
theorem dX6_follow_10 : decode cX6_follow 10 = .ok (.bipush 7, 2) := by decide +kernel
theorem dX6_follow_12 : decode cX6_follow 12 = .ok (.istore 6, 2) := by decide +kernel
theorem dX6_follow_14 : decode cX6_follow 14 = .ok (.iload_n 3, 1) := by decide +kernel
theorem dX6_follow_15 : decode cX6_follow 15 = .ok (.istore 7, 2) := by decide +kernel
theorem dX6_follow_17 : decode cX6_follow 17 = .ok (.iload 7, 2) := by decide +kernel
theorem dX6_follow_19 : decode cX6_follow 19 = .ok (.iload 4, 2) := by decide +kernel
theorem dX6_follow_21 : decode cX6_follow 21 = .ok (.if_icmp .gt 72, 3) := by decide +kernel
theorem dX6_follow_24 : decode cX6_follow 24 = .ok (.aload_n 0, 1) := by decide +kernel
theorem dX6_follow_25 : decode cX6_follow 25 = .ok (.iload 7, 2) := by decide +kernel
theorem dX6_follow_27 : decode cX6_follow 27 = .ok (.iload 5, 2) := by decide +kernel
theorem dX6_follow_29 : decode cX6_follow 29 = .ok (.iload 6, 2) := by decide +kernel
theorem dX6_follow_31 : decode cX6_follow 31 = .ok (.invokevirtual 65, 3) := by decide +kernel
theorem dX6_follow_34 : decode cX6_follow 34 = .ok (.istore 8, 2) := by decide +kernel
theorem dX6_follow_36 : decode cX6_follow 36 = .ok (.aload_n 0, 1) := by decide +kernel
theorem dX6_follow_37 : decode cX6_follow 37 = .ok (.getfield 24, 3) := by decide +kernel
theorem dX6_follow_40 : decode cX6_follow 40 = .ok (.iload_n 1, 1) := by decide +kernel
theorem dX6_follow_41 : decode cX6_follow 41 = .ok (.iconst 4, 1) := by decide +kernel
theorem dX6_follow_42 : decode cX6_follow 42 = .ok (.imul, 1) := by decide +kernel
theorem dX6_follow_43 : decode cX6_follow 43 = .ok (.iload 7, 2) := by decide +kernel
theorem dX6_follow_45 : decode cX6_follow 45 = .ok (.iadd, 1) := by decide +kernel
theorem dX6_follow_46 : decode cX6_follow 46 = .ok (.iload 8, 2) := by decide +kernel
theorem dX6_follow_48 : decode cX6_follow 48 = .ok (.iastore, 1) := by decide +kernel
theorem dX6_follow_49 : decode cX6_follow 49 = .ok (.aload_n 0, 1) := by decide +kernel
theorem dX6_follow_50 : decode cX6_follow 50 = .ok (.getfield 21, 3) := by decide +kernel
theorem dX6_follow_53 : decode cX6_follow 53 = .ok (.iload_n 1, 1) := by decide +kernel
theorem dX6_follow_54 : decode cX6_follow 54 = .ok (.dup2, 1) := by decide +kernel
theorem dX6_follow_55 : decode cX6_follow 55 = .ok (.iaload, 1) := by decide +kernel
theorem dX6_follow_56 : decode cX6_follow 56 = .ok (.aload_n 0, 1) := by decide +kernel
theorem dX6_follow_57 : decode cX6_follow 57 = .ok (.getfield 27, 3) := by decide +kernel
theorem dX6_follow_60 : decode cX6_follow 60 = .ok (.iload 7, 2) := by decide +kernel
theorem dX6_follow_62 : decode cX6_follow 62 = .ok (.bipush 8, 2) := by decide +kernel
theorem dX6_follow_64 : decode cX6_follow 64 = .ok (.imul, 1) := by decide +kernel
theorem dX6_follow_65 : decode cX6_follow 65 = .ok (.iload 8, 2) := by decide +kernel
theorem dX6_follow_67 : decode cX6_follow 67 = .ok (.iadd, 1) := by decide +kernel
theorem dX6_follow_68 : decode cX6_follow 68 = .ok (.iaload, 1) := by decide +kernel
theorem dX6_follow_69 : decode cX6_follow 69 = .ok (.iadd, 1) := by decide +kernel
theorem dX6_follow_70 : decode cX6_follow 70 = .ok (.iastore, 1) := by decide +kernel
theorem dX6_follow_71 : decode cX6_follow 71 = .ok (.iload_n 2, 1) := by decide +kernel
theorem dX6_follow_72 : decode cX6_follow 72 = .ok (.iload 8, 2) := by decide +kernel
theorem dX6_follow_74 : decode cX6_follow 74 = .ok (.iconst 1, 1) := by decide +kernel
theorem dX6_follow_75 : decode cX6_follow 75 = .ok (.isub, 1) := by decide +kernel
theorem dX6_follow_76 : decode cX6_follow 76 = .ok (.invokestatic 53, 3) := by decide +kernel
theorem dX6_follow_79 : decode cX6_follow 79 = .ok (.istore 5, 2) := by decide +kernel
theorem dX6_follow_81 : decode cX6_follow 81 = .ok (.iload 8, 2) := by decide +kernel
theorem dX6_follow_83 : decode cX6_follow 83 = .ok (.iconst 1, 1) := by decide +kernel
theorem dX6_follow_84 : decode cX6_follow 84 = .ok (.iadd, 1) := by decide +kernel
theorem dX6_follow_85 : decode cX6_follow 85 = .ok (.istore 6, 2) := by decide +kernel
theorem dX6_follow_87 : decode cX6_follow 87 = .ok (.iinc 7 1, 3) := by decide +kernel
theorem dX6_follow_90 : decode cX6_follow 90 = .ok (.goto (-73), 3) := by decide +kernel
theorem dX6_follow_93 : decode cX6_follow 93 = .ok (.return_, 1) := by decide +kernel
theorem dX6_cheapest_0 : decode cX6_cheapest 0 = .ok (.iconst 0, 1) := by decide +kernel
theorem dX6_cheapest_1 : decode cX6_cheapest 1 = .ok (.bipush 7, 2) := by decide +kernel
theorem dX6_cheapest_3 : decode cX6_cheapest 3 = .ok (.iload_n 2, 1) := by decide +kernel
theorem dX6_cheapest_4 : decode cX6_cheapest 4 = .ok (.invokestatic 59, 3) := by decide +kernel
theorem dX6_cheapest_7 : decode cX6_cheapest 7 = .ok (.invokestatic 53, 3) := by decide +kernel
theorem dX6_cheapest_10 : decode cX6_cheapest 10 = .ok (.istore 4, 2) := by decide +kernel
theorem dX6_cheapest_12 : decode cX6_cheapest 12 = .ok (.iload_n 1, 1) := by decide +kernel
theorem dX6_cheapest_13 : decode cX6_cheapest 13 = .ok (.iconst 0, 1) := by decide +kernel
theorem dX6_cheapest_14 : decode cX6_cheapest 14 = .ok (.iconst 3, 1) := by decide +kernel
theorem dX6_cheapest_15 : decode cX6_cheapest 15 = .ok (.invokestatic 33, 3) := by decide +kernel
theorem dX6_cheapest_18 : decode cX6_cheapest 18 = .ok (.ifCond .ne 6, 3) := by decide +kernel
theorem dX6_cheapest_21 : decode cX6_cheapest 21 = .ok (.iload 4, 2) := by decide +kernel
theorem dX6_cheapest_23 : decode cX6_cheapest 23 = .ok (.ireturn, 1) := by decide +kernel
theorem dX6_cheapest_24 : decode cX6_cheapest 24 = .ok (.iload 4, 2) := by decide +kernel
theorem dX6_cheapest_26 : decode cX6_cheapest 26 = .ok (.iconst 1, 1) := by decide +kernel
theorem dX6_cheapest_27 : decode cX6_cheapest 27 = .ok (.iadd, 1) := by decide +kernel
theorem dX6_cheapest_28 : decode cX6_cheapest 28 = .ok (.istore 5, 2) := by decide +kernel
theorem dX6_cheapest_30 : decode cX6_cheapest 30 = .ok (.iload 5, 2) := by decide +kernel
theorem dX6_cheapest_32 : decode cX6_cheapest 32 = .ok (.iload_n 3, 1) := by decide +kernel
theorem dX6_cheapest_33 : decode cX6_cheapest 33 = .ok (.if_icmp .gt 47, 3) := by decide +kernel
theorem dX6_cheapest_36 : decode cX6_cheapest 36 = .ok (.iload 5, 2) := by decide +kernel
theorem dX6_cheapest_38 : decode cX6_cheapest 38 = .ok (.bipush 8, 2) := by decide +kernel
theorem dX6_cheapest_40 : decode cX6_cheapest 40 = .ok (.if_icmp .ge 40, 3) := by decide +kernel
theorem dX6_cheapest_43 : decode cX6_cheapest 43 = .ok (.aload_n 0, 1) := by decide +kernel
theorem dX6_cheapest_44 : decode cX6_cheapest 44 = .ok (.getfield 30, 3) := by decide +kernel
theorem dX6_cheapest_47 : decode cX6_cheapest 47 = .ok (.iload_n 1, 1) := by decide +kernel
theorem dX6_cheapest_48 : decode cX6_cheapest 48 = .ok (.bipush 8, 2) := by decide +kernel
theorem dX6_cheapest_50 : decode cX6_cheapest 50 = .ok (.imul, 1) := by decide +kernel
theorem dX6_cheapest_51 : decode cX6_cheapest 51 = .ok (.iload 5, 2) := by decide +kernel
theorem dX6_cheapest_53 : decode cX6_cheapest 53 = .ok (.iadd, 1) := by decide +kernel
theorem dX6_cheapest_54 : decode cX6_cheapest 54 = .ok (.iaload, 1) := by decide +kernel
theorem dX6_cheapest_55 : decode cX6_cheapest 55 = .ok (.aload_n 0, 1) := by decide +kernel
theorem dX6_cheapest_56 : decode cX6_cheapest 56 = .ok (.getfield 30, 3) := by decide +kernel
theorem dX6_cheapest_59 : decode cX6_cheapest 59 = .ok (.iload_n 1, 1) := by decide +kernel
theorem dX6_cheapest_60 : decode cX6_cheapest 60 = .ok (.bipush 8, 2) := by decide +kernel
theorem dX6_cheapest_62 : decode cX6_cheapest 62 = .ok (.imul, 1) := by decide +kernel
theorem dX6_cheapest_63 : decode cX6_cheapest 63 = .ok (.iload 4, 2) := by decide +kernel
theorem dX6_cheapest_65 : decode cX6_cheapest 65 = .ok (.iadd, 1) := by decide +kernel
theorem dX6_cheapest_66 : decode cX6_cheapest 66 = .ok (.iaload, 1) := by decide +kernel
theorem dX6_cheapest_67 : decode cX6_cheapest 67 = .ok (.if_icmp .ge 7, 3) := by decide +kernel
theorem dX6_cheapest_70 : decode cX6_cheapest 70 = .ok (.iload 5, 2) := by decide +kernel
theorem dX6_cheapest_72 : decode cX6_cheapest 72 = .ok (.istore 4, 2) := by decide +kernel
theorem dX6_cheapest_74 : decode cX6_cheapest 74 = .ok (.iinc 5 1, 3) := by decide +kernel
theorem dX6_cheapest_77 : decode cX6_cheapest 77 = .ok (.goto (-47), 3) := by decide +kernel
theorem dX6_cheapest_80 : decode cX6_cheapest 80 = .ok (.iload 4, 2) := by decide +kernel
theorem dX6_cheapest_82 : decode cX6_cheapest 82 = .ok (.ireturn, 1) := by decide +kernel
theorem dX7_init_0 : decode cX7_init 0 = .ok (.aload_n 0, 1) := by decide +kernel
theorem dX7_init_1 : decode cX7_init 1 = .ok (.invokespecial 1, 3) := by decide +kernel
theorem dX7_init_4 : decode cX7_init 4 = .ok (.aload_n 0, 1) := by decide +kernel
theorem dX7_init_5 : decode cX7_init 5 = .ok (.new 7, 3) := by decide +kernel
theorem dX7_init_8 : decode cX7_init 8 = .ok (.dup, 1) := by decide +kernel
theorem dX7_init_9 : decode cX7_init 9 = .ok (.invokespecial 9, 3) := by decide +kernel
theorem dX7_init_12 : decode cX7_init 12 = .ok (.putfield 10, 3) := by decide +kernel
theorem dX7_init_15 : decode cX7_init 15 = .ok (.aload_n 0, 1) := by decide +kernel
theorem dX7_init_16 : decode cX7_init 16 = .ok (.new 16, 3) := by decide +kernel
theorem dX7_init_19 : decode cX7_init 19 = .ok (.dup, 1) := by decide +kernel
theorem dX7_init_20 : decode cX7_init 20 = .ok (.invokespecial 18, 3) := by decide +kernel
theorem dX7_init_23 : decode cX7_init 23 = .ok (.putfield 19, 3) := by decide +kernel
theorem dX7_init_26 : decode cX7_init 26 = .ok (.aload_n 0, 1) := by decide +kernel
theorem dX7_init_27 : decode cX7_init 27 = .ok (.new 23, 3) := by decide +kernel
theorem dX7_init_30 : decode cX7_init 30 = .ok (.dup, 1) := by decide +kernel
theorem dX7_init_31 : decode cX7_init 31 = .ok (.invokespecial 25, 3) := by decide +kernel
theorem dX7_init_34 : decode cX7_init 34 = .ok (.putfield 26, 3) := by decide +kernel
theorem dX7_init_37 : decode cX7_init 37 = .ok (.aload_n 0, 1) := by decide +kernel
theorem dX7_init_38 : decode cX7_init 38 = .ok (.new 30, 3) := by decide +kernel
theorem dX7_init_41 : decode cX7_init 41 = .ok (.dup, 1) := by decide +kernel
theorem dX7_init_42 : decode cX7_init 42 = .ok (.invokespecial 32, 3) := by decide +kernel
theorem dX7_init_45 : decode cX7_init 45 = .ok (.putfield 33, 3) := by decide +kernel
theorem dX7_init_48 : decode cX7_init 48 = .ok (.aload_n 0, 1) := by decide +kernel
theorem dX7_init_49 : decode cX7_init 49 = .ok (.new 37, 3) := by decide +kernel
theorem dX7_init_52 : decode cX7_init 52 = .ok (.dup, 1) := by decide +kernel
theorem dX7_init_53 : decode cX7_init 53 = .ok (.invokespecial 39, 3) := by decide +kernel
theorem dX7_init_56 : decode cX7_init 56 = .ok (.putfield 40, 3) := by decide +kernel
theorem dX7_init_59 : decode cX7_init 59 = .ok (.aload_n 0, 1) := by decide +kernel
theorem dX7_init_60 : decode cX7_init 60 = .ok (.new 44, 3) := by decide +kernel
theorem dX7_init_63 : decode cX7_init 63 = .ok (.dup, 1) := by decide +kernel
theorem dX7_init_64 : decode cX7_init 64 = .ok (.invokespecial 46, 3) := by decide +kernel
theorem dX7_init_67 : decode cX7_init 67 = .ok (.putfield 47, 3) := by decide +kernel
theorem dX7_init_70 : decode cX7_init 70 = .ok (.aload_n 0, 1) := by decide +kernel
theorem dX7_init_71 : decode cX7_init 71 = .ok (.new 51, 3) := by decide +kernel
theorem dX7_init_74 : decode cX7_init 74 = .ok (.dup, 1) := by decide +kernel
theorem dX7_init_75 : decode cX7_init 75 = .ok (.invokespecial 53, 3) := by decide +kernel
theorem dX7_init_78 : decode cX7_init 78 = .ok (.putfield 54, 3) := by decide +kernel
theorem dX7_init_81 : decode cX7_init 81 = .ok (.aload_n 0, 1) := by decide +kernel
theorem dX7_init_82 : decode cX7_init 82 = .ok (.bipush 120, 2) := by decide +kernel
theorem dX7_init_84 : decode cX7_init 84 = .ok (.newarray .int, 2) := by decide +kernel
theorem dX7_init_86 : decode cX7_init 86 = .ok (.putfield 58, 3) := by decide +kernel
theorem dX7_init_89 : decode cX7_init 89 = .ok (.aload_n 0, 1) := by decide +kernel
theorem dX7_init_90 : decode cX7_init 90 = .ok (.iconst 3, 1) := by decide +kernel
theorem dX7_init_91 : decode cX7_init 91 = .ok (.newarray .int, 2) := by decide +kernel
theorem dX7_init_93 : decode cX7_init 93 = .ok (.putfield 62, 3) := by decide +kernel
theorem dX7_init_96 : decode cX7_init 96 = .ok (.aload_n 0, 1) := by decide +kernel
theorem dX7_init_97 : decode cX7_init 97 = .ok (.iconst (-1), 1) := by decide +kernel
theorem dX7_init_98 : decode cX7_init 98 = .ok (.putfield 65, 3) := by decide +kernel
theorem dX7_init_101 : decode cX7_init 101 = .ok (.return_, 1) := by decide +kernel
theorem dX7_world_0 : decode cX7_world 0 = .ok (.aload_n 0, 1) := by decide +kernel
theorem dX7_world_1 : decode cX7_world 1 = .ok (.getfield 19, 3) := by decide +kernel
theorem dX7_world_4 : decode cX7_world 4 = .ok (.aload_n 0, 1) := by decide +kernel
theorem dX7_world_5 : decode cX7_world 5 = .ok (.getfield 10, 3) := by decide +kernel
theorem dX7_world_8 : decode cX7_world 8 = .ok (.invokevirtual 69, 3) := by decide +kernel
theorem dX7_world_11 : decode cX7_world 11 = .ok (.aload_n 0, 1) := by decide +kernel
theorem dX7_world_12 : decode cX7_world 12 = .ok (.aload_n 0, 1) := by decide +kernel
