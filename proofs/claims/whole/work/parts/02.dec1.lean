theorem dX7_world_13 : decode cX7_world 13 = .ok (.getfield 10, 3) := by decide +kernel
theorem dX7_world_16 : decode cX7_world 16 = .ok (.iload_n 1, 1) := by decide +kernel
theorem dX7_world_17 : decode cX7_world 17 = .ok (.iload_n 2, 1) := by decide +kernel
theorem dX7_world_18 : decode cX7_world 18 = .ok (.invokevirtual 73, 3) := by decide +kernel
theorem dX7_world_21 : decode cX7_world 21 = .ok (.invokevirtual 77, 3) := by decide +kernel
theorem dX7_world_24 : decode cX7_world 24 = .ok (.ireturn, 1) := by decide +kernel
theorem dX7_dots_0 : decode cX7_dots 0 = .ok (.aload_n 0, 1) := by decide +kernel
theorem dX7_dots_1 : decode cX7_dots 1 = .ok (.getfield 19, 3) := by decide +kernel
theorem dX7_dots_4 : decode cX7_dots 4 = .ok (.aload_n 0, 1) := by decide +kernel
theorem dX7_dots_5 : decode cX7_dots 5 = .ok (.getfield 10, 3) := by decide +kernel
theorem dX7_dots_8 : decode cX7_dots 8 = .ok (.invokevirtual 69, 3) := by decide +kernel
theorem dX7_dots_11 : decode cX7_dots 11 = .ok (.aload_n 0, 1) := by decide +kernel
theorem dX7_dots_12 : decode cX7_dots 12 = .ok (.aload_n 0, 1) := by decide +kernel
theorem dX7_dots_13 : decode cX7_dots 13 = .ok (.getfield 10, 3) := by decide +kernel
theorem dX7_dots_16 : decode cX7_dots 16 = .ok (.iload_n 1, 1) := by decide +kernel
theorem dX7_dots_17 : decode cX7_dots 17 = .ok (.iload_n 2, 1) := by decide +kernel
theorem dX7_dots_18 : decode cX7_dots 18 = .ok (.iload_n 3, 1) := by decide +kernel
theorem dX7_dots_19 : decode cX7_dots 19 = .ok (.invokevirtual 81, 3) := by decide +kernel
theorem dX7_dots_22 : decode cX7_dots 22 = .ok (.invokevirtual 77, 3) := by decide +kernel
theorem dX7_dots_25 : decode cX7_dots 25 = .ok (.ireturn, 1) := by decide +kernel
theorem dX7_shot_0 : decode cX7_shot 0 = .ok (.aload_n 0, 1) := by decide +kernel
theorem dX7_shot_1 : decode cX7_shot 1 = .ok (.getfield 19, 3) := by decide +kernel
theorem dX7_shot_4 : decode cX7_shot 4 = .ok (.aload_n 0, 1) := by decide +kernel
theorem dX7_shot_5 : decode cX7_shot 5 = .ok (.getfield 10, 3) := by decide +kernel
theorem dX7_shot_8 : decode cX7_shot 8 = .ok (.invokevirtual 69, 3) := by decide +kernel
theorem dX7_shot_11 : decode cX7_shot 11 = .ok (.aload_n 0, 1) := by decide +kernel
theorem dX7_shot_12 : decode cX7_shot 12 = .ok (.aload_n 0, 1) := by decide +kernel
theorem dX7_shot_13 : decode cX7_shot 13 = .ok (.getfield 10, 3) := by decide +kernel
theorem dX7_shot_16 : decode cX7_shot 16 = .ok (.iload_n 1, 1) := by decide +kernel
theorem dX7_shot_17 : decode cX7_shot 17 = .ok (.iload_n 2, 1) := by decide +kernel
theorem dX7_shot_18 : decode cX7_shot 18 = .ok (.iload_n 3, 1) := by decide +kernel
theorem dX7_shot_19 : decode cX7_shot 19 = .ok (.invokevirtual 85, 3) := by decide +kernel
theorem dX7_shot_22 : decode cX7_shot 22 = .ok (.invokevirtual 77, 3) := by decide +kernel
theorem dX7_shot_25 : decode cX7_shot 25 = .ok (.ireturn, 1) := by decide +kernel
theorem dX7_paint_0 : decode cX7_paint 0 = .ok (.aload_n 0, 1) := by decide +kernel
theorem dX7_paint_1 : decode cX7_paint 1 = .ok (.getfield 19, 3) := by decide +kernel
theorem dX7_paint_4 : decode cX7_paint 4 = .ok (.aload_n 0, 1) := by decide +kernel
theorem dX7_paint_5 : decode cX7_paint 5 = .ok (.getfield 10, 3) := by decide +kernel
theorem dX7_paint_8 : decode cX7_paint 8 = .ok (.invokevirtual 69, 3) := by decide +kernel
theorem dX7_paint_11 : decode cX7_paint 11 = .ok (.aload_n 0, 1) := by decide +kernel
theorem dX7_paint_12 : decode cX7_paint 12 = .ok (.aload_n 0, 1) := by decide +kernel
theorem dX7_paint_13 : decode cX7_paint 13 = .ok (.getfield 10, 3) := by decide +kernel
theorem dX7_paint_16 : decode cX7_paint 16 = .ok (.iload_n 1, 1) := by decide +kernel
theorem dX7_paint_17 : decode cX7_paint 17 = .ok (.iload_n 2, 1) := by decide +kernel
theorem dX7_paint_18 : decode cX7_paint 18 = .ok (.iload_n 3, 1) := by decide +kernel
theorem dX7_paint_19 : decode cX7_paint 19 = .ok (.iload 4, 2) := by decide +kernel
theorem dX7_paint_21 : decode cX7_paint 21 = .ok (.invokevirtual 88, 3) := by decide +kernel
theorem dX7_paint_24 : decode cX7_paint 24 = .ok (.invokevirtual 77, 3) := by decide +kernel
theorem dX7_paint_27 : decode cX7_paint 27 = .ok (.ireturn, 1) := by decide +kernel
theorem dX7_drops_0 : decode cX7_drops 0 = .ok (.aload_n 0, 1) := by decide +kernel
theorem dX7_drops_1 : decode cX7_drops 1 = .ok (.getfield 19, 3) := by decide +kernel
theorem dX7_drops_4 : decode cX7_drops 4 = .ok (.aload_n 0, 1) := by decide +kernel
theorem dX7_drops_5 : decode cX7_drops 5 = .ok (.getfield 10, 3) := by decide +kernel
theorem dX7_drops_8 : decode cX7_drops 8 = .ok (.invokevirtual 69, 3) := by decide +kernel
theorem dX7_drops_11 : decode cX7_drops 11 = .ok (.aload_n 0, 1) := by decide +kernel
theorem dX7_drops_12 : decode cX7_drops 12 = .ok (.aload_n 0, 1) := by decide +kernel
theorem dX7_drops_13 : decode cX7_drops 13 = .ok (.getfield 10, 3) := by decide +kernel
theorem dX7_drops_16 : decode cX7_drops 16 = .ok (.iload_n 1, 1) := by decide +kernel
theorem dX7_drops_17 : decode cX7_drops 17 = .ok (.invokevirtual 92, 3) := by decide +kernel
theorem dX7_drops_20 : decode cX7_drops 20 = .ok (.invokevirtual 77, 3) := by decide +kernel
theorem dX7_drops_23 : decode cX7_drops 23 = .ok (.ireturn, 1) := by decide +kernel
theorem dX7_sets_0 : decode cX7_sets 0 = .ok (.aload_n 0, 1) := by decide +kernel
theorem dX7_sets_1 : decode cX7_sets 1 = .ok (.getfield 19, 3) := by decide +kernel
theorem dX7_sets_4 : decode cX7_sets 4 = .ok (.aload_n 0, 1) := by decide +kernel
theorem dX7_sets_5 : decode cX7_sets 5 = .ok (.getfield 10, 3) := by decide +kernel
theorem dX7_sets_8 : decode cX7_sets 8 = .ok (.invokevirtual 69, 3) := by decide +kernel
theorem dX7_sets_11 : decode cX7_sets 11 = .ok (.aload_n 0, 1) := by decide +kernel
theorem dX7_sets_12 : decode cX7_sets 12 = .ok (.aload_n 0, 1) := by decide +kernel
theorem dX7_sets_13 : decode cX7_sets 13 = .ok (.getfield 10, 3) := by decide +kernel
theorem dX7_sets_16 : decode cX7_sets 16 = .ok (.iload_n 1, 1) := by decide +kernel
theorem dX7_sets_17 : decode cX7_sets 17 = .ok (.iload_n 2, 1) := by decide +kernel
theorem dX7_sets_18 : decode cX7_sets 18 = .ok (.invokevirtual 95, 3) := by decide +kernel
theorem dX7_sets_21 : decode cX7_sets 21 = .ok (.invokevirtual 77, 3) := by decide +kernel
theorem dX7_sets_24 : decode cX7_sets 24 = .ok (.ireturn, 1) := by decide +kernel
theorem dX7_value_0 : decode cX7_value 0 = .ok (.iload_n 1, 1) := by decide +kernel
theorem dX7_value_1 : decode cX7_value 1 = .ok (.iconst (-1), 1) := by decide +kernel
theorem dX7_value_2 : decode cX7_value 2 = .ok (.if_icmp .ne 34, 3) := by decide +kernel
theorem dX7_value_5 : decode cX7_value 5 = .ok (.aload_n 0, 1) := by decide +kernel
theorem dX7_value_6 : decode cX7_value 6 = .ok (.getfield 10, 3) := by decide +kernel
theorem dX7_value_9 : decode cX7_value 9 = .ok (.iload_n 2, 1) := by decide +kernel
theorem dX7_value_10 : decode cX7_value 10 = .ok (.iload_n 3, 1) := by decide +kernel
theorem dX7_value_11 : decode cX7_value 11 = .ok (.invokevirtual 98, 3) := by decide +kernel
theorem dX7_value_14 : decode cX7_value 14 = .ok (.ifCond .eq 15, 3) := by decide +kernel
theorem dX7_value_17 : decode cX7_value 17 = .ok (.aload_n 0, 1) := by decide +kernel
theorem dX7_value_18 : decode cX7_value 18 = .ok (.getfield 10, 3) := by decide +kernel
theorem dX7_value_21 : decode cX7_value 21 = .ok (.iload_n 2, 1) := by decide +kernel
theorem dX7_value_22 : decode cX7_value 22 = .ok (.iload_n 3, 1) := by decide +kernel
theorem dX7_value_23 : decode cX7_value 23 = .ok (.invokevirtual 102, 3) := by decide +kernel
theorem dX7_value_26 : decode cX7_value 26 = .ok (.goto 9, 3) := by decide +kernel
theorem dX7_value_29 : decode cX7_value 29 = .ok (.aload_n 0, 1) := by decide +kernel
theorem dX7_value_30 : decode cX7_value 30 = .ok (.bipush (-2), 2) := by decide +kernel
theorem dX7_value_32 : decode cX7_value 32 = .ok (.invokevirtual 105, 3) := by decide +kernel
theorem dX7_value_35 : decode cX7_value 35 = .ok (.ireturn, 1) := by decide +kernel
theorem dX7_value_36 : decode cX7_value 36 = .ok (.aload_n 0, 1) := by decide +kernel
theorem dX7_value_37 : decode cX7_value 37 = .ok (.getfield 10, 3) := by decide +kernel
theorem dX7_value_40 : decode cX7_value 40 = .ok (.iload_n 1, 1) := by decide +kernel
theorem dX7_value_41 : decode cX7_value 41 = .ok (.iload_n 2, 1) := by decide +kernel
theorem dX7_value_42 : decode cX7_value 42 = .ok (.iload_n 3, 1) := by decide +kernel
theorem dX7_value_43 : decode cX7_value 43 = .ok (.invokevirtual 108, 3) := by decide +kernel
theorem dX7_value_46 : decode cX7_value 46 = .ok (.ifCond .eq 16, 3) := by decide +kernel
theorem dX7_value_49 : decode cX7_value 49 = .ok (.aload_n 0, 1) := by decide +kernel
theorem dX7_value_50 : decode cX7_value 50 = .ok (.getfield 10, 3) := by decide +kernel
theorem dX7_value_53 : decode cX7_value 53 = .ok (.iload_n 1, 1) := by decide +kernel
theorem dX7_value_54 : decode cX7_value 54 = .ok (.iload_n 2, 1) := by decide +kernel
theorem dX7_value_55 : decode cX7_value 55 = .ok (.iload_n 3, 1) := by decide +kernel
theorem dX7_value_56 : decode cX7_value 56 = .ok (.invokevirtual 112, 3) := by decide +kernel
theorem dX7_value_59 : decode cX7_value 59 = .ok (.goto 9, 3) := by decide +kernel
theorem dX7_value_62 : decode cX7_value 62 = .ok (.aload_n 0, 1) := by decide +kernel
theorem dX7_value_63 : decode cX7_value 63 = .ok (.bipush (-2), 2) := by decide +kernel
theorem dX7_value_65 : decode cX7_value 65 = .ok (.invokevirtual 105, 3) := by decide +kernel
theorem dX7_value_68 : decode cX7_value 68 = .ok (.ireturn, 1) := by decide +kernel
theorem dX7_change_0 : decode cX7_change 0 = .ok (.aload_n 0, 1) := by decide +kernel
theorem dX7_change_1 : decode cX7_change 1 = .ok (.getfield 10, 3) := by decide +kernel
theorem dX7_change_4 : decode cX7_change 4 = .ok (.iload_n 1, 1) := by decide +kernel
theorem dX7_change_5 : decode cX7_change 5 = .ok (.invokevirtual 115, 3) := by decide +kernel
theorem dX7_change_8 : decode cX7_change 8 = .ok (.ifCond .eq 11, 3) := by decide +kernel
theorem dX7_change_11 : decode cX7_change 11 = .ok (.iload_n 2, 1) := by decide +kernel
theorem dX7_change_12 : decode cX7_change 12 = .ok (.iload_n 3, 1) := by decide +kernel
theorem dX7_change_13 : decode cX7_change 13 = .ok (.invokestatic 119, 3) := by decide +kernel
theorem dX7_change_16 : decode cX7_change 16 = .ok (.ifCond .ne 10, 3) := by decide +kernel
theorem dX7_change_19 : decode cX7_change 19 = .ok (.aload_n 0, 1) := by decide +kernel
theorem dX7_change_20 : decode cX7_change 20 = .ok (.bipush (-2), 2) := by decide +kernel
theorem dX7_change_22 : decode cX7_change 22 = .ok (.invokevirtual 105, 3) := by decide +kernel
theorem dX7_change_25 : decode cX7_change 25 = .ok (.ireturn, 1) := by decide +kernel
theorem dX7_change_26 : decode cX7_change 26 = .ok (.aload_n 0, 1) := by decide +kernel
theorem dX7_change_27 : decode cX7_change 27 = .ok (.getfield 10, 3) := by decide +kernel
theorem dX7_change_30 : decode cX7_change 30 = .ok (.iload_n 1, 1) := by decide +kernel
theorem dX7_change_31 : decode cX7_change 31 = .ok (.iload_n 2, 1) := by decide +kernel
theorem dX7_change_32 : decode cX7_change 32 = .ok (.iload_n 3, 1) := by decide +kernel
theorem dX7_change_33 : decode cX7_change 33 = .ok (.invokestatic 122, 3) := by decide +kernel
theorem dX7_change_36 : decode cX7_change 36 = .ok (.ireturn, 1) := by decide +kernel
theorem dX7_corners_0 : decode cX7_corners 0 = .ok (.aload_n 0, 1) := by decide +kernel
theorem dX7_corners_1 : decode cX7_corners 1 = .ok (.getfield 10, 3) := by decide +kernel
theorem dX7_corners_4 : decode cX7_corners 4 = .ok (.iload_n 1, 1) := by decide +kernel
theorem dX7_corners_5 : decode cX7_corners 5 = .ok (.invokevirtual 115, 3) := by decide +kernel
theorem dX7_corners_8 : decode cX7_corners 8 = .ok (.ifCond .ne 10, 3) := by decide +kernel
theorem dX7_corners_11 : decode cX7_corners 11 = .ok (.aload_n 0, 1) := by decide +kernel
theorem dX7_corners_12 : decode cX7_corners 12 = .ok (.bipush (-2), 2) := by decide +kernel
theorem dX7_corners_14 : decode cX7_corners 14 = .ok (.invokevirtual 105, 3) := by decide +kernel
theorem dX7_corners_17 : decode cX7_corners 17 = .ok (.ireturn, 1) := by decide +kernel
theorem dX7_corners_18 : decode cX7_corners 18 = .ok (.aload_n 0, 1) := by decide +kernel
theorem dX7_corners_19 : decode cX7_corners 19 = .ok (.invokevirtual 126, 3) := by decide +kernel
theorem dX7_corners_22 : decode cX7_corners 22 = .ok (.aload_n 0, 1) := by decide +kernel
theorem dX7_corners_23 : decode cX7_corners 23 = .ok (.getfield 26, 3) := by decide +kernel
theorem dX7_corners_26 : decode cX7_corners 26 = .ok (.iload_n 1, 1) := by decide +kernel
theorem dX7_corners_27 : decode cX7_corners 27 = .ok (.invokevirtual 129, 3) := by decide +kernel
theorem dX7_corners_30 : decode cX7_corners 30 = .ok (.ireturn, 1) := by decide +kernel
theorem dX7_votes_0 : decode cX7_votes 0 = .ok (.aload_n 0, 1) := by decide +kernel
theorem dX7_votes_1 : decode cX7_votes 1 = .ok (.iload_n 1, 1) := by decide +kernel
theorem dX7_votes_2 : decode cX7_votes 2 = .ok (.iload_n 2, 1) := by decide +kernel
theorem dX7_votes_3 : decode cX7_votes 3 = .ok (.invokevirtual 132, 3) := by decide +kernel
theorem dX7_votes_6 : decode cX7_votes 6 = .ok (.ifCond .eq 22, 3) := by decide +kernel
theorem dX7_votes_9 : decode cX7_votes 9 = .ok (.iload_n 3, 1) := by decide +kernel
theorem dX7_votes_10 : decode cX7_votes 10 = .ok (.iconst (-1), 1) := by decide +kernel
theorem dX7_votes_11 : decode cX7_votes 11 = .ok (.iconst 1, 1) := by decide +kernel
theorem dX7_votes_12 : decode cX7_votes 12 = .ok (.invokestatic 135, 3) := by decide +kernel
theorem dX7_votes_15 : decode cX7_votes 15 = .ok (.ifCond .eq 13, 3) := by decide +kernel
theorem dX7_votes_18 : decode cX7_votes 18 = .ok (.iload 4, 2) := by decide +kernel
theorem dX7_votes_20 : decode cX7_votes 20 = .ok (.iconst 1, 1) := by decide +kernel
theorem dX7_votes_21 : decode cX7_votes 21 = .ok (.iconst 5, 1) := by decide +kernel
theorem dX7_votes_22 : decode cX7_votes 22 = .ok (.invokestatic 135, 3) := by decide +kernel
theorem dX7_votes_25 : decode cX7_votes 25 = .ok (.ifCond .ne 10, 3) := by decide +kernel
theorem dX7_votes_28 : decode cX7_votes 28 = .ok (.aload_n 0, 1) := by decide +kernel
theorem dX7_votes_29 : decode cX7_votes 29 = .ok (.bipush (-2), 2) := by decide +kernel
theorem dX7_votes_31 : decode cX7_votes 31 = .ok (.invokevirtual 105, 3) := by decide +kernel
theorem dX7_votes_34 : decode cX7_votes 34 = .ok (.ireturn, 1) := by decide +kernel
theorem dX7_votes_35 : decode cX7_votes 35 = .ok (.aload_n 0, 1) := by decide +kernel
theorem dX7_votes_36 : decode cX7_votes 36 = .ok (.invokevirtual 126, 3) := by decide +kernel
theorem dX7_votes_39 : decode cX7_votes 39 = .ok (.aload_n 0, 1) := by decide +kernel
theorem dX7_votes_40 : decode cX7_votes 40 = .ok (.getfield 26, 3) := by decide +kernel
theorem dX7_votes_43 : decode cX7_votes 43 = .ok (.aload_n 0, 1) := by decide +kernel
theorem dX7_votes_44 : decode cX7_votes 44 = .ok (.getfield 10, 3) := by decide +kernel
theorem dX7_votes_47 : decode cX7_votes 47 = .ok (.iload_n 1, 1) := by decide +kernel
theorem dX7_votes_48 : decode cX7_votes 48 = .ok (.iload_n 2, 1) := by decide +kernel
theorem dX7_votes_49 : decode cX7_votes 49 = .ok (.iload_n 3, 1) := by decide +kernel
theorem dX7_votes_50 : decode cX7_votes 50 = .ok (.iload 4, 2) := by decide +kernel
theorem dX7_votes_52 : decode cX7_votes 52 = .ok (.invokevirtual 138, 3) := by decide +kernel
theorem dX7_votes_55 : decode cX7_votes 55 = .ok (.ireturn, 1) := by decide +kernel
theorem dX7_link_0 : decode cX7_link 0 = .ok (.aload_n 0, 1) := by decide +kernel
theorem dX7_link_1 : decode cX7_link 1 = .ok (.iload_n 1, 1) := by decide +kernel
theorem dX7_link_2 : decode cX7_link 2 = .ok (.iload_n 2, 1) := by decide +kernel
theorem dX7_link_3 : decode cX7_link 3 = .ok (.invokevirtual 132, 3) := by decide +kernel
theorem dX7_link_6 : decode cX7_link 6 = .ok (.ifCond .eq 12, 3) := by decide +kernel
theorem dX7_link_9 : decode cX7_link 9 = .ok (.iload_n 3, 1) := by decide +kernel
theorem dX7_link_10 : decode cX7_link 10 = .ok (.iconst 0, 1) := by decide +kernel
theorem dX7_link_11 : decode cX7_link 11 = .ok (.iconst 2, 1) := by decide +kernel
theorem dX7_link_12 : decode cX7_link 12 = .ok (.invokestatic 135, 3) := by decide +kernel
theorem dX7_link_15 : decode cX7_link 15 = .ok (.ifCond .ne 10, 3) := by decide +kernel
theorem dX7_link_18 : decode cX7_link 18 = .ok (.aload_n 0, 1) := by decide +kernel
theorem dX7_link_19 : decode cX7_link 19 = .ok (.bipush (-2), 2) := by decide +kernel
theorem dX7_link_21 : decode cX7_link 21 = .ok (.invokevirtual 105, 3) := by decide +kernel
theorem dX7_link_24 : decode cX7_link 24 = .ok (.ireturn, 1) := by decide +kernel
theorem dX7_link_25 : decode cX7_link 25 = .ok (.aload_n 0, 1) := by decide +kernel
theorem dX7_link_26 : decode cX7_link 26 = .ok (.invokevirtual 126, 3) := by decide +kernel
theorem dX7_link_29 : decode cX7_link 29 = .ok (.aload_n 0, 1) := by decide +kernel
theorem dX7_link_30 : decode cX7_link 30 = .ok (.getfield 26, 3) := by decide +kernel
theorem dX7_link_33 : decode cX7_link 33 = .ok (.iload_n 1, 1) := by decide +kernel
theorem dX7_link_34 : decode cX7_link 34 = .ok (.iload_n 2, 1) := by decide +kernel
theorem dX7_link_35 : decode cX7_link 35 = .ok (.invokevirtual 142, 3) := by decide +kernel
theorem dX7_link_38 : decode cX7_link 38 = .ok (.istore 4, 2) := by decide +kernel
theorem dX7_link_40 : decode cX7_link 40 = .ok (.iload_n 3, 1) := by decide +kernel
theorem dX7_link_41 : decode cX7_link 41 = .ok (.ifCond .ne 6, 3) := by decide +kernel
theorem dX7_link_44 : decode cX7_link 44 = .ok (.iload 4, 2) := by decide +kernel
theorem dX7_link_46 : decode cX7_link 46 = .ok (.ireturn, 1) := by decide +kernel
theorem dX7_link_47 : decode cX7_link 47 = .ok (.iload 4, 2) := by decide +kernel
theorem dX7_link_49 : decode cX7_link 49 = .ok (.ifCond .ne 5, 3) := by decide +kernel
theorem dX7_link_52 : decode cX7_link 52 = .ok (.iconst (-1), 1) := by decide +kernel
theorem dX7_link_53 : decode cX7_link 53 = .ok (.ireturn, 1) := by decide +kernel
theorem dX7_link_54 : decode cX7_link 54 = .ok (.iload_n 3, 1) := by decide +kernel
theorem dX7_link_55 : decode cX7_link 55 = .ok (.iconst 1, 1) := by decide +kernel
theorem dX7_link_56 : decode cX7_link 56 = .ok (.if_icmp .ne 17, 3) := by decide +kernel
theorem dX7_link_59 : decode cX7_link 59 = .ok (.aload_n 0, 1) := by decide +kernel
theorem dX7_link_60 : decode cX7_link 60 = .ok (.getfield 26, 3) := by decide +kernel
theorem dX7_link_63 : decode cX7_link 63 = .ok (.iload_n 1, 1) := by decide +kernel
theorem dX7_link_64 : decode cX7_link 64 = .ok (.iload_n 2, 1) := by decide +kernel
theorem dX7_link_65 : decode cX7_link 65 = .ok (.invokevirtual 145, 3) := by decide +kernel
theorem dX7_link_68 : decode cX7_link 68 = .ok (.iconst 1, 1) := by decide +kernel
theorem dX7_link_69 : decode cX7_link 69 = .ok (.iadd, 1) := by decide +kernel
theorem dX7_link_70 : decode cX7_link 70 = .ok (.goto 12, 3) := by decide +kernel
theorem dX7_link_73 : decode cX7_link 73 = .ok (.aload_n 0, 1) := by decide +kernel
theorem dX7_link_74 : decode cX7_link 74 = .ok (.getfield 26, 3) := by decide +kernel
theorem dX7_link_77 : decode cX7_link 77 = .ok (.iload_n 1, 1) := by decide +kernel
theorem dX7_link_78 : decode cX7_link 78 = .ok (.iload_n 2, 1) := by decide +kernel
theorem dX7_link_79 : decode cX7_link 79 = .ok (.invokevirtual 148, 3) := by decide +kernel
theorem dX7_link_82 : decode cX7_link 82 = .ok (.ireturn, 1) := by decide +kernel
theorem dX7_chain_0 : decode cX7_chain 0 = .ok (.aload_n 0, 1) := by decide +kernel
theorem dX7_chain_1 : decode cX7_chain 1 = .ok (.getfield 10, 3) := by decide +kernel
theorem dX7_chain_4 : decode cX7_chain 4 = .ok (.iload_n 1, 1) := by decide +kernel
theorem dX7_chain_5 : decode cX7_chain 5 = .ok (.invokevirtual 115, 3) := by decide +kernel
theorem dX7_chain_8 : decode cX7_chain 8 = .ok (.ifCond .eq 12, 3) := by decide +kernel
theorem dX7_chain_11 : decode cX7_chain 11 = .ok (.iload_n 2, 1) := by decide +kernel
theorem dX7_chain_12 : decode cX7_chain 12 = .ok (.iconst 0, 1) := by decide +kernel
theorem dX7_chain_13 : decode cX7_chain 13 = .ok (.iconst 1, 1) := by decide +kernel
theorem dX7_chain_14 : decode cX7_chain 14 = .ok (.invokestatic 135, 3) := by decide +kernel
theorem dX7_chain_17 : decode cX7_chain 17 = .ok (.ifCond .ne 10, 3) := by decide +kernel
theorem dX7_chain_20 : decode cX7_chain 20 = .ok (.aload_n 0, 1) := by decide +kernel
theorem dX7_chain_21 : decode cX7_chain 21 = .ok (.bipush (-2), 2) := by decide +kernel
theorem dX7_chain_23 : decode cX7_chain 23 = .ok (.invokevirtual 105, 3) := by decide +kernel
theorem dX7_chain_26 : decode cX7_chain 26 = .ok (.ireturn, 1) := by decide +kernel
theorem dX7_chain_27 : decode cX7_chain 27 = .ok (.aload_n 0, 1) := by decide +kernel
theorem dX7_chain_28 : decode cX7_chain 28 = .ok (.invokevirtual 126, 3) := by decide +kernel
theorem dX7_chain_31 : decode cX7_chain 31 = .ok (.iload_n 2, 1) := by decide +kernel
theorem dX7_chain_32 : decode cX7_chain 32 = .ok (.ifCond .ne 14, 3) := by decide +kernel
theorem dX7_chain_35 : decode cX7_chain 35 = .ok (.aload_n 0, 1) := by decide +kernel
theorem dX7_chain_36 : decode cX7_chain 36 = .ok (.getfield 33, 3) := by decide +kernel
theorem dX7_chain_39 : decode cX7_chain 39 = .ok (.iload_n 1, 1) := by decide +kernel
theorem dX7_chain_40 : decode cX7_chain 40 = .ok (.invokevirtual 151, 3) := by decide +kernel
theorem dX7_chain_43 : decode cX7_chain 43 = .ok (.goto 11, 3) := by decide +kernel
theorem dX7_chain_46 : decode cX7_chain 46 = .ok (.aload_n 0, 1) := by decide +kernel
theorem dX7_chain_47 : decode cX7_chain 47 = .ok (.getfield 33, 3) := by decide +kernel
theorem dX7_chain_50 : decode cX7_chain 50 = .ok (.iload_n 1, 1) := by decide +kernel
theorem dX7_chain_51 : decode cX7_chain 51 = .ok (.invokevirtual 154, 3) := by decide +kernel
theorem dX7_chain_54 : decode cX7_chain 54 = .ok (.ireturn, 1) := by decide +kernel
theorem dX7_all_0 : decode cX7_all 0 = .ok (.iload_n 1, 1) := by decide +kernel
theorem dX7_all_1 : decode cX7_all 1 = .ok (.iconst 0, 1) := by decide +kernel
theorem dX7_all_2 : decode cX7_all 2 = .ok (.iconst 5, 1) := by decide +kernel
theorem dX7_all_3 : decode cX7_all 3 = .ok (.invokestatic 135, 3) := by decide +kernel
theorem dX7_all_6 : decode cX7_all 6 = .ok (.ifCond .ne 10, 3) := by decide +kernel
theorem dX7_all_9 : decode cX7_all 9 = .ok (.aload_n 0, 1) := by decide +kernel
theorem dX7_all_10 : decode cX7_all 10 = .ok (.bipush (-2), 2) := by decide +kernel
theorem dX7_all_12 : decode cX7_all 12 = .ok (.invokevirtual 105, 3) := by decide +kernel
theorem dX7_all_15 : decode cX7_all 15 = .ok (.ireturn, 1) := by decide +kernel
theorem dX7_all_16 : decode cX7_all 16 = .ok (.aload_n 0, 1) := by decide +kernel
theorem dX7_all_17 : decode cX7_all 17 = .ok (.invokevirtual 126, 3) := by decide +kernel
theorem dX7_all_20 : decode cX7_all 20 = .ok (.aload_n 0, 1) := by decide +kernel
theorem dX7_all_21 : decode cX7_all 21 = .ok (.iload_n 1, 1) := by decide +kernel
theorem dX7_all_22 : decode cX7_all 22 = .ok (.invokevirtual 157, 3) := by decide +kernel
theorem dX7_all_25 : decode cX7_all 25 = .ok (.ireturn, 1) := by decide +kernel
theorem dX7_place_0 : decode cX7_place 0 = .ok (.aload_n 0, 1) := by decide +kernel
theorem dX7_place_1 : decode cX7_place 1 = .ok (.getfield 10, 3) := by decide +kernel
theorem dX7_place_4 : decode cX7_place 4 = .ok (.iload_n 1, 1) := by decide +kernel
theorem dX7_place_5 : decode cX7_place 5 = .ok (.invokevirtual 115, 3) := by decide +kernel
theorem dX7_place_8 : decode cX7_place 8 = .ok (.ifCond .eq 12, 3) := by decide +kernel
theorem dX7_place_11 : decode cX7_place 11 = .ok (.iload_n 2, 1) := by decide +kernel
theorem dX7_place_12 : decode cX7_place 12 = .ok (.iconst 0, 1) := by decide +kernel
theorem dX7_place_13 : decode cX7_place 13 = .ok (.iconst 1, 1) := by decide +kernel
theorem dX7_place_14 : decode cX7_place 14 = .ok (.invokestatic 135, 3) := by decide +kernel
theorem dX7_place_17 : decode cX7_place 17 = .ok (.ifCond .ne 10, 3) := by decide +kernel
theorem dX7_place_20 : decode cX7_place 20 = .ok (.aload_n 0, 1) := by decide +kernel
theorem dX7_place_21 : decode cX7_place 21 = .ok (.bipush (-2), 2) := by decide +kernel
theorem dX7_place_23 : decode cX7_place 23 = .ok (.invokevirtual 105, 3) := by decide +kernel
theorem dX7_place_26 : decode cX7_place 26 = .ok (.ireturn, 1) := by decide +kernel
theorem dX7_place_27 : decode cX7_place 27 = .ok (.aload_n 0, 1) := by decide +kernel
theorem dX7_place_28 : decode cX7_place 28 = .ok (.invokevirtual 126, 3) := by decide +kernel
theorem dX7_place_31 : decode cX7_place 31 = .ok (.aload_n 0, 1) := by decide +kernel
theorem dX7_place_32 : decode cX7_place 32 = .ok (.getfield 33, 3) := by decide +kernel
theorem dX7_place_35 : decode cX7_place 35 = .ok (.getfield 160, 3) := by decide +kernel
theorem dX7_place_38 : decode cX7_place 38 = .ok (.ifCond .ne 10, 3) := by decide +kernel
theorem dX7_place_41 : decode cX7_place 41 = .ok (.aload_n 0, 1) := by decide +kernel
theorem dX7_place_42 : decode cX7_place 42 = .ok (.bipush (-3), 2) := by decide +kernel
theorem dX7_place_44 : decode cX7_place 44 = .ok (.invokevirtual 105, 3) := by decide +kernel
theorem dX7_place_47 : decode cX7_place 47 = .ok (.ireturn, 1) := by decide +kernel
theorem dX7_place_48 : decode cX7_place 48 = .ok (.iload_n 2, 1) := by decide +kernel
theorem dX7_place_49 : decode cX7_place 49 = .ok (.ifCond .ne 14, 3) := by decide +kernel
theorem dX7_place_52 : decode cX7_place 52 = .ok (.aload_n 0, 1) := by decide +kernel
theorem dX7_place_53 : decode cX7_place 53 = .ok (.getfield 33, 3) := by decide +kernel
theorem dX7_place_56 : decode cX7_place 56 = .ok (.iload_n 1, 1) := by decide +kernel
theorem dX7_place_57 : decode cX7_place 57 = .ok (.invokevirtual 164, 3) := by decide +kernel
theorem dX7_place_60 : decode cX7_place 60 = .ok (.goto 14, 3) := by decide +kernel
theorem dX7_place_63 : decode cX7_place 63 = .ok (.aload_n 0, 1) := by decide +kernel
theorem dX7_place_64 : decode cX7_place 64 = .ok (.getfield 33, 3) := by decide +kernel
theorem dX7_place_67 : decode cX7_place 67 = .ok (.iload_n 1, 1) := by decide +kernel
theorem dX7_place_68 : decode cX7_place 68 = .ok (.invokevirtual 167, 3) := by decide +kernel
theorem dX7_place_71 : decode cX7_place 71 = .ok (.bipush 20, 2) := by decide +kernel
theorem dX7_place_73 : decode cX7_place 73 = .ok (.iadd, 1) := by decide +kernel
theorem dX7_place_74 : decode cX7_place 74 = .ok (.ireturn, 1) := by decide +kernel
theorem dX7_overlap_0 : decode cX7_overlap 0 = .ok (.aload_n 0, 1) := by decide +kernel
theorem dX7_overlap_1 : decode cX7_overlap 1 = .ok (.getfield 10, 3) := by decide +kernel
theorem dX7_overlap_4 : decode cX7_overlap 4 = .ok (.iload_n 1, 1) := by decide +kernel
theorem dX7_overlap_5 : decode cX7_overlap 5 = .ok (.invokevirtual 115, 3) := by decide +kernel
theorem dX7_overlap_8 : decode cX7_overlap 8 = .ok (.ifCond .eq 12, 3) := by decide +kernel
theorem dX7_overlap_11 : decode cX7_overlap 11 = .ok (.iload_n 2, 1) := by decide +kernel
theorem dX7_overlap_12 : decode cX7_overlap 12 = .ok (.iconst 0, 1) := by decide +kernel
theorem dX7_overlap_13 : decode cX7_overlap 13 = .ok (.iconst 3, 1) := by decide +kernel
theorem dX7_overlap_14 : decode cX7_overlap 14 = .ok (.invokestatic 135, 3) := by decide +kernel
theorem dX7_overlap_17 : decode cX7_overlap 17 = .ok (.ifCond .ne 10, 3) := by decide +kernel
theorem dX7_overlap_20 : decode cX7_overlap 20 = .ok (.aload_n 0, 1) := by decide +kernel
theorem dX7_overlap_21 : decode cX7_overlap 21 = .ok (.bipush (-2), 2) := by decide +kernel
theorem dX7_overlap_23 : decode cX7_overlap 23 = .ok (.invokevirtual 105, 3) := by decide +kernel
theorem dX7_overlap_26 : decode cX7_overlap 26 = .ok (.ireturn, 1) := by decide +kernel
theorem dX7_overlap_27 : decode cX7_overlap 27 = .ok (.aload_n 0, 1) := by decide +kernel
theorem dX7_overlap_28 : decode cX7_overlap 28 = .ok (.invokevirtual 126, 3) := by decide +kernel
theorem dX7_overlap_31 : decode cX7_overlap 31 = .ok (.aload_n 0, 1) := by decide +kernel
theorem dX7_overlap_32 : decode cX7_overlap 32 = .ok (.getfield 33, 3) := by decide +kernel
theorem dX7_overlap_35 : decode cX7_overlap 35 = .ok (.iload_n 1, 1) := by decide +kernel
theorem dX7_overlap_36 : decode cX7_overlap 36 = .ok (.invokevirtual 151, 3) := by decide +kernel
theorem dX7_overlap_39 : decode cX7_overlap 39 = .ok (.iconst (-1), 1) := by decide +kernel
theorem dX7_overlap_40 : decode cX7_overlap 40 = .ok (.if_icmp .ne 10, 3) := by decide +kernel
theorem dX7_overlap_43 : decode cX7_overlap 43 = .ok (.aload_n 0, 1) := by decide +kernel
theorem dX7_overlap_44 : decode cX7_overlap 44 = .ok (.bipush (-3), 2) := by decide +kernel
theorem dX7_overlap_46 : decode cX7_overlap 46 = .ok (.invokevirtual 105, 3) := by decide +kernel
theorem dX7_overlap_49 : decode cX7_overlap 49 = .ok (.ireturn, 1) := by decide +kernel
theorem dX7_overlap_50 : decode cX7_overlap 50 = .ok (.iload_n 2, 1) := by decide +kernel
theorem dX7_overlap_51 : decode cX7_overlap 51 = .ok (.tableswitch 52 0 2 #[25, 34, 43], 25) := by decide +kernel
theorem dX7_overlap_76 : decode cX7_overlap 76 = .ok (.aload_n 0, 1) := by decide +kernel
theorem dX7_overlap_77 : decode cX7_overlap 77 = .ok (.getfield 40, 3) := by decide +kernel
theorem dX7_overlap_80 : decode cX7_overlap 80 = .ok (.iload_n 1, 1) := by decide +kernel
theorem dX7_overlap_81 : decode cX7_overlap 81 = .ok (.invokevirtual 170, 3) := by decide +kernel
theorem dX7_overlap_84 : decode cX7_overlap 84 = .ok (.ireturn, 1) := by decide +kernel
theorem dX7_overlap_85 : decode cX7_overlap 85 = .ok (.aload_n 0, 1) := by decide +kernel
theorem dX7_overlap_86 : decode cX7_overlap 86 = .ok (.getfield 40, 3) := by decide +kernel
theorem dX7_overlap_89 : decode cX7_overlap 89 = .ok (.iload_n 1, 1) := by decide +kernel
theorem dX7_overlap_90 : decode cX7_overlap 90 = .ok (.invokevirtual 173, 3) := by decide +kernel
theorem dX7_overlap_93 : decode cX7_overlap 93 = .ok (.ireturn, 1) := by decide +kernel
theorem dX7_overlap_94 : decode cX7_overlap 94 = .ok (.aload_n 0, 1) := by decide +kernel
theorem dX7_overlap_95 : decode cX7_overlap 95 = .ok (.getfield 40, 3) := by decide +kernel
theorem dX7_overlap_98 : decode cX7_overlap 98 = .ok (.iload_n 1, 1) := by decide +kernel
theorem dX7_overlap_99 : decode cX7_overlap 99 = .ok (.invokevirtual 176, 3) := by decide +kernel
theorem dX7_overlap_102 : decode cX7_overlap 102 = .ok (.ireturn, 1) := by decide +kernel
theorem dX7_overlap_103 : decode cX7_overlap 103 = .ok (.aload_n 0, 1) := by decide +kernel
theorem dX7_overlap_104 : decode cX7_overlap 104 = .ok (.getfield 40, 3) := by decide +kernel
theorem dX7_overlap_107 : decode cX7_overlap 107 = .ok (.iload_n 1, 1) := by decide +kernel
theorem dX7_overlap_108 : decode cX7_overlap 108 = .ok (.invokevirtual 179, 3) := by decide +kernel
theorem dX7_overlap_111 : decode cX7_overlap 111 = .ok (.sipush 2000, 3) := by decide +kernel
theorem dX7_overlap_114 : decode cX7_overlap 114 = .ok (.iadd, 1) := by decide +kernel
theorem dX7_overlap_115 : decode cX7_overlap 115 = .ok (.ireturn, 1) := by decide +kernel
theorem dX7_seam_0 : decode cX7_seam 0 = .ok (.aload_n 0, 1) := by decide +kernel
theorem dX7_seam_1 : decode cX7_seam 1 = .ok (.getfield 10, 3) := by decide +kernel
theorem dX7_seam_4 : decode cX7_seam 4 = .ok (.iload_n 1, 1) := by decide +kernel
theorem dX7_seam_5 : decode cX7_seam 5 = .ok (.invokevirtual 115, 3) := by decide +kernel
theorem dX7_seam_8 : decode cX7_seam 8 = .ok (.ifCond .eq 12, 3) := by decide +kernel
theorem dX7_seam_11 : decode cX7_seam 11 = .ok (.iload_n 2, 1) := by decide +kernel
theorem dX7_seam_12 : decode cX7_seam 12 = .ok (.iconst 0, 1) := by decide +kernel
theorem dX7_seam_13 : decode cX7_seam 13 = .ok (.iconst 3, 1) := by decide +kernel
theorem dX7_seam_14 : decode cX7_seam 14 = .ok (.invokestatic 135, 3) := by decide +kernel
theorem dX7_seam_17 : decode cX7_seam 17 = .ok (.ifCond .ne 10, 3) := by decide +kernel
theorem dX7_seam_20 : decode cX7_seam 20 = .ok (.aload_n 0, 1) := by decide +kernel
theorem dX7_seam_21 : decode cX7_seam 21 = .ok (.bipush (-2), 2) := by decide +kernel
theorem dX7_seam_23 : decode cX7_seam 23 = .ok (.invokevirtual 105, 3) := by decide +kernel
theorem dX7_seam_26 : decode cX7_seam 26 = .ok (.ireturn, 1) := by decide +kernel
theorem dX7_seam_27 : decode cX7_seam 27 = .ok (.aload_n 0, 1) := by decide +kernel
theorem dX7_seam_28 : decode cX7_seam 28 = .ok (.invokevirtual 126, 3) := by decide +kernel
theorem dX7_seam_31 : decode cX7_seam 31 = .ok (.aload_n 0, 1) := by decide +kernel
theorem dX7_seam_32 : decode cX7_seam 32 = .ok (.getfield 33, 3) := by decide +kernel
theorem dX7_seam_35 : decode cX7_seam 35 = .ok (.iload_n 1, 1) := by decide +kernel
theorem dX7_seam_36 : decode cX7_seam 36 = .ok (.invokevirtual 151, 3) := by decide +kernel
theorem dX7_seam_39 : decode cX7_seam 39 = .ok (.iconst (-1), 1) := by decide +kernel
theorem dX7_seam_40 : decode cX7_seam 40 = .ok (.if_icmp .ne 10, 3) := by decide +kernel
theorem dX7_seam_43 : decode cX7_seam 43 = .ok (.aload_n 0, 1) := by decide +kernel
theorem dX7_seam_44 : decode cX7_seam 44 = .ok (.bipush (-3), 2) := by decide +kernel
theorem dX7_seam_46 : decode cX7_seam 46 = .ok (.invokevirtual 105, 3) := by decide +kernel
theorem dX7_seam_49 : decode cX7_seam 49 = .ok (.ireturn, 1) := by decide +kernel
theorem dX7_seam_50 : decode cX7_seam 50 = .ok (.aload_n 0, 1) := by decide +kernel
theorem dX7_seam_51 : decode cX7_seam 51 = .ok (.getfield 40, 3) := by decide +kernel
theorem dX7_seam_54 : decode cX7_seam 54 = .ok (.iload_n 1, 1) := by decide +kernel
theorem dX7_seam_55 : decode cX7_seam 55 = .ok (.iload_n 2, 1) := by decide +kernel
theorem dX7_seam_56 : decode cX7_seam 56 = .ok (.invokevirtual 182, 3) := by decide +kernel
theorem dX7_seam_59 : decode cX7_seam 59 = .ok (.ireturn, 1) := by decide +kernel
theorem dX7_level_0 : decode cX7_level 0 = .ok (.aload_n 0, 1) := by decide +kernel
theorem dX7_level_1 : decode cX7_level 1 = .ok (.getfield 10, 3) := by decide +kernel
theorem dX7_level_4 : decode cX7_level 4 = .ok (.iload_n 1, 1) := by decide +kernel
theorem dX7_level_5 : decode cX7_level 5 = .ok (.invokevirtual 115, 3) := by decide +kernel
theorem dX7_level_8 : decode cX7_level 8 = .ok (.ifCond .eq 12, 3) := by decide +kernel
theorem dX7_level_11 : decode cX7_level 11 = .ok (.iload_n 2, 1) := by decide +kernel
theorem dX7_level_12 : decode cX7_level 12 = .ok (.iconst 0, 1) := by decide +kernel
theorem dX7_level_13 : decode cX7_level 13 = .ok (.iconst 1, 1) := by decide +kernel
theorem dX7_level_14 : decode cX7_level 14 = .ok (.invokestatic 135, 3) := by decide +kernel
theorem dX7_level_17 : decode cX7_level 17 = .ok (.ifCond .ne 14, 3) := by decide +kernel
theorem dX7_level_20 : decode cX7_level 20 = .ok (.aload_n 0, 1) := by decide +kernel
theorem dX7_level_21 : decode cX7_level 21 = .ok (.bipush (-2), 2) := by decide +kernel
theorem dX7_level_23 : decode cX7_level 23 = .ok (.invokevirtual 105, 3) := by decide +kernel
theorem dX7_level_26 : decode cX7_level 26 = .ok (.pop, 1) := by decide +kernel
theorem dX7_level_27 : decode cX7_level 27 = .ok (.ldc2_w 185, 3) := by decide +kernel
theorem dX7_level_30 : decode cX7_level 30 = .ok (.lreturn, 1) := by decide +kernel
theorem dX7_level_31 : decode cX7_level 31 = .ok (.aload_n 0, 1) := by decide +kernel
theorem dX7_level_32 : decode cX7_level 32 = .ok (.invokevirtual 126, 3) := by decide +kernel
theorem dX7_level_35 : decode cX7_level 35 = .ok (.iload_n 2, 1) := by decide +kernel
theorem dX7_level_36 : decode cX7_level 36 = .ok (.ifCond .ne 14, 3) := by decide +kernel
theorem dX7_level_39 : decode cX7_level 39 = .ok (.aload_n 0, 1) := by decide +kernel
theorem dX7_level_40 : decode cX7_level 40 = .ok (.getfield 47, 3) := by decide +kernel
theorem dX7_level_43 : decode cX7_level 43 = .ok (.iload_n 1, 1) := by decide +kernel
theorem dX7_level_44 : decode cX7_level 44 = .ok (.invokevirtual 187, 3) := by decide +kernel
theorem dX7_level_47 : decode cX7_level 47 = .ok (.goto 11, 3) := by decide +kernel
theorem dX7_level_50 : decode cX7_level 50 = .ok (.aload_n 0, 1) := by decide +kernel
theorem dX7_level_51 : decode cX7_level 51 = .ok (.getfield 47, 3) := by decide +kernel
theorem dX7_level_54 : decode cX7_level 54 = .ok (.iload_n 1, 1) := by decide +kernel
theorem dX7_level_55 : decode cX7_level 55 = .ok (.invokevirtual 191, 3) := by decide +kernel
theorem dX7_level_58 : decode cX7_level 58 = .ok (.lreturn, 1) := by decide +kernel
theorem dX7_rest_0 : decode cX7_rest 0 = .ok (.iload_n 1, 1) := by decide +kernel
theorem dX7_rest_1 : decode cX7_rest 1 = .ok (.iconst 0, 1) := by decide +kernel
theorem dX7_rest_2 : decode cX7_rest 2 = .ok (.iconst 1, 1) := by decide +kernel
theorem dX7_rest_3 : decode cX7_rest 3 = .ok (.invokestatic 135, 3) := by decide +kernel
theorem dX7_rest_6 : decode cX7_rest 6 = .ok (.ifCond .ne 11, 3) := by decide +kernel
theorem dX7_rest_9 : decode cX7_rest 9 = .ok (.aload_n 0, 1) := by decide +kernel
theorem dX7_rest_10 : decode cX7_rest 10 = .ok (.bipush (-2), 2) := by decide +kernel
theorem dX7_rest_12 : decode cX7_rest 12 = .ok (.invokevirtual 105, 3) := by decide +kernel
theorem dX7_rest_15 : decode cX7_rest 15 = .ok (.i2l, 1) := by decide +kernel
theorem dX7_rest_16 : decode cX7_rest 16 = .ok (.lreturn, 1) := by decide +kernel
theorem dX7_rest_17 : decode cX7_rest 17 = .ok (.aload_n 0, 1) := by decide +kernel
theorem dX7_rest_18 : decode cX7_rest 18 = .ok (.invokevirtual 126, 3) := by decide +kernel
theorem dX7_rest_21 : decode cX7_rest 21 = .ok (.iload_n 1, 1) := by decide +kernel
theorem dX7_rest_22 : decode cX7_rest 22 = .ok (.ifCond .ne 13, 3) := by decide +kernel
theorem dX7_rest_25 : decode cX7_rest 25 = .ok (.aload_n 0, 1) := by decide +kernel
theorem dX7_rest_26 : decode cX7_rest 26 = .ok (.getfield 47, 3) := by decide +kernel
theorem dX7_rest_29 : decode cX7_rest 29 = .ok (.getfield 194, 3) := by decide +kernel
theorem dX7_rest_32 : decode cX7_rest 32 = .ok (.goto 10, 3) := by decide +kernel
theorem dX7_rest_35 : decode cX7_rest 35 = .ok (.aload_n 0, 1) := by decide +kernel
theorem dX7_rest_36 : decode cX7_rest 36 = .ok (.getfield 47, 3) := by decide +kernel
theorem dX7_rest_39 : decode cX7_rest 39 = .ok (.getfield 198, 3) := by decide +kernel
theorem dX7_rest_42 : decode cX7_rest 42 = .ok (.lreturn, 1) := by decide +kernel
theorem dX7_shows_0 : decode cX7_shows 0 = .ok (.aload_n 0, 1) := by decide +kernel
theorem dX7_shows_1 : decode cX7_shows 1 = .ok (.getfield 10, 3) := by decide +kernel
theorem dX7_shows_4 : decode cX7_shows 4 = .ok (.iload_n 1, 1) := by decide +kernel
theorem dX7_shows_5 : decode cX7_shows 5 = .ok (.invokevirtual 115, 3) := by decide +kernel
theorem dX7_shows_8 : decode cX7_shows 8 = .ok (.ifCond .eq 12, 3) := by decide +kernel
theorem dX7_shows_11 : decode cX7_shows 11 = .ok (.iload_n 2, 1) := by decide +kernel
theorem dX7_shows_12 : decode cX7_shows 12 = .ok (.iconst 0, 1) := by decide +kernel
theorem dX7_shows_13 : decode cX7_shows 13 = .ok (.iconst 3, 1) := by decide +kernel
theorem dX7_shows_14 : decode cX7_shows 14 = .ok (.invokestatic 135, 3) := by decide +kernel
theorem dX7_shows_17 : decode cX7_shows 17 = .ok (.ifCond .ne 10, 3) := by decide +kernel
theorem dX7_shows_20 : decode cX7_shows 20 = .ok (.aload_n 0, 1) := by decide +kernel
theorem dX7_shows_21 : decode cX7_shows 21 = .ok (.bipush (-2), 2) := by decide +kernel
theorem dX7_shows_23 : decode cX7_shows 23 = .ok (.invokevirtual 105, 3) := by decide +kernel
theorem dX7_shows_26 : decode cX7_shows 26 = .ok (.ireturn, 1) := by decide +kernel
theorem dX7_shows_27 : decode cX7_shows 27 = .ok (.aload_n 0, 1) := by decide +kernel
theorem dX7_shows_28 : decode cX7_shows 28 = .ok (.invokevirtual 126, 3) := by decide +kernel
theorem dX7_shows_31 : decode cX7_shows 31 = .ok (.iconst 0, 1) := by decide +kernel
theorem dX7_shows_32 : decode cX7_shows 32 = .ok (.istore_n 3, 1) := by decide +kernel
theorem dX7_shows_33 : decode cX7_shows 33 = .ok (.aload_n 0, 1) := by decide +kernel
theorem dX7_shows_34 : decode cX7_shows 34 = .ok (.iload_n 1, 1) := by decide +kernel
theorem dX7_shows_35 : decode cX7_shows 35 = .ok (.iload_n 2, 1) := by decide +kernel
theorem dX7_shows_36 : decode cX7_shows 36 = .ok (.invokevirtual 201, 3) := by decide +kernel
theorem dX7_shows_39 : decode cX7_shows 39 = .ok (.istore 4, 2) := by decide +kernel
theorem dX7_shows_41 : decode cX7_shows 41 = .ok (.aload_n 0, 1) := by decide +kernel
theorem dX7_shows_42 : decode cX7_shows 42 = .ok (.iload_n 1, 1) := by decide +kernel
theorem dX7_shows_43 : decode cX7_shows 43 = .ok (.iload_n 2, 1) := by decide +kernel
theorem dX7_shows_44 : decode cX7_shows 44 = .ok (.invokevirtual 204, 3) := by decide +kernel
theorem dX7_shows_47 : decode cX7_shows 47 = .ok (.iconst 0, 1) := by decide +kernel
theorem dX7_shows_48 : decode cX7_shows 48 = .ok (.invokestatic 207, 3) := by decide +kernel
theorem dX7_shows_51 : decode cX7_shows 51 = .ok (.istore 5, 2) := by decide +kernel
theorem dX7_shows_53 : decode cX7_shows 53 = .ok (.iload 5, 2) := by decide +kernel
theorem dX7_shows_55 : decode cX7_shows 55 = .ok (.bipush 8, 2) := by decide +kernel
theorem dX7_shows_57 : decode cX7_shows 57 = .ok (.if_icmp .ge 23, 3) := by decide +kernel
theorem dX7_shows_60 : decode cX7_shows 60 = .ok (.iload 5, 2) := by decide +kernel
theorem dX7_shows_62 : decode cX7_shows 62 = .ok (.iload 4, 2) := by decide +kernel
theorem dX7_shows_64 : decode cX7_shows 64 = .ok (.if_icmp .gt 16, 3) := by decide +kernel
theorem dX7_shows_67 : decode cX7_shows 67 = .ok (.iload_n 3, 1) := by decide +kernel
theorem dX7_shows_68 : decode cX7_shows 68 = .ok (.iconst 1, 1) := by decide +kernel
theorem dX7_shows_69 : decode cX7_shows 69 = .ok (.iload 5, 2) := by decide +kernel
theorem dX7_shows_71 : decode cX7_shows 71 = .ok (.ishl, 1) := by decide +kernel
theorem dX7_shows_72 : decode cX7_shows 72 = .ok (.ior, 1) := by decide +kernel
theorem dX7_shows_73 : decode cX7_shows 73 = .ok (.istore_n 3, 1) := by decide +kernel
theorem dX7_shows_74 : decode cX7_shows 74 = .ok (.iinc 5 1, 3) := by decide +kernel
theorem dX7_shows_77 : decode cX7_shows 77 = .ok (.goto (-24), 3) := by decide +kernel
theorem dX7_shows_80 : decode cX7_shows 80 = .ok (.iload_n 3, 1) := by decide +kernel
theorem dX7_shows_81 : decode cX7_shows 81 = .ok (.ireturn, 1) := by decide +kernel
theorem dX7_seen_0 : decode cX7_seen 0 = .ok (.aload_n 0, 1) := by decide +kernel
theorem dX7_seen_1 : decode cX7_seen 1 = .ok (.getfield 10, 3) := by decide +kernel
theorem dX7_seen_4 : decode cX7_seen 4 = .ok (.iload_n 1, 1) := by decide +kernel
theorem dX7_seen_5 : decode cX7_seen 5 = .ok (.iload_n 2, 1) := by decide +kernel
theorem dX7_seen_6 : decode cX7_seen 6 = .ok (.iload_n 3, 1) := by decide +kernel
theorem dX7_seen_7 : decode cX7_seen 7 = .ok (.invokevirtual 108, 3) := by decide +kernel
theorem dX7_seen_10 : decode cX7_seen 10 = .ok (.ifCond .ne 10, 3) := by decide +kernel
theorem dX7_seen_13 : decode cX7_seen 13 = .ok (.aload_n 0, 1) := by decide +kernel
theorem dX7_seen_14 : decode cX7_seen 14 = .ok (.bipush (-2), 2) := by decide +kernel
theorem dX7_seen_16 : decode cX7_seen 16 = .ok (.invokevirtual 105, 3) := by decide +kernel
theorem dX7_seen_19 : decode cX7_seen 19 = .ok (.ireturn, 1) := by decide +kernel
theorem dX7_seen_20 : decode cX7_seen 20 = .ok (.aload_n 0, 1) := by decide +kernel
theorem dX7_seen_21 : decode cX7_seen 21 = .ok (.invokevirtual 126, 3) := by decide +kernel
theorem dX7_seen_24 : decode cX7_seen 24 = .ok (.aload_n 0, 1) := by decide +kernel
theorem dX7_seen_25 : decode cX7_seen 25 = .ok (.getfield 47, 3) := by decide +kernel
theorem dX7_seen_28 : decode cX7_seen 28 = .ok (.iload_n 1, 1) := by decide +kernel
theorem dX7_seen_29 : decode cX7_seen 29 = .ok (.invokevirtual 191, 3) := by decide +kernel
theorem dX7_seen_32 : decode cX7_seen 32 = .ok (.lstore 4, 2) := by decide +kernel
theorem dX7_seen_34 : decode cX7_seen 34 = .ok (.aload_n 0, 1) := by decide +kernel
theorem dX7_seen_35 : decode cX7_seen 35 = .ok (.getfield 10, 3) := by decide +kernel
theorem dX7_seen_38 : decode cX7_seen 38 = .ok (.iload_n 1, 1) := by decide +kernel
theorem dX7_seen_39 : decode cX7_seen 39 = .ok (.iload_n 2, 1) := by decide +kernel
theorem dX7_seen_40 : decode cX7_seen 40 = .ok (.iload_n 3, 1) := by decide +kernel
theorem dX7_seen_41 : decode cX7_seen 41 = .ok (.invokevirtual 112, 3) := by decide +kernel
theorem dX7_seen_44 : decode cX7_seen 44 = .ok (.i2l, 1) := by decide +kernel
theorem dX7_seen_45 : decode cX7_seen 45 = .ok (.lload 4, 2) := by decide +kernel
theorem dX7_seen_47 : decode cX7_seen 47 = .ok (.lmul, 1) := by decide +kernel
theorem dX7_seen_48 : decode cX7_seen 48 = .ok (.aload_n 0, 1) := by decide +kernel
theorem dX7_seen_49 : decode cX7_seen 49 = .ok (.getfield 47, 3) := by decide +kernel
theorem dX7_seen_52 : decode cX7_seen 52 = .ok (.iload_n 1, 1) := by decide +kernel
theorem dX7_seen_53 : decode cX7_seen 53 = .ok (.invokevirtual 187, 3) := by decide +kernel
theorem dX7_seen_56 : decode cX7_seen 56 = .ok (.ladd, 1) := by decide +kernel
theorem dX7_seen_57 : decode cX7_seen 57 = .ok (.lstore 6, 2) := by decide +kernel
theorem dX7_seen_59 : decode cX7_seen 59 = .ok (.lconst 0, 1) := by decide +kernel
theorem dX7_seen_60 : decode cX7_seen 60 = .ok (.ldc2_w 212, 3) := by decide +kernel
theorem dX7_seen_63 : decode cX7_seen 63 = .ok (.lload 6, 2) := by decide +kernel
theorem dX7_seen_65 : decode cX7_seen 65 = .ok (.lload 4, 2) := by decide +kernel
theorem dX7_seen_67 : decode cX7_seen 67 = .ok (.invokestatic 214, 3) := by decide +kernel
theorem dX7_seen_70 : decode cX7_seen 70 = .ok (.invokestatic 218, 3) := by decide +kernel
theorem dX7_seen_73 : decode cX7_seen 73 = .ok (.invokestatic 221, 3) := by decide +kernel
theorem dX7_seen_76 : decode cX7_seen 76 = .ok (.l2i, 1) := by decide +kernel
theorem dX7_seen_77 : decode cX7_seen 77 = .ok (.ireturn, 1) := by decide +kernel
theorem dX7_type_0 : decode cX7_type 0 = .ok (.iload_n 1, 1) := by decide +kernel
theorem dX7_type_1 : decode cX7_type 1 = .ok (.iconst 0, 1) := by decide +kernel
theorem dX7_type_2 : decode cX7_type 2 = .ok (.bipush 127, 2) := by decide +kernel
theorem dX7_type_4 : decode cX7_type 4 = .ok (.invokestatic 135, 3) := by decide +kernel
theorem dX7_type_7 : decode cX7_type 7 = .ok (.ifCond .ne 10, 3) := by decide +kernel
theorem dX7_type_10 : decode cX7_type 10 = .ok (.aload_n 0, 1) := by decide +kernel
theorem dX7_type_11 : decode cX7_type 11 = .ok (.bipush (-2), 2) := by decide +kernel
theorem dX7_type_13 : decode cX7_type 13 = .ok (.invokevirtual 105, 3) := by decide +kernel
theorem dX7_type_16 : decode cX7_type 16 = .ok (.ireturn, 1) := by decide +kernel
theorem dX7_type_17 : decode cX7_type 17 = .ok (.aload_n 0, 1) := by decide +kernel
theorem dX7_type_18 : decode cX7_type 18 = .ok (.getfield 223, 3) := by decide +kernel
theorem dX7_type_21 : decode cX7_type 21 = .ok (.ifCond .lt 12, 3) := by decide +kernel
theorem dX7_type_24 : decode cX7_type 24 = .ok (.aload_n 0, 1) := by decide +kernel
theorem dX7_type_25 : decode cX7_type 25 = .ok (.getfield 223, 3) := by decide +kernel
theorem dX7_type_28 : decode cX7_type 28 = .ok (.bipush 120, 2) := by decide +kernel
theorem dX7_type_30 : decode cX7_type 30 = .ok (.if_icmp .lt 10, 3) := by decide +kernel
theorem dX7_type_33 : decode cX7_type 33 = .ok (.aload_n 0, 1) := by decide +kernel
theorem dX7_type_34 : decode cX7_type 34 = .ok (.bipush (-4), 2) := by decide +kernel
theorem dX7_type_36 : decode cX7_type 36 = .ok (.invokevirtual 105, 3) := by decide +kernel
theorem dX7_type_39 : decode cX7_type 39 = .ok (.ireturn, 1) := by decide +kernel
theorem dX7_type_40 : decode cX7_type 40 = .ok (.aload_n 0, 1) := by decide +kernel
theorem dX7_type_41 : decode cX7_type 41 = .ok (.getfield 58, 3) := by decide +kernel
theorem dX7_type_44 : decode cX7_type 44 = .ok (.aload_n 0, 1) := by decide +kernel
theorem dX7_type_45 : decode cX7_type 45 = .ok (.getfield 223, 3) := by decide +kernel
theorem dX7_type_48 : decode cX7_type 48 = .ok (.iload_n 1, 1) := by decide +kernel
theorem dX7_type_49 : decode cX7_type 49 = .ok (.iastore, 1) := by decide +kernel
theorem dX7_type_50 : decode cX7_type 50 = .ok (.aload_n 0, 1) := by decide +kernel
theorem dX7_type_51 : decode cX7_type 51 = .ok (.dup, 1) := by decide +kernel
theorem dX7_type_52 : decode cX7_type 52 = .ok (.getfield 223, 3) := by decide +kernel
theorem dX7_type_55 : decode cX7_type 55 = .ok (.iconst 1, 1) := by decide +kernel
theorem dX7_type_56 : decode cX7_type 56 = .ok (.iadd, 1) := by decide +kernel
theorem dX7_type_57 : decode cX7_type 57 = .ok (.putfield 223, 3) := by decide +kernel
theorem dX7_type_60 : decode cX7_type 60 = .ok (.aload_n 0, 1) := by decide +kernel
theorem dX7_type_61 : decode cX7_type 61 = .ok (.getfield 223, 3) := by decide +kernel
theorem dX7_type_64 : decode cX7_type 64 = .ok (.ireturn, 1) := by decide +kernel
theorem dX7_clear_0 : decode cX7_clear 0 = .ok (.aload_n 0, 1) := by decide +kernel
theorem dX7_clear_1 : decode cX7_clear 1 = .ok (.getfield 223, 3) := by decide +kernel
theorem dX7_clear_4 : decode cX7_clear 4 = .ok (.istore_n 1, 1) := by decide +kernel
theorem dX7_clear_5 : decode cX7_clear 5 = .ok (.aload_n 0, 1) := by decide +kernel
theorem dX7_clear_6 : decode cX7_clear 6 = .ok (.iconst 0, 1) := by decide +kernel
theorem dX7_clear_7 : decode cX7_clear 7 = .ok (.putfield 223, 3) := by decide +kernel
theorem dX7_clear_10 : decode cX7_clear 10 = .ok (.iload_n 1, 1) := by decide +kernel
theorem dX7_clear_11 : decode cX7_clear 11 = .ok (.ireturn, 1) := by decide +kernel
theorem dX7_reads_0 : decode cX7_reads 0 = .ok (.aload_n 0, 1) := by decide +kernel
theorem dX7_reads_1 : decode cX7_reads 1 = .ok (.getfield 54, 3) := by decide +kernel
theorem dX7_reads_4 : decode cX7_reads 4 = .ok (.aload_n 0, 1) := by decide +kernel
theorem dX7_reads_5 : decode cX7_reads 5 = .ok (.getfield 58, 3) := by decide +kernel
theorem dX7_reads_8 : decode cX7_reads 8 = .ok (.aload_n 0, 1) := by decide +kernel
theorem dX7_reads_9 : decode cX7_reads 9 = .ok (.getfield 223, 3) := by decide +kernel
theorem dX7_reads_12 : decode cX7_reads 12 = .ok (.invokevirtual 226, 3) := by decide +kernel
theorem dX7_reads_15 : decode cX7_reads 15 = .ok (.istore_n 1, 1) := by decide +kernel
theorem dX7_reads_16 : decode cX7_reads 16 = .ok (.iload_n 1, 1) := by decide +kernel
theorem dX7_reads_17 : decode cX7_reads 17 = .ok (.iconst (-1), 1) := by decide +kernel
theorem dX7_reads_18 : decode cX7_reads 18 = .ok (.if_icmp .eq 8, 3) := by decide +kernel
theorem dX7_reads_21 : decode cX7_reads 21 = .ok (.bipush (-10), 2) := by decide +kernel
theorem dX7_reads_23 : decode cX7_reads 23 = .ok (.iload_n 1, 1) := by decide +kernel
theorem dX7_reads_24 : decode cX7_reads 24 = .ok (.isub, 1) := by decide +kernel
theorem dX7_reads_25 : decode cX7_reads 25 = .ok (.ireturn, 1) := by decide +kernel
theorem dX7_reads_26 : decode cX7_reads 26 = .ok (.aload_n 0, 1) := by decide +kernel
theorem dX7_reads_27 : decode cX7_reads 27 = .ok (.getfield 19, 3) := by decide +kernel
theorem dX7_reads_30 : decode cX7_reads 30 = .ok (.aload_n 0, 1) := by decide +kernel
theorem dX7_reads_31 : decode cX7_reads 31 = .ok (.getfield 10, 3) := by decide +kernel
theorem dX7_reads_34 : decode cX7_reads 34 = .ok (.invokevirtual 69, 3) := by decide +kernel
theorem dX7_reads_37 : decode cX7_reads 37 = .ok (.aload_n 0, 1) := by decide +kernel
theorem dX7_reads_38 : decode cX7_reads 38 = .ok (.getfield 54, 3) := by decide +kernel
theorem dX7_reads_41 : decode cX7_reads 41 = .ok (.aload_n 0, 1) := by decide +kernel
theorem dX7_reads_42 : decode cX7_reads 42 = .ok (.getfield 10, 3) := by decide +kernel
theorem dX7_reads_45 : decode cX7_reads 45 = .ok (.invokevirtual 230, 3) := by decide +kernel
theorem dX7_reads_48 : decode cX7_reads 48 = .ok (.istore_n 2, 1) := by decide +kernel
theorem dX7_reads_49 : decode cX7_reads 49 = .ok (.iload_n 2, 1) := by decide +kernel
theorem dX7_reads_50 : decode cX7_reads 50 = .ok (.iconst (-1), 1) := by decide +kernel
theorem dX7_reads_51 : decode cX7_reads 51 = .ok (.if_icmp .eq 36, 3) := by decide +kernel
theorem dX7_reads_54 : decode cX7_reads 54 = .ok (.aload_n 0, 1) := by decide +kernel
theorem dX7_reads_55 : decode cX7_reads 55 = .ok (.getfield 19, 3) := by decide +kernel
theorem dX7_reads_58 : decode cX7_reads 58 = .ok (.aload_n 0, 1) := by decide +kernel
theorem dX7_reads_59 : decode cX7_reads 59 = .ok (.getfield 10, 3) := by decide +kernel
theorem dX7_reads_62 : decode cX7_reads 62 = .ok (.invokevirtual 234, 3) := by decide +kernel
theorem dX7_reads_65 : decode cX7_reads 65 = .ok (.aload_n 0, 1) := by decide +kernel
theorem dX7_reads_66 : decode cX7_reads 66 = .ok (.aload_n 0, 1) := by decide +kernel
theorem dX7_reads_67 : decode cX7_reads 67 = .ok (.getfield 54, 3) := by decide +kernel
theorem dX7_reads_70 : decode cX7_reads 70 = .ok (.getfield 237, 3) := by decide +kernel
theorem dX7_reads_73 : decode cX7_reads 73 = .ok (.putfield 240, 3) := by decide +kernel
theorem dX7_reads_76 : decode cX7_reads 76 = .ok (.aload_n 0, 1) := by decide +kernel
theorem dX7_reads_77 : decode cX7_reads 77 = .ok (.iload_n 2, 1) := by decide +kernel
theorem dX7_reads_78 : decode cX7_reads 78 = .ok (.putfield 65, 3) := by decide +kernel
theorem dX7_reads_81 : decode cX7_reads 81 = .ok (.sipush (-1000), 3) := by decide +kernel
theorem dX7_reads_84 : decode cX7_reads 84 = .ok (.iload_n 2, 1) := by decide +kernel
theorem dX7_reads_85 : decode cX7_reads 85 = .ok (.isub, 1) := by decide +kernel
theorem dX7_reads_86 : decode cX7_reads 86 = .ok (.ireturn, 1) := by decide +kernel
theorem dX7_reads_87 : decode cX7_reads 87 = .ok (.aload_n 0, 1) := by decide +kernel
theorem dX7_reads_88 : decode cX7_reads 88 = .ok (.aload_n 0, 1) := by decide +kernel
theorem dX7_reads_89 : decode cX7_reads 89 = .ok (.getfield 54, 3) := by decide +kernel
theorem dX7_reads_92 : decode cX7_reads 92 = .ok (.getfield 243, 3) := by decide +kernel
theorem dX7_reads_95 : decode cX7_reads 95 = .ok (.invokevirtual 77, 3) := by decide +kernel
theorem dX7_reads_98 : decode cX7_reads 98 = .ok (.ireturn, 1) := by decide +kernel
theorem dX7_why_0 : decode cX7_why 0 = .ok (.iload_n 1, 1) := by decide +kernel
theorem dX7_why_1 : decode cX7_why 1 = .ok (.iconst 0, 1) := by decide +kernel
theorem dX7_why_2 : decode cX7_why 2 = .ok (.iconst 1, 1) := by decide +kernel
theorem dX7_why_3 : decode cX7_why 3 = .ok (.invokestatic 135, 3) := by decide +kernel
theorem dX7_why_6 : decode cX7_why 6 = .ok (.ifCond .ne 13, 3) := by decide +kernel
theorem dX7_why_9 : decode cX7_why 9 = .ok (.aload_n 0, 1) := by decide +kernel
theorem dX7_why_10 : decode cX7_why 10 = .ok (.bipush (-2), 2) := by decide +kernel
theorem dX7_why_12 : decode cX7_why 12 = .ok (.invokevirtual 105, 3) := by decide +kernel
theorem dX7_why_15 : decode cX7_why 15 = .ok (.pop, 1) := by decide +kernel
theorem dX7_why_16 : decode cX7_why 16 = .ok (.bipush (-10), 2) := by decide +kernel
theorem dX7_why_18 : decode cX7_why 18 = .ok (.ireturn, 1) := by decide +kernel
theorem dX7_why_19 : decode cX7_why 19 = .ok (.iload_n 1, 1) := by decide +kernel
theorem dX7_why_20 : decode cX7_why 20 = .ok (.ifCond .ne 10, 3) := by decide +kernel
theorem dX7_why_23 : decode cX7_why 23 = .ok (.aload_n 0, 1) := by decide +kernel
theorem dX7_why_24 : decode cX7_why 24 = .ok (.getfield 240, 3) := by decide +kernel
theorem dX7_why_27 : decode cX7_why 27 = .ok (.goto 7, 3) := by decide +kernel
theorem dX7_why_30 : decode cX7_why 30 = .ok (.aload_n 0, 1) := by decide +kernel
theorem dX7_why_31 : decode cX7_why 31 = .ok (.getfield 65, 3) := by decide +kernel
theorem dX7_why_34 : decode cX7_why 34 = .ok (.ireturn, 1) := by decide +kernel
theorem dX7_back_0 : decode cX7_back 0 = .ok (.aload_n 0, 1) := by decide +kernel
theorem dX7_back_1 : decode cX7_back 1 = .ok (.getfield 19, 3) := by decide +kernel
theorem dX7_back_4 : decode cX7_back 4 = .ok (.getfield 246, 3) := by decide +kernel
theorem dX7_back_7 : decode cX7_back 7 = .ok (.ifCond .ne 10, 3) := by decide +kernel
theorem dX7_back_10 : decode cX7_back 10 = .ok (.aload_n 0, 1) := by decide +kernel
theorem dX7_back_11 : decode cX7_back 11 = .ok (.bipush (-3), 2) := by decide +kernel
theorem dX7_back_13 : decode cX7_back 13 = .ok (.invokevirtual 105, 3) := by decide +kernel
theorem dX7_back_16 : decode cX7_back 16 = .ok (.ireturn, 1) := by decide +kernel
theorem dX7_back_17 : decode cX7_back 17 = .ok (.aload_n 0, 1) := by decide +kernel
theorem dX7_back_18 : decode cX7_back 18 = .ok (.getfield 19, 3) := by decide +kernel
theorem dX7_back_21 : decode cX7_back 21 = .ok (.aload_n 0, 1) := by decide +kernel
theorem dX7_back_22 : decode cX7_back 22 = .ok (.getfield 10, 3) := by decide +kernel
theorem dX7_back_25 : decode cX7_back 25 = .ok (.invokevirtual 247, 3) := by decide +kernel
theorem dX7_back_28 : decode cX7_back 28 = .ok (.aload_n 0, 1) := by decide +kernel
theorem dX7_back_29 : decode cX7_back 29 = .ok (.iconst 0, 1) := by decide +kernel
theorem dX7_back_30 : decode cX7_back 30 = .ok (.putfield 250, 3) := by decide +kernel
theorem dX7_back_33 : decode cX7_back 33 = .ok (.aload_n 0, 1) := by decide +kernel
theorem dX7_back_34 : decode cX7_back 34 = .ok (.getfield 19, 3) := by decide +kernel
theorem dX7_back_37 : decode cX7_back 37 = .ok (.getfield 246, 3) := by decide +kernel
theorem dX7_back_40 : decode cX7_back 40 = .ok (.ireturn, 1) := by decide +kernel
theorem dX7_told_0 : decode cX7_told 0 = .ok (.iload_n 1, 1) := by decide +kernel
theorem dX7_told_1 : decode cX7_told 1 = .ok (.iconst 0, 1) := by decide +kernel
theorem dX7_told_2 : decode cX7_told 2 = .ok (.bipush 8, 2) := by decide +kernel
theorem dX7_told_4 : decode cX7_told 4 = .ok (.invokestatic 135, 3) := by decide +kernel
theorem dX7_told_7 : decode cX7_told 7 = .ok (.ifCond .eq 11, 3) := by decide +kernel
theorem dX7_told_10 : decode cX7_told 10 = .ok (.aload_n 0, 1) := by decide +kernel
theorem dX7_told_11 : decode cX7_told 11 = .ok (.iload_n 1, 1) := by decide +kernel
theorem dX7_told_12 : decode cX7_told 12 = .ok (.invokevirtual 253, 3) := by decide +kernel
theorem dX7_told_15 : decode cX7_told 15 = .ok (.goto 9, 3) := by decide +kernel
theorem dX7_told_18 : decode cX7_told 18 = .ok (.aload_n 0, 1) := by decide +kernel
theorem dX7_told_19 : decode cX7_told 19 = .ok (.bipush (-2), 2) := by decide +kernel
theorem dX7_told_21 : decode cX7_told 21 = .ok (.invokevirtual 105, 3) := by decide +kernel
theorem dX7_told_24 : decode cX7_told 24 = .ok (.ireturn, 1) := by decide +kernel
theorem dX7_digest_0 : decode cX7_digest 0 = .ok (.aload_n 0, 1) := by decide +kernel
theorem dX7_digest_1 : decode cX7_digest 1 = .ok (.invokevirtual 126, 3) := by decide +kernel
theorem dX7_digest_4 : decode cX7_digest 4 = .ok (.ldc2_w 256, 3) := by decide +kernel
theorem dX7_digest_7 : decode cX7_digest 7 = .ok (.lstore_n 1, 1) := by decide +kernel
theorem dX7_digest_8 : decode cX7_digest 8 = .ok (.iconst 0, 1) := by decide +kernel
theorem dX7_digest_9 : decode cX7_digest 9 = .ok (.istore_n 3, 1) := by decide +kernel
theorem dX7_digest_10 : decode cX7_digest 10 = .ok (.iload_n 3, 1) := by decide +kernel
theorem dX7_digest_11 : decode cX7_digest 11 = .ok (.bipush 8, 2) := by decide +kernel
theorem dX7_digest_13 : decode cX7_digest 13 = .ok (.if_icmp .gt 22, 3) := by decide +kernel
theorem dX7_digest_16 : decode cX7_digest 16 = .ok (.ldc2_w 258, 3) := by decide +kernel
theorem dX7_digest_19 : decode cX7_digest 19 = .ok (.lload_n 1, 1) := by decide +kernel
theorem dX7_digest_20 : decode cX7_digest 20 = .ok (.lmul, 1) := by decide +kernel
theorem dX7_digest_21 : decode cX7_digest 21 = .ok (.aload_n 0, 1) := by decide +kernel
theorem dX7_digest_22 : decode cX7_digest 22 = .ok (.iload_n 3, 1) := by decide +kernel
theorem dX7_digest_23 : decode cX7_digest 23 = .ok (.invokevirtual 253, 3) := by decide +kernel
theorem dX7_digest_26 : decode cX7_digest 26 = .ok (.i2l, 1) := by decide +kernel
theorem dX7_digest_27 : decode cX7_digest 27 = .ok (.ladd, 1) := by decide +kernel
theorem dX7_digest_28 : decode cX7_digest 28 = .ok (.lstore_n 1, 1) := by decide +kernel
theorem dX7_digest_29 : decode cX7_digest 29 = .ok (.iinc 3 1, 3) := by decide +kernel
theorem dX7_digest_32 : decode cX7_digest 32 = .ok (.goto (-22), 3) := by decide +kernel
theorem dX7_digest_35 : decode cX7_digest 35 = .ok (.ldc2_w 258, 3) := by decide +kernel
theorem dX7_digest_38 : decode cX7_digest 38 = .ok (.lload_n 1, 1) := by decide +kernel
theorem dX7_digest_39 : decode cX7_digest 39 = .ok (.lmul, 1) := by decide +kernel
theorem dX7_digest_40 : decode cX7_digest 40 = .ok (.aload_n 0, 1) := by decide +kernel
theorem dX7_digest_41 : decode cX7_digest 41 = .ok (.getfield 240, 3) := by decide +kernel
theorem dX7_digest_44 : decode cX7_digest 44 = .ok (.i2l, 1) := by decide +kernel
theorem dX7_digest_45 : decode cX7_digest 45 = .ok (.ladd, 1) := by decide +kernel
theorem dX7_digest_46 : decode cX7_digest 46 = .ok (.lstore_n 1, 1) := by decide +kernel
theorem dX7_digest_47 : decode cX7_digest 47 = .ok (.ldc2_w 258, 3) := by decide +kernel
theorem dX7_digest_50 : decode cX7_digest 50 = .ok (.lload_n 1, 1) := by decide +kernel
theorem dX7_digest_51 : decode cX7_digest 51 = .ok (.lmul, 1) := by decide +kernel
theorem dX7_digest_52 : decode cX7_digest 52 = .ok (.aload_n 0, 1) := by decide +kernel
theorem dX7_digest_53 : decode cX7_digest 53 = .ok (.getfield 65, 3) := by decide +kernel
theorem dX7_digest_56 : decode cX7_digest 56 = .ok (.i2l, 1) := by decide +kernel
theorem dX7_digest_57 : decode cX7_digest 57 = .ok (.ladd, 1) := by decide +kernel
theorem dX7_digest_58 : decode cX7_digest 58 = .ok (.lstore_n 1, 1) := by decide +kernel
theorem dX7_digest_59 : decode cX7_digest 59 = .ok (.iconst 0, 1) := by decide +kernel
theorem dX7_digest_60 : decode cX7_digest 60 = .ok (.istore_n 3, 1) := by decide +kernel
theorem dX7_digest_61 : decode cX7_digest 61 = .ok (.iload_n 3, 1) := by decide +kernel
theorem dX7_digest_62 : decode cX7_digest 62 = .ok (.aload_n 0, 1) := by decide +kernel
theorem dX7_digest_63 : decode cX7_digest 63 = .ok (.getfield 10, 3) := by decide +kernel
theorem dX7_digest_66 : decode cX7_digest 66 = .ok (.getfield 260, 3) := by decide +kernel
theorem dX7_digest_69 : decode cX7_digest 69 = .ok (.if_icmp .ge 16, 3) := by decide +kernel
theorem dX7_digest_72 : decode cX7_digest 72 = .ok (.aload_n 0, 1) := by decide +kernel
theorem dX7_digest_73 : decode cX7_digest 73 = .ok (.lload_n 1, 1) := by decide +kernel
theorem dX7_digest_74 : decode cX7_digest 74 = .ok (.iload_n 3, 1) := by decide +kernel
theorem dX7_digest_75 : decode cX7_digest 75 = .ok (.invokevirtual 261, 3) := by decide +kernel
theorem dX7_digest_78 : decode cX7_digest 78 = .ok (.lstore_n 1, 1) := by decide +kernel
theorem dX7_digest_79 : decode cX7_digest 79 = .ok (.iinc 3 1, 3) := by decide +kernel
theorem dX7_digest_82 : decode cX7_digest 82 = .ok (.goto (-21), 3) := by decide +kernel
theorem dX7_digest_85 : decode cX7_digest 85 = .ok (.iconst 0, 1) := by decide +kernel
theorem dX7_digest_86 : decode cX7_digest 86 = .ok (.istore_n 3, 1) := by decide +kernel
theorem dX7_digest_87 : decode cX7_digest 87 = .ok (.iload_n 3, 1) := by decide +kernel
theorem dX7_digest_88 : decode cX7_digest 88 = .ok (.iconst 5, 1) := by decide +kernel
theorem dX7_digest_89 : decode cX7_digest 89 = .ok (.if_icmp .gt 22, 3) := by decide +kernel
theorem dX7_digest_92 : decode cX7_digest 92 = .ok (.ldc2_w 258, 3) := by decide +kernel
theorem dX7_digest_95 : decode cX7_digest 95 = .ok (.lload_n 1, 1) := by decide +kernel
theorem dX7_digest_96 : decode cX7_digest 96 = .ok (.lmul, 1) := by decide +kernel
theorem dX7_digest_97 : decode cX7_digest 97 = .ok (.aload_n 0, 1) := by decide +kernel
theorem dX7_digest_98 : decode cX7_digest 98 = .ok (.iload_n 3, 1) := by decide +kernel
theorem dX7_digest_99 : decode cX7_digest 99 = .ok (.invokevirtual 157, 3) := by decide +kernel
theorem dX7_digest_102 : decode cX7_digest 102 = .ok (.i2l, 1) := by decide +kernel
theorem dX7_digest_103 : decode cX7_digest 103 = .ok (.ladd, 1) := by decide +kernel
theorem dX7_digest_104 : decode cX7_digest 104 = .ok (.lstore_n 1, 1) := by decide +kernel
theorem dX7_digest_105 : decode cX7_digest 105 = .ok (.iinc 3 1, 3) := by decide +kernel
theorem dX7_digest_108 : decode cX7_digest 108 = .ok (.goto (-21), 3) := by decide +kernel
theorem dX7_digest_111 : decode cX7_digest 111 = .ok (.lload_n 1, 1) := by decide +kernel
theorem dX7_digest_112 : decode cX7_digest 112 = .ok (.lreturn, 1) := by decide +kernel
theorem dX7_settle_0 : decode cX7_settle 0 = .ok (.iload_n 1, 1) := by decide +kernel
theorem dX7_settle_1 : decode cX7_settle 1 = .ok (.ifCond .ge 9, 3) := by decide +kernel
theorem dX7_settle_4 : decode cX7_settle 4 = .ok (.aload_n 0, 1) := by decide +kernel
theorem dX7_settle_5 : decode cX7_settle 5 = .ok (.iload_n 1, 1) := by decide +kernel
theorem dX7_settle_6 : decode cX7_settle 6 = .ok (.invokevirtual 105, 3) := by decide +kernel
theorem dX7_settle_9 : decode cX7_settle 9 = .ok (.ireturn, 1) := by decide +kernel
theorem dX7_settle_10 : decode cX7_settle 10 = .ok (.aload_n 0, 1) := by decide +kernel
theorem dX7_settle_11 : decode cX7_settle 11 = .ok (.getfield 19, 3) := by decide +kernel
theorem dX7_settle_14 : decode cX7_settle 14 = .ok (.invokevirtual 265, 3) := by decide +kernel
theorem dX7_settle_17 : decode cX7_settle 17 = .ok (.aload_n 0, 1) := by decide +kernel
theorem dX7_settle_18 : decode cX7_settle 18 = .ok (.iconst 0, 1) := by decide +kernel
theorem dX7_settle_19 : decode cX7_settle 19 = .ok (.putfield 250, 3) := by decide +kernel
theorem dX7_settle_22 : decode cX7_settle 22 = .ok (.iload_n 1, 1) := by decide +kernel
theorem dX7_settle_23 : decode cX7_settle 23 = .ok (.ireturn, 1) := by decide +kernel
theorem dX7_refuse_0 : decode cX7_refuse 0 = .ok (.bipush (-2), 2) := by decide +kernel
theorem dX7_refuse_2 : decode cX7_refuse 2 = .ok (.iload_n 1, 1) := by decide +kernel
theorem dX7_refuse_3 : decode cX7_refuse 3 = .ok (.isub, 1) := by decide +kernel
theorem dX7_refuse_4 : decode cX7_refuse 4 = .ok (.istore_n 2, 1) := by decide +kernel
theorem dX7_refuse_5 : decode cX7_refuse 5 = .ok (.iload_n 2, 1) := by decide +kernel
theorem dX7_refuse_6 : decode cX7_refuse 6 = .ok (.ifCond .lt 22, 3) := by decide +kernel
theorem dX7_refuse_9 : decode cX7_refuse 9 = .ok (.iload_n 2, 1) := by decide +kernel
theorem dX7_refuse_10 : decode cX7_refuse 10 = .ok (.aload_n 0, 1) := by decide +kernel
theorem dX7_refuse_11 : decode cX7_refuse 11 = .ok (.getfield 62, 3) := by decide +kernel
theorem dX7_refuse_14 : decode cX7_refuse 14 = .ok (.arraylength, 1) := by decide +kernel
theorem dX7_refuse_15 : decode cX7_refuse 15 = .ok (.if_icmp .ge 13, 3) := by decide +kernel
theorem dX7_refuse_18 : decode cX7_refuse 18 = .ok (.aload_n 0, 1) := by decide +kernel
theorem dX7_refuse_19 : decode cX7_refuse 19 = .ok (.getfield 62, 3) := by decide +kernel
theorem dX7_refuse_22 : decode cX7_refuse 22 = .ok (.iload_n 2, 1) := by decide +kernel
theorem dX7_refuse_23 : decode cX7_refuse 23 = .ok (.dup2, 1) := by decide +kernel
theorem dX7_refuse_24 : decode cX7_refuse 24 = .ok (.iaload, 1) := by decide +kernel
theorem dX7_refuse_25 : decode cX7_refuse 25 = .ok (.iconst 1, 1) := by decide +kernel
theorem dX7_refuse_26 : decode cX7_refuse 26 = .ok (.iadd, 1) := by decide +kernel
theorem dX7_refuse_27 : decode cX7_refuse 27 = .ok (.iastore, 1) := by decide +kernel
theorem dX7_refuse_28 : decode cX7_refuse 28 = .ok (.iload_n 1, 1) := by decide +kernel
theorem dX7_refuse_29 : decode cX7_refuse 29 = .ok (.ireturn, 1) := by decide +kernel
theorem dX7_refresh_0 : decode cX7_refresh 0 = .ok (.aload_n 0, 1) := by decide +kernel
theorem dX7_refresh_1 : decode cX7_refresh 1 = .ok (.getfield 250, 3) := by decide +kernel
theorem dX7_refresh_4 : decode cX7_refresh 4 = .ok (.ifCond .eq 4, 3) := by decide +kernel
theorem dX7_refresh_7 : decode cX7_refresh 7 = .ok (.return_, 1) := by decide +kernel
theorem dX7_refresh_8 : decode cX7_refresh 8 = .ok (.aload_n 0, 1) := by decide +kernel
theorem dX7_refresh_9 : decode cX7_refresh 9 = .ok (.getfield 26, 3) := by decide +kernel
theorem dX7_refresh_12 : decode cX7_refresh 12 = .ok (.aload_n 0, 1) := by decide +kernel
theorem dX7_refresh_13 : decode cX7_refresh 13 = .ok (.getfield 10, 3) := by decide +kernel
theorem dX7_refresh_16 : decode cX7_refresh 16 = .ok (.invokevirtual 268, 3) := by decide +kernel
theorem dX7_refresh_19 : decode cX7_refresh 19 = .ok (.aload_n 0, 1) := by decide +kernel
theorem dX7_refresh_20 : decode cX7_refresh 20 = .ok (.getfield 33, 3) := by decide +kernel
theorem dX7_refresh_23 : decode cX7_refresh 23 = .ok (.aload_n 0, 1) := by decide +kernel
theorem dX7_refresh_24 : decode cX7_refresh 24 = .ok (.getfield 10, 3) := by decide +kernel
theorem dX7_refresh_27 : decode cX7_refresh 27 = .ok (.aload_n 0, 1) := by decide +kernel
theorem dX7_refresh_28 : decode cX7_refresh 28 = .ok (.getfield 26, 3) := by decide +kernel
theorem dX7_refresh_31 : decode cX7_refresh 31 = .ok (.invokevirtual 271, 3) := by decide +kernel
theorem dX7_refresh_34 : decode cX7_refresh 34 = .ok (.aload_n 0, 1) := by decide +kernel
theorem dX7_refresh_35 : decode cX7_refresh 35 = .ok (.getfield 40, 3) := by decide +kernel
theorem dX7_refresh_38 : decode cX7_refresh 38 = .ok (.aload_n 0, 1) := by decide +kernel
theorem dX7_refresh_39 : decode cX7_refresh 39 = .ok (.getfield 10, 3) := by decide +kernel
theorem dX7_refresh_42 : decode cX7_refresh 42 = .ok (.aload_n 0, 1) := by decide +kernel
theorem dX7_refresh_43 : decode cX7_refresh 43 = .ok (.getfield 33, 3) := by decide +kernel
theorem dX7_refresh_46 : decode cX7_refresh 46 = .ok (.invokevirtual 275, 3) := by decide +kernel
theorem dX7_refresh_49 : decode cX7_refresh 49 = .ok (.aload_n 0, 1) := by decide +kernel
theorem dX7_refresh_50 : decode cX7_refresh 50 = .ok (.getfield 47, 3) := by decide +kernel
theorem dX7_refresh_53 : decode cX7_refresh 53 = .ok (.aload_n 0, 1) := by decide +kernel
theorem dX7_refresh_54 : decode cX7_refresh 54 = .ok (.getfield 10, 3) := by decide +kernel
theorem dX7_refresh_57 : decode cX7_refresh 57 = .ok (.getfield 260, 3) := by decide +kernel
theorem dX7_refresh_60 : decode cX7_refresh 60 = .ok (.aload_n 0, 1) := by decide +kernel
theorem dX7_refresh_61 : decode cX7_refresh 61 = .ok (.getfield 33, 3) := by decide +kernel
theorem dX7_refresh_64 : decode cX7_refresh 64 = .ok (.aload_n 0, 1) := by decide +kernel
theorem dX7_refresh_65 : decode cX7_refresh 65 = .ok (.getfield 40, 3) := by decide +kernel
theorem dX7_refresh_68 : decode cX7_refresh 68 = .ok (.invokevirtual 279, 3) := by decide +kernel
theorem dX7_refresh_71 : decode cX7_refresh 71 = .ok (.aload_n 0, 1) := by decide +kernel
theorem dX7_refresh_72 : decode cX7_refresh 72 = .ok (.iconst 1, 1) := by decide +kernel
theorem dX7_refresh_73 : decode cX7_refresh 73 = .ok (.putfield 250, 3) := by decide +kernel
theorem dX7_refresh_76 : decode cX7_refresh 76 = .ok (.return_, 1) := by decide +kernel
theorem dX7_isPair_0 : decode cX7_isPair 0 = .ok (.aload_n 0, 1) := by decide +kernel
theorem dX7_isPair_1 : decode cX7_isPair 1 = .ok (.getfield 10, 3) := by decide +kernel
theorem dX7_isPair_4 : decode cX7_isPair 4 = .ok (.iload_n 1, 1) := by decide +kernel
theorem dX7_isPair_5 : decode cX7_isPair 5 = .ok (.invokevirtual 115, 3) := by decide +kernel
theorem dX7_isPair_8 : decode cX7_isPair 8 = .ok (.ifCond .eq 23, 3) := by decide +kernel
theorem dX7_isPair_11 : decode cX7_isPair 11 = .ok (.aload_n 0, 1) := by decide +kernel
theorem dX7_isPair_12 : decode cX7_isPair 12 = .ok (.getfield 10, 3) := by decide +kernel
theorem dX7_isPair_15 : decode cX7_isPair 15 = .ok (.iload_n 2, 1) := by decide +kernel
theorem dX7_isPair_16 : decode cX7_isPair 16 = .ok (.invokevirtual 115, 3) := by decide +kernel
theorem dX7_isPair_19 : decode cX7_isPair 19 = .ok (.ifCond .eq 12, 3) := by decide +kernel
theorem dX7_isPair_22 : decode cX7_isPair 22 = .ok (.iload_n 1, 1) := by decide +kernel
theorem dX7_isPair_23 : decode cX7_isPair 23 = .ok (.iload_n 2, 1) := by decide +kernel
theorem dX7_isPair_24 : decode cX7_isPair 24 = .ok (.if_icmp .eq 7, 3) := by decide +kernel
theorem dX7_isPair_27 : decode cX7_isPair 27 = .ok (.iconst 1, 1) := by decide +kernel
theorem dX7_isPair_28 : decode cX7_isPair 28 = .ok (.goto 4, 3) := by decide +kernel
theorem dX7_isPair_31 : decode cX7_isPair 31 = .ok (.iconst 0, 1) := by decide +kernel
theorem dX7_isPair_32 : decode cX7_isPair 32 = .ok (.ireturn, 1) := by decide +kernel
theorem dX7_aboutAll_0 : decode cX7_aboutAll 0 = .ok (.iload_n 1, 1) := by decide +kernel
theorem dX7_aboutAll_1 : decode cX7_aboutAll 1 = .ok (.tableswitch 86 0 4 #[35, 43, 59, 67, 78], 35) := by decide +kernel
theorem dX7_aboutAll_36 : decode cX7_aboutAll 36 = .ok (.aload_n 0, 1) := by decide +kernel
theorem dX7_aboutAll_37 : decode cX7_aboutAll 37 = .ok (.getfield 33, 3) := by decide +kernel
theorem dX7_aboutAll_40 : decode cX7_aboutAll 40 = .ok (.getfield 283, 3) := by decide +kernel
theorem dX7_aboutAll_43 : decode cX7_aboutAll 43 = .ok (.ireturn, 1) := by decide +kernel
theorem dX7_aboutAll_44 : decode cX7_aboutAll 44 = .ok (.aload_n 0, 1) := by decide +kernel
theorem dX7_aboutAll_45 : decode cX7_aboutAll 45 = .ok (.getfield 33, 3) := by decide +kernel
theorem dX7_aboutAll_48 : decode cX7_aboutAll 48 = .ok (.getfield 160, 3) := by decide +kernel
theorem dX7_aboutAll_51 : decode cX7_aboutAll 51 = .ok (.ifCond .eq 7, 3) := by decide +kernel
theorem dX7_aboutAll_54 : decode cX7_aboutAll 54 = .ok (.iconst 1, 1) := by decide +kernel
theorem dX7_aboutAll_55 : decode cX7_aboutAll 55 = .ok (.goto 4, 3) := by decide +kernel
theorem dX7_aboutAll_58 : decode cX7_aboutAll 58 = .ok (.iconst 0, 1) := by decide +kernel
theorem dX7_aboutAll_59 : decode cX7_aboutAll 59 = .ok (.ireturn, 1) := by decide +kernel
theorem dX7_aboutAll_60 : decode cX7_aboutAll 60 = .ok (.aload_n 0, 1) := by decide +kernel
theorem dX7_aboutAll_61 : decode cX7_aboutAll 61 = .ok (.getfield 33, 3) := by decide +kernel
theorem dX7_aboutAll_64 : decode cX7_aboutAll 64 = .ok (.getfield 286, 3) := by decide +kernel
theorem dX7_aboutAll_67 : decode cX7_aboutAll 67 = .ok (.ireturn, 1) := by decide +kernel
theorem dX7_aboutAll_68 : decode cX7_aboutAll 68 = .ok (.aload_n 0, 1) := by decide +kernel
theorem dX7_aboutAll_69 : decode cX7_aboutAll 69 = .ok (.getfield 33, 3) := by decide +kernel
theorem dX7_aboutAll_72 : decode cX7_aboutAll 72 = .ok (.getfield 289, 3) := by decide +kernel
theorem dX7_aboutAll_75 : decode cX7_aboutAll 75 = .ok (.bipush 6, 2) := by decide +kernel
theorem dX7_aboutAll_77 : decode cX7_aboutAll 77 = .ok (.iadd, 1) := by decide +kernel
theorem dX7_aboutAll_78 : decode cX7_aboutAll 78 = .ok (.ireturn, 1) := by decide +kernel
theorem dX7_aboutAll_79 : decode cX7_aboutAll 79 = .ok (.aload_n 0, 1) := by decide +kernel
theorem dX7_aboutAll_80 : decode cX7_aboutAll 80 = .ok (.getfield 33, 3) := by decide +kernel
theorem dX7_aboutAll_83 : decode cX7_aboutAll 83 = .ok (.getfield 292, 3) := by decide +kernel
theorem dX7_aboutAll_86 : decode cX7_aboutAll 86 = .ok (.ireturn, 1) := by decide +kernel
theorem dX7_aboutAll_87 : decode cX7_aboutAll 87 = .ok (.aload_n 0, 1) := by decide +kernel
theorem dX7_aboutAll_88 : decode cX7_aboutAll 88 = .ok (.getfield 10, 3) := by decide +kernel
theorem dX7_aboutAll_91 : decode cX7_aboutAll 91 = .ok (.getfield 260, 3) := by decide +kernel
theorem dX7_aboutAll_94 : decode cX7_aboutAll 94 = .ok (.aload_n 0, 1) := by decide +kernel
theorem dX7_aboutAll_95 : decode cX7_aboutAll 95 = .ok (.getfield 33, 3) := by decide +kernel
theorem dX7_aboutAll_98 : decode cX7_aboutAll 98 = .ok (.getfield 283, 3) := by decide +kernel
theorem dX7_aboutAll_101 : decode cX7_aboutAll 101 = .ok (.isub, 1) := by decide +kernel
theorem dX7_aboutAll_102 : decode cX7_aboutAll 102 = .ok (.ireturn, 1) := by decide +kernel
theorem dX7_aboutObject_0 : decode cX7_aboutObject 0 = .ok (.iload_n 1, 1) := by decide +kernel
theorem dX7_aboutObject_1 : decode cX7_aboutObject 1 = .ok (.tableswitch 105 0 7 #[47, 54, 61, 68, 73, 81, 89, 97], 47) := by decide +kernel
theorem dX7_aboutObject_48 : decode cX7_aboutObject 48 = .ok (.aload_n 0, 1) := by decide +kernel
theorem dX7_aboutObject_49 : decode cX7_aboutObject 49 = .ok (.getfield 62, 3) := by decide +kernel
theorem dX7_aboutObject_52 : decode cX7_aboutObject 52 = .ok (.iconst 0, 1) := by decide +kernel
theorem dX7_aboutObject_53 : decode cX7_aboutObject 53 = .ok (.iaload, 1) := by decide +kernel
theorem dX7_aboutObject_54 : decode cX7_aboutObject 54 = .ok (.ireturn, 1) := by decide +kernel
theorem dX7_aboutObject_55 : decode cX7_aboutObject 55 = .ok (.aload_n 0, 1) := by decide +kernel
theorem dX7_aboutObject_56 : decode cX7_aboutObject 56 = .ok (.getfield 62, 3) := by decide +kernel
theorem dX7_aboutObject_59 : decode cX7_aboutObject 59 = .ok (.iconst 1, 1) := by decide +kernel
theorem dX7_aboutObject_60 : decode cX7_aboutObject 60 = .ok (.iaload, 1) := by decide +kernel
theorem dX7_aboutObject_61 : decode cX7_aboutObject 61 = .ok (.ireturn, 1) := by decide +kernel
theorem dX7_aboutObject_62 : decode cX7_aboutObject 62 = .ok (.aload_n 0, 1) := by decide +kernel
theorem dX7_aboutObject_63 : decode cX7_aboutObject 63 = .ok (.getfield 62, 3) := by decide +kernel
theorem dX7_aboutObject_66 : decode cX7_aboutObject 66 = .ok (.iconst 2, 1) := by decide +kernel
theorem dX7_aboutObject_67 : decode cX7_aboutObject 67 = .ok (.iaload, 1) := by decide +kernel
theorem dX7_aboutObject_68 : decode cX7_aboutObject 68 = .ok (.ireturn, 1) := by decide +kernel
theorem dX7_aboutObject_69 : decode cX7_aboutObject 69 = .ok (.aload_n 0, 1) := by decide +kernel
theorem dX7_aboutObject_70 : decode cX7_aboutObject 70 = .ok (.getfield 223, 3) := by decide +kernel
theorem dX7_aboutObject_73 : decode cX7_aboutObject 73 = .ok (.ireturn, 1) := by decide +kernel
theorem dX7_aboutObject_74 : decode cX7_aboutObject 74 = .ok (.aload_n 0, 1) := by decide +kernel
theorem dX7_aboutObject_75 : decode cX7_aboutObject 75 = .ok (.getfield 10, 3) := by decide +kernel
theorem dX7_aboutObject_78 : decode cX7_aboutObject 78 = .ok (.getfield 295, 3) := by decide +kernel
theorem dX7_aboutObject_81 : decode cX7_aboutObject 81 = .ok (.ireturn, 1) := by decide +kernel
theorem dX7_aboutObject_82 : decode cX7_aboutObject 82 = .ok (.aload_n 0, 1) := by decide +kernel
theorem dX7_aboutObject_83 : decode cX7_aboutObject 83 = .ok (.getfield 10, 3) := by decide +kernel
theorem dX7_aboutObject_86 : decode cX7_aboutObject 86 = .ok (.getfield 260, 3) := by decide +kernel
theorem dX7_aboutObject_89 : decode cX7_aboutObject 89 = .ok (.ireturn, 1) := by decide +kernel
theorem dX7_aboutObject_90 : decode cX7_aboutObject 90 = .ok (.aload_n 0, 1) := by decide +kernel
theorem dX7_aboutObject_91 : decode cX7_aboutObject 91 = .ok (.getfield 10, 3) := by decide +kernel
theorem dX7_aboutObject_94 : decode cX7_aboutObject 94 = .ok (.getfield 298, 3) := by decide +kernel
theorem dX7_aboutObject_97 : decode cX7_aboutObject 97 = .ok (.ireturn, 1) := by decide +kernel
theorem dX7_aboutObject_98 : decode cX7_aboutObject 98 = .ok (.aload_n 0, 1) := by decide +kernel
theorem dX7_aboutObject_99 : decode cX7_aboutObject 99 = .ok (.getfield 10, 3) := by decide +kernel
theorem dX7_aboutObject_102 : decode cX7_aboutObject 102 = .ok (.getfield 301, 3) := by decide +kernel
theorem dX7_aboutObject_105 : decode cX7_aboutObject 105 = .ok (.ireturn, 1) := by decide +kernel
theorem dX7_aboutObject_106 : decode cX7_aboutObject 106 = .ok (.aload_n 0, 1) := by decide +kernel
theorem dX7_aboutObject_107 : decode cX7_aboutObject 107 = .ok (.getfield 19, 3) := by decide +kernel
theorem dX7_aboutObject_110 : decode cX7_aboutObject 110 = .ok (.getfield 246, 3) := by decide +kernel
theorem dX7_aboutObject_113 : decode cX7_aboutObject 113 = .ok (.ireturn, 1) := by decide +kernel
theorem dX7_firstShown_0 : decode cX7_firstShown 0 = .ok (.aload_n 0, 1) := by decide +kernel
theorem dX7_firstShown_1 : decode cX7_firstShown 1 = .ok (.getfield 33, 3) := by decide +kernel
theorem dX7_firstShown_4 : decode cX7_firstShown 4 = .ok (.iload_n 1, 1) := by decide +kernel
theorem dX7_firstShown_5 : decode cX7_firstShown 5 = .ok (.invokevirtual 154, 3) := by decide +kernel
theorem dX7_firstShown_8 : decode cX7_firstShown 8 = .ok (.istore_n 3, 1) := by decide +kernel
theorem dX7_firstShown_9 : decode cX7_firstShown 9 = .ok (.iload_n 3, 1) := by decide +kernel
theorem dX7_firstShown_10 : decode cX7_firstShown 10 = .ok (.iconst (-1), 1) := by decide +kernel
theorem dX7_firstShown_11 : decode cX7_firstShown 11 = .ok (.if_icmp .ne 5, 3) := by decide +kernel
theorem dX7_firstShown_14 : decode cX7_firstShown 14 = .ok (.iconst 0, 1) := by decide +kernel
theorem dX7_firstShown_15 : decode cX7_firstShown 15 = .ok (.ireturn, 1) := by decide +kernel
theorem dX7_firstShown_16 : decode cX7_firstShown 16 = .ok (.aload_n 0, 1) := by decide +kernel
theorem dX7_firstShown_17 : decode cX7_firstShown 17 = .ok (.getfield 40, 3) := by decide +kernel
theorem dX7_firstShown_20 : decode cX7_firstShown 20 = .ok (.iload_n 3, 1) := by decide +kernel
theorem dX7_firstShown_21 : decode cX7_firstShown 21 = .ok (.iload_n 2, 1) := by decide +kernel
theorem dX7_firstShown_22 : decode cX7_firstShown 22 = .ok (.aload_n 0, 1) := by decide +kernel
theorem dX7_firstShown_23 : decode cX7_firstShown 23 = .ok (.getfield 33, 3) := by decide +kernel
theorem dX7_firstShown_26 : decode cX7_firstShown 26 = .ok (.iload_n 3, 1) := by decide +kernel
theorem dX7_firstShown_27 : decode cX7_firstShown 27 = .ok (.invokevirtual 304, 3) := by decide +kernel
theorem dX7_firstShown_30 : decode cX7_firstShown 30 = .ok (.iadd, 1) := by decide +kernel
theorem dX7_firstShown_31 : decode cX7_firstShown 31 = .ok (.invokevirtual 182, 3) := by decide +kernel
theorem dX7_firstShown_34 : decode cX7_firstShown 34 = .ok (.istore 4, 2) := by decide +kernel
theorem dX7_firstShown_36 : decode cX7_firstShown 36 = .ok (.iload 4, 2) := by decide +kernel
theorem dX7_firstShown_38 : decode cX7_firstShown 38 = .ok (.iconst (-1), 1) := by decide +kernel
theorem dX7_firstShown_39 : decode cX7_firstShown 39 = .ok (.if_icmp .ne 7, 3) := by decide +kernel
theorem dX7_firstShown_42 : decode cX7_firstShown 42 = .ok (.iconst 0, 1) := by decide +kernel
theorem dX7_firstShown_43 : decode cX7_firstShown 43 = .ok (.goto 14, 3) := by decide +kernel
theorem dX7_firstShown_46 : decode cX7_firstShown 46 = .ok (.iload 4, 2) := by decide +kernel
theorem dX7_firstShown_48 : decode cX7_firstShown 48 = .ok (.aload_n 0, 1) := by decide +kernel
theorem dX7_firstShown_49 : decode cX7_firstShown 49 = .ok (.getfield 33, 3) := by decide +kernel
theorem dX7_firstShown_52 : decode cX7_firstShown 52 = .ok (.iload_n 3, 1) := by decide +kernel
theorem dX7_firstShown_53 : decode cX7_firstShown 53 = .ok (.invokevirtual 306, 3) := by decide +kernel
theorem dX7_firstShown_56 : decode cX7_firstShown 56 = .ok (.isub, 1) := by decide +kernel
theorem dX7_firstShown_57 : decode cX7_firstShown 57 = .ok (.ireturn, 1) := by decide +kernel
theorem dX7_lastShown_0 : decode cX7_lastShown 0 = .ok (.aload_n 0, 1) := by decide +kernel
theorem dX7_lastShown_1 : decode cX7_lastShown 1 = .ok (.getfield 40, 3) := by decide +kernel
theorem dX7_lastShown_4 : decode cX7_lastShown 4 = .ok (.iload_n 1, 1) := by decide +kernel
theorem dX7_lastShown_5 : decode cX7_lastShown 5 = .ok (.iload_n 2, 1) := by decide +kernel
theorem dX7_lastShown_6 : decode cX7_lastShown 6 = .ok (.invokevirtual 182, 3) := by decide +kernel
theorem dX7_lastShown_9 : decode cX7_lastShown 9 = .ok (.istore_n 3, 1) := by decide +kernel
theorem dX7_lastShown_10 : decode cX7_lastShown 10 = .ok (.iload_n 3, 1) := by decide +kernel
theorem dX7_lastShown_11 : decode cX7_lastShown 11 = .ok (.iconst (-1), 1) := by decide +kernel
theorem dX7_lastShown_12 : decode cX7_lastShown 12 = .ok (.if_icmp .ne 8, 3) := by decide +kernel
theorem dX7_lastShown_15 : decode cX7_lastShown 15 = .ok (.bipush 7, 2) := by decide +kernel
theorem dX7_lastShown_17 : decode cX7_lastShown 17 = .ok (.goto 6, 3) := by decide +kernel
theorem dX7_lastShown_20 : decode cX7_lastShown 20 = .ok (.iload_n 3, 1) := by decide +kernel
theorem dX7_lastShown_21 : decode cX7_lastShown 21 = .ok (.iconst 1, 1) := by decide +kernel
theorem dX7_lastShown_22 : decode cX7_lastShown 22 = .ok (.isub, 1) := by decide +kernel
theorem dX7_lastShown_23 : decode cX7_lastShown 23 = .ok (.ireturn, 1) := by decide +kernel
theorem dX7_digestPicture_0 : decode cX7_digestPicture 0 = .ok (.lload_n 1, 1) := by decide +kernel
theorem dX7_digestPicture_1 : decode cX7_digestPicture 1 = .ok (.lstore 4, 2) := by decide +kernel
theorem dX7_digestPicture_3 : decode cX7_digestPicture 3 = .ok (.iconst 0, 1) := by decide +kernel
theorem dX7_digestPicture_4 : decode cX7_digestPicture 4 = .ok (.istore 6, 2) := by decide +kernel
theorem dX7_digestPicture_6 : decode cX7_digestPicture 6 = .ok (.iload 6, 2) := by decide +kernel
theorem dX7_digestPicture_8 : decode cX7_digestPicture 8 = .ok (.iconst 4, 1) := by decide +kernel
theorem dX7_digestPicture_9 : decode cX7_digestPicture 9 = .ok (.if_icmp .ge 47, 3) := by decide +kernel
theorem dX7_digestPicture_12 : decode cX7_digestPicture 12 = .ok (.iconst 0, 1) := by decide +kernel
theorem dX7_digestPicture_13 : decode cX7_digestPicture 13 = .ok (.istore 7, 2) := by decide +kernel
theorem dX7_digestPicture_15 : decode cX7_digestPicture 15 = .ok (.iload 7, 2) := by decide +kernel
theorem dX7_digestPicture_17 : decode cX7_digestPicture 17 = .ok (.bipush 8, 2) := by decide +kernel
theorem dX7_digestPicture_19 : decode cX7_digestPicture 19 = .ok (.if_icmp .ge 31, 3) := by decide +kernel
theorem dX7_digestPicture_22 : decode cX7_digestPicture 22 = .ok (.ldc2_w 258, 3) := by decide +kernel
theorem dX7_digestPicture_25 : decode cX7_digestPicture 25 = .ok (.lload 4, 2) := by decide +kernel
theorem dX7_digestPicture_27 : decode cX7_digestPicture 27 = .ok (.lmul, 1) := by decide +kernel
theorem dX7_digestPicture_28 : decode cX7_digestPicture 28 = .ok (.aload_n 0, 1) := by decide +kernel
theorem dX7_digestPicture_29 : decode cX7_digestPicture 29 = .ok (.getfield 10, 3) := by decide +kernel
theorem dX7_digestPicture_32 : decode cX7_digestPicture 32 = .ok (.iload_n 3, 1) := by decide +kernel
theorem dX7_digestPicture_33 : decode cX7_digestPicture 33 = .ok (.iload 6, 2) := by decide +kernel
theorem dX7_digestPicture_35 : decode cX7_digestPicture 35 = .ok (.iload 7, 2) := by decide +kernel
theorem dX7_digestPicture_37 : decode cX7_digestPicture 37 = .ok (.invokevirtual 112, 3) := by decide +kernel
theorem dX7_digestPicture_40 : decode cX7_digestPicture 40 = .ok (.i2l, 1) := by decide +kernel
theorem dX7_digestPicture_41 : decode cX7_digestPicture 41 = .ok (.ladd, 1) := by decide +kernel
theorem dX7_digestPicture_42 : decode cX7_digestPicture 42 = .ok (.lstore 4, 2) := by decide +kernel
theorem dX7_digestPicture_44 : decode cX7_digestPicture 44 = .ok (.iinc 7 1, 3) := by decide +kernel
theorem dX7_digestPicture_47 : decode cX7_digestPicture 47 = .ok (.goto (-32), 3) := by decide +kernel
theorem dX7_digestPicture_50 : decode cX7_digestPicture 50 = .ok (.iinc 6 1, 3) := by decide +kernel
theorem dX7_digestPicture_53 : decode cX7_digestPicture 53 = .ok (.goto (-47), 3) := by decide +kernel
theorem dX7_digestPicture_56 : decode cX7_digestPicture 56 = .ok (.ldc2_w 258, 3) := by decide +kernel
theorem dX7_digestPicture_59 : decode cX7_digestPicture 59 = .ok (.lload 4, 2) := by decide +kernel
theorem dX7_digestPicture_61 : decode cX7_digestPicture 61 = .ok (.lmul, 1) := by decide +kernel
theorem dX7_digestPicture_62 : decode cX7_digestPicture 62 = .ok (.aload_n 0, 1) := by decide +kernel
theorem dX7_digestPicture_63 : decode cX7_digestPicture 63 = .ok (.getfield 26, 3) := by decide +kernel
theorem dX7_digestPicture_66 : decode cX7_digestPicture 66 = .ok (.iload_n 3, 1) := by decide +kernel
theorem dX7_digestPicture_67 : decode cX7_digestPicture 67 = .ok (.invokevirtual 129, 3) := by decide +kernel
theorem dX7_digestPicture_70 : decode cX7_digestPicture 70 = .ok (.i2l, 1) := by decide +kernel
theorem dX7_digestPicture_71 : decode cX7_digestPicture 71 = .ok (.ladd, 1) := by decide +kernel
theorem dX7_digestPicture_72 : decode cX7_digestPicture 72 = .ok (.lstore 4, 2) := by decide +kernel
theorem dX7_digestPicture_74 : decode cX7_digestPicture 74 = .ok (.ldc2_w 258, 3) := by decide +kernel
theorem dX7_digestPicture_77 : decode cX7_digestPicture 77 = .ok (.lload 4, 2) := by decide +kernel
theorem dX7_digestPicture_79 : decode cX7_digestPicture 79 = .ok (.lmul, 1) := by decide +kernel
theorem dX7_digestPicture_80 : decode cX7_digestPicture 80 = .ok (.aload_n 0, 1) := by decide +kernel
theorem dX7_digestPicture_81 : decode cX7_digestPicture 81 = .ok (.getfield 33, 3) := by decide +kernel
theorem dX7_digestPicture_84 : decode cX7_digestPicture 84 = .ok (.iload_n 3, 1) := by decide +kernel
theorem dX7_digestPicture_85 : decode cX7_digestPicture 85 = .ok (.invokevirtual 151, 3) := by decide +kernel
theorem dX7_digestPicture_88 : decode cX7_digestPicture 88 = .ok (.i2l, 1) := by decide +kernel
theorem dX7_digestPicture_89 : decode cX7_digestPicture 89 = .ok (.ladd, 1) := by decide +kernel
theorem dX7_digestPicture_90 : decode cX7_digestPicture 90 = .ok (.lreturn, 1) := by decide +kernel
theorem dX7_within_0 : decode cX7_within 0 = .ok (.iload_n 0, 1) := by decide +kernel
theorem dX7_within_1 : decode cX7_within 1 = .ok (.iload_n 1, 1) := by decide +kernel
theorem dX7_within_2 : decode cX7_within 2 = .ok (.if_icmp .lt 12, 3) := by decide +kernel
theorem dX7_within_5 : decode cX7_within 5 = .ok (.iload_n 0, 1) := by decide +kernel
theorem dX7_within_6 : decode cX7_within 6 = .ok (.iload_n 2, 1) := by decide +kernel
theorem dX7_within_7 : decode cX7_within 7 = .ok (.if_icmp .gt 7, 3) := by decide +kernel
theorem dX7_within_10 : decode cX7_within 10 = .ok (.iconst 1, 1) := by decide +kernel
theorem dX7_within_11 : decode cX7_within 11 = .ok (.goto 4, 3) := by decide +kernel
theorem dX7_within_14 : decode cX7_within 14 = .ok (.iconst 0, 1) := by decide +kernel
theorem dX7_within_15 : decode cX7_within 15 = .ok (.ireturn, 1) := by decide +kernel
theorem dX7_isInner_0 : decode cX7_isInner 0 = .ok (.iload_n 0, 1) := by decide +kernel
theorem dX7_isInner_1 : decode cX7_isInner 1 = .ok (.iconst 1, 1) := by decide +kernel
theorem dX7_isInner_2 : decode cX7_isInner 2 = .ok (.if_icmp .lt 23, 3) := by decide +kernel
theorem dX7_isInner_5 : decode cX7_isInner 5 = .ok (.iload_n 0, 1) := by decide +kernel
theorem dX7_isInner_6 : decode cX7_isInner 6 = .ok (.iconst 2, 1) := by decide +kernel
theorem dX7_isInner_7 : decode cX7_isInner 7 = .ok (.if_icmp .gt 18, 3) := by decide +kernel
theorem dX7_isInner_10 : decode cX7_isInner 10 = .ok (.iload_n 1, 1) := by decide +kernel
theorem dX7_isInner_11 : decode cX7_isInner 11 = .ok (.iconst 1, 1) := by decide +kernel
theorem dX7_isInner_12 : decode cX7_isInner 12 = .ok (.if_icmp .lt 13, 3) := by decide +kernel
theorem dX7_isInner_15 : decode cX7_isInner 15 = .ok (.iload_n 1, 1) := by decide +kernel
theorem dX7_isInner_16 : decode cX7_isInner 16 = .ok (.bipush 6, 2) := by decide +kernel
theorem dX7_isInner_18 : decode cX7_isInner 18 = .ok (.if_icmp .gt 7, 3) := by decide +kernel
theorem dX7_isInner_21 : decode cX7_isInner 21 = .ok (.iconst 1, 1) := by decide +kernel
theorem dX7_isInner_22 : decode cX7_isInner 22 = .ok (.goto 4, 3) := by decide +kernel
theorem dX7_isInner_25 : decode cX7_isInner 25 = .ok (.iconst 0, 1) := by decide +kernel
theorem dX7_isInner_26 : decode cX7_isInner 26 = .ok (.ireturn, 1) := by decide +kernel
theorem dX7_nearest_0 : decode cX7_nearest 0 = .ok (.lload_n 2, 1) := by decide +kernel
theorem dX7_nearest_1 : decode cX7_nearest 1 = .ok (.lconst 0, 1) := by decide +kernel
theorem dX7_nearest_2 : decode cX7_nearest 2 = .ok (.lcmp, 1) := by decide +kernel
theorem dX7_nearest_3 : decode cX7_nearest 3 = .ok (.ifCond .le 21, 3) := by decide +kernel
theorem dX7_nearest_6 : decode cX7_nearest 6 = .ok (.ldc2_w 308, 3) := by decide +kernel
theorem dX7_nearest_9 : decode cX7_nearest 9 = .ok (.lload_n 0, 1) := by decide +kernel
theorem dX7_nearest_10 : decode cX7_nearest 10 = .ok (.lmul, 1) := by decide +kernel
theorem dX7_nearest_11 : decode cX7_nearest 11 = .ok (.lload_n 2, 1) := by decide +kernel
theorem dX7_nearest_12 : decode cX7_nearest 12 = .ok (.ladd, 1) := by decide +kernel
theorem dX7_nearest_13 : decode cX7_nearest 13 = .ok (.ldc2_w 308, 3) := by decide +kernel
theorem dX7_nearest_16 : decode cX7_nearest 16 = .ok (.lload_n 2, 1) := by decide +kernel
theorem dX7_nearest_17 : decode cX7_nearest 17 = .ok (.lmul, 1) := by decide +kernel
theorem dX7_nearest_18 : decode cX7_nearest 18 = .ok (.invokestatic 310, 3) := by decide +kernel
theorem dX7_nearest_21 : decode cX7_nearest 21 = .ok (.goto 4, 3) := by decide +kernel
theorem dX7_nearest_24 : decode cX7_nearest 24 = .ok (.lconst 0, 1) := by decide +kernel
theorem dX7_nearest_25 : decode cX7_nearest 25 = .ok (.lreturn, 1) := by decide +kernel
theorem dX7_greatestDivisor_0 : decode cX7_greatestDivisor 0 = .ok (.lload_n 0, 1) := by decide +kernel
theorem dX7_greatestDivisor_1 : decode cX7_greatestDivisor 1 = .ok (.lconst 0, 1) := by decide +kernel
theorem dX7_greatestDivisor_2 : decode cX7_greatestDivisor 2 = .ok (.lcmp, 1) := by decide +kernel
theorem dX7_greatestDivisor_3 : decode cX7_greatestDivisor 3 = .ok (.ifCond .ge 8, 3) := by decide +kernel
theorem dX7_greatestDivisor_6 : decode cX7_greatestDivisor 6 = .ok (.lload_n 0, 1) := by decide +kernel
theorem dX7_greatestDivisor_7 : decode cX7_greatestDivisor 7 = .ok (.lneg, 1) := by decide +kernel
theorem dX7_greatestDivisor_8 : decode cX7_greatestDivisor 8 = .ok (.goto 4, 3) := by decide +kernel
theorem dX7_greatestDivisor_11 : decode cX7_greatestDivisor 11 = .ok (.lload_n 0, 1) := by decide +kernel
theorem dX7_greatestDivisor_12 : decode cX7_greatestDivisor 12 = .ok (.lstore 4, 2) := by decide +kernel
theorem dX7_greatestDivisor_14 : decode cX7_greatestDivisor 14 = .ok (.lload_n 2, 1) := by decide +kernel
theorem dX7_greatestDivisor_15 : decode cX7_greatestDivisor 15 = .ok (.lconst 0, 1) := by decide +kernel
theorem dX7_greatestDivisor_16 : decode cX7_greatestDivisor 16 = .ok (.lcmp, 1) := by decide +kernel
theorem dX7_greatestDivisor_17 : decode cX7_greatestDivisor 17 = .ok (.ifCond .ge 8, 3) := by decide +kernel
theorem dX7_greatestDivisor_20 : decode cX7_greatestDivisor 20 = .ok (.lload_n 2, 1) := by decide +kernel
theorem dX7_greatestDivisor_21 : decode cX7_greatestDivisor 21 = .ok (.lneg, 1) := by decide +kernel
theorem dX7_greatestDivisor_22 : decode cX7_greatestDivisor 22 = .ok (.goto 4, 3) := by decide +kernel
theorem dX7_greatestDivisor_25 : decode cX7_greatestDivisor 25 = .ok (.lload_n 2, 1) := by decide +kernel
theorem dX7_greatestDivisor_26 : decode cX7_greatestDivisor 26 = .ok (.lstore 6, 2) := by decide +kernel
theorem dX7_greatestDivisor_28 : decode cX7_greatestDivisor 28 = .ok (.iconst 0, 1) := by decide +kernel
theorem dX7_greatestDivisor_29 : decode cX7_greatestDivisor 29 = .ok (.istore 8, 2) := by decide +kernel
theorem dX7_greatestDivisor_31 : decode cX7_greatestDivisor 31 = .ok (.iload 8, 2) := by decide +kernel
theorem dX7_greatestDivisor_33 : decode cX7_greatestDivisor 33 = .ok (.sipush 200, 3) := by decide +kernel
theorem dX7_greatestDivisor_36 : decode cX7_greatestDivisor 36 = .ok (.if_icmp .ge 31, 3) := by decide +kernel
theorem dX7_greatestDivisor_39 : decode cX7_greatestDivisor 39 = .ok (.lload 6, 2) := by decide +kernel
theorem dX7_greatestDivisor_41 : decode cX7_greatestDivisor 41 = .ok (.lconst 0, 1) := by decide +kernel
theorem dX7_greatestDivisor_42 : decode cX7_greatestDivisor 42 = .ok (.lcmp, 1) := by decide +kernel
theorem dX7_greatestDivisor_43 : decode cX7_greatestDivisor 43 = .ok (.ifCond .eq 24, 3) := by decide +kernel
theorem dX7_greatestDivisor_46 : decode cX7_greatestDivisor 46 = .ok (.lload 4, 2) := by decide +kernel
theorem dX7_greatestDivisor_48 : decode cX7_greatestDivisor 48 = .ok (.lload 6, 2) := by decide +kernel
theorem dX7_greatestDivisor_50 : decode cX7_greatestDivisor 50 = .ok (.lrem, 1) := by decide +kernel
theorem dX7_greatestDivisor_51 : decode cX7_greatestDivisor 51 = .ok (.lstore 9, 2) := by decide +kernel
theorem dX7_greatestDivisor_53 : decode cX7_greatestDivisor 53 = .ok (.lload 6, 2) := by decide +kernel
theorem dX7_greatestDivisor_55 : decode cX7_greatestDivisor 55 = .ok (.lstore 4, 2) := by decide +kernel
theorem dX7_greatestDivisor_57 : decode cX7_greatestDivisor 57 = .ok (.lload 9, 2) := by decide +kernel
theorem dX7_greatestDivisor_59 : decode cX7_greatestDivisor 59 = .ok (.lstore 6, 2) := by decide +kernel
theorem dX7_greatestDivisor_61 : decode cX7_greatestDivisor 61 = .ok (.iinc 8 1, 3) := by decide +kernel
theorem dX7_greatestDivisor_64 : decode cX7_greatestDivisor 64 = .ok (.goto (-33), 3) := by decide +kernel
theorem dX7_greatestDivisor_67 : decode cX7_greatestDivisor 67 = .ok (.lload 4, 2) := by decide +kernel
theorem dX7_greatestDivisor_69 : decode cX7_greatestDivisor 69 = .ok (.lreturn, 1) := by decide +kernel
theorem dX8_init_0 : decode cX8_init 0 = .ok (.aload_n 0, 1) := by decide +kernel
theorem dX8_init_1 : decode cX8_init 1 = .ok (.invokespecial 1, 3) := by decide +kernel
theorem dX8_init_4 : decode cX8_init 4 = .ok (.aload_n 0, 1) := by decide +kernel
theorem dX8_init_5 : decode cX8_init 5 = .ok (.sipush 406, 3) := by decide +kernel
theorem dX8_init_8 : decode cX8_init 8 = .ok (.newarray .int, 2) := by decide +kernel
theorem dX8_init_10 : decode cX8_init 10 = .ok (.putfield 7, 3) := by decide +kernel
theorem dX8_init_13 : decode cX8_init 13 = .ok (.aload_n 0, 1) := by decide +kernel
theorem dX8_init_14 : decode cX8_init 14 = .ok (.sipush 2030, 3) := by decide +kernel
theorem dX8_init_17 : decode cX8_init 17 = .ok (.newarray .int, 2) := by decide +kernel
theorem dX8_init_19 : decode cX8_init 19 = .ok (.putfield 13, 3) := by decide +kernel
theorem dX8_init_22 : decode cX8_init 22 = .ok (.aload_n 0, 1) := by decide +kernel
theorem dX8_init_23 : decode cX8_init 23 = .ok (.sipush 406, 3) := by decide +kernel
theorem dX8_init_26 : decode cX8_init 26 = .ok (.newarray .int, 2) := by decide +kernel
theorem dX8_init_28 : decode cX8_init 28 = .ok (.putfield 16, 3) := by decide +kernel
theorem dX8_init_31 : decode cX8_init 31 = .ok (.aload_n 0, 1) := by decide +kernel
theorem dX8_init_32 : decode cX8_init 32 = .ok (.iconst 3, 1) := by decide +kernel
theorem dX8_init_33 : decode cX8_init 33 = .ok (.newarray .int, 2) := by decide +kernel
theorem dX8_init_35 : decode cX8_init 35 = .ok (.putfield 19, 3) := by decide +kernel
theorem dX8_init_38 : decode cX8_init 38 = .ok (.aload_n 0, 1) := by decide +kernel
theorem dX8_init_39 : decode cX8_init 39 = .ok (.iconst (-1), 1) := by decide +kernel
theorem dX8_init_40 : decode cX8_init 40 = .ok (.putfield 22, 3) := by decide +kernel
theorem dX8_init_43 : decode cX8_init 43 = .ok (.aload_n 0, 1) := by decide +kernel
theorem dX8_init_44 : decode cX8_init 44 = .ok (.bipush 6, 2) := by decide +kernel
theorem dX8_init_46 : decode cX8_init 46 = .ok (.newarray .int, 2) := by decide +kernel
theorem dX8_init_48 : decode cX8_init 48 = .ok (.putfield 26, 3) := by decide +kernel
theorem dX8_init_51 : decode cX8_init 51 = .ok (.aload_n 0, 1) := by decide +kernel
theorem dX8_init_52 : decode cX8_init 52 = .ok (.bipush 36, 2) := by decide +kernel
theorem dX8_init_54 : decode cX8_init 54 = .ok (.newarray .int, 2) := by decide +kernel
theorem dX8_init_56 : decode cX8_init 56 = .ok (.putfield 29, 3) := by decide +kernel
theorem dX8_init_59 : decode cX8_init 59 = .ok (.aload_n 0, 1) := by decide +kernel
theorem dX8_init_60 : decode cX8_init 60 = .ok (.bipush 36, 2) := by decide +kernel
theorem dX8_init_62 : decode cX8_init 62 = .ok (.newarray .int, 2) := by decide +kernel
theorem dX8_init_64 : decode cX8_init 64 = .ok (.putfield 32, 3) := by decide +kernel
theorem dX8_init_67 : decode cX8_init 67 = .ok (.aload_n 0, 1) := by decide +kernel
theorem dX8_init_68 : decode cX8_init 68 = .ok (.bipush 36, 2) := by decide +kernel
theorem dX8_init_70 : decode cX8_init 70 = .ok (.newarray .int, 2) := by decide +kernel
theorem dX8_init_72 : decode cX8_init 72 = .ok (.putfield 35, 3) := by decide +kernel
theorem dX8_init_75 : decode cX8_init 75 = .ok (.aload_n 0, 1) := by decide +kernel
theorem dX8_init_76 : decode cX8_init 76 = .ok (.bipush 6, 2) := by decide +kernel
theorem dX8_init_78 : decode cX8_init 78 = .ok (.newarray .int, 2) := by decide +kernel
theorem dX8_init_80 : decode cX8_init 80 = .ok (.putfield 38, 3) := by decide +kernel
theorem dX8_init_83 : decode cX8_init 83 = .ok (.aload_n 0, 1) := by decide +kernel
theorem dX8_init_84 : decode cX8_init 84 = .ok (.bipush 6, 2) := by decide +kernel
theorem dX8_init_86 : decode cX8_init 86 = .ok (.newarray .int, 2) := by decide +kernel
theorem dX8_init_88 : decode cX8_init 88 = .ok (.putfield 41, 3) := by decide +kernel
theorem dX8_init_91 : decode cX8_init 91 = .ok (.aload_n 0, 1) := by decide +kernel
theorem dX8_init_92 : decode cX8_init 92 = .ok (.bipush 32, 2) := by decide +kernel
theorem dX8_init_94 : decode cX8_init 94 = .ok (.newarray .int, 2) := by decide +kernel
theorem dX8_init_96 : decode cX8_init 96 = .ok (.putfield 44, 3) := by decide +kernel
theorem dX8_init_99 : decode cX8_init 99 = .ok (.aload_n 0, 1) := by decide +kernel
theorem dX8_init_100 : decode cX8_init 100 = .ok (.iconst 4, 1) := by decide +kernel
theorem dX8_init_101 : decode cX8_init 101 = .ok (.newarray .int, 2) := by decide +kernel
theorem dX8_init_103 : decode cX8_init 103 = .ok (.putfield 47, 3) := by decide +kernel
theorem dX8_init_106 : decode cX8_init 106 = .ok (.aload_n 0, 1) := by decide +kernel
theorem dX8_init_107 : decode cX8_init 107 = .ok (.bipush 120, 2) := by decide +kernel
theorem dX8_init_109 : decode cX8_init 109 = .ok (.newarray .int, 2) := by decide +kernel
theorem dX8_init_111 : decode cX8_init 111 = .ok (.putfield 50, 3) := by decide +kernel
theorem dX8_init_114 : decode cX8_init 114 = .ok (.aload_n 0, 1) := by decide +kernel
theorem dX8_init_115 : decode cX8_init 115 = .ok (.iconst 4, 1) := by decide +kernel
theorem dX8_init_116 : decode cX8_init 116 = .ok (.newarray .int, 2) := by decide +kernel
theorem dX8_init_118 : decode cX8_init 118 = .ok (.putfield 53, 3) := by decide +kernel
theorem dX8_init_121 : decode cX8_init 121 = .ok (.aload_n 0, 1) := by decide +kernel
theorem dX8_init_122 : decode cX8_init 122 = .ok (.getfield 7, 3) := by decide +kernel
theorem dX8_init_125 : decode cX8_init 125 = .ok (.iconst 1, 1) := by decide +kernel
theorem dX8_init_126 : decode cX8_init 126 = .ok (.bipush 8, 2) := by decide +kernel
theorem dX8_init_128 : decode cX8_init 128 = .ok (.iastore, 1) := by decide +kernel
theorem dX8_init_129 : decode cX8_init 129 = .ok (.aload_n 0, 1) := by decide +kernel
theorem dX8_init_130 : decode cX8_init 130 = .ok (.getfield 7, 3) := by decide +kernel
theorem dX8_init_133 : decode cX8_init 133 = .ok (.iconst 2, 1) := by decide +kernel
theorem dX8_init_134 : decode cX8_init 134 = .ok (.bipush 12, 2) := by decide +kernel
theorem dX8_init_136 : decode cX8_init 136 = .ok (.iastore, 1) := by decide +kernel
theorem dX8_init_137 : decode cX8_init 137 = .ok (.return_, 1) := by decide +kernel
theorem dX8_in_0 : decode cX8_in 0 = .ok (.lload_n 0, 1) := by decide +kernel
theorem dX8_in_1 : decode cX8_in 1 = .ok (.lload_n 2, 1) := by decide +kernel
theorem dX8_in_2 : decode cX8_in 2 = .ok (.lcmp, 1) := by decide +kernel
theorem dX8_in_3 : decode cX8_in 3 = .ok (.ifCond .lt 14, 3) := by decide +kernel
theorem dX8_in_6 : decode cX8_in 6 = .ok (.lload_n 0, 1) := by decide +kernel
theorem dX8_in_7 : decode cX8_in 7 = .ok (.lload 4, 2) := by decide +kernel
theorem dX8_in_9 : decode cX8_in 9 = .ok (.lcmp, 1) := by decide +kernel
theorem dX8_in_10 : decode cX8_in 10 = .ok (.ifCond .gt 7, 3) := by decide +kernel
theorem dX8_in_13 : decode cX8_in 13 = .ok (.iconst 1, 1) := by decide +kernel
theorem dX8_in_14 : decode cX8_in 14 = .ok (.goto 4, 3) := by decide +kernel
theorem dX8_in_17 : decode cX8_in 17 = .ok (.iconst 0, 1) := by decide +kernel
theorem dX8_in_18 : decode cX8_in 18 = .ok (.ireturn, 1) := by decide +kernel
theorem dX8_refuses_0 : decode cX8_refuses 0 = .ok (.aload_n 0, 1) := by decide +kernel
theorem dX8_refuses_1 : decode cX8_refuses 1 = .ok (.getfield 19, 3) := by decide +kernel
theorem dX8_refuses_4 : decode cX8_refuses 4 = .ok (.bipush (-2), 2) := by decide +kernel
theorem dX8_refuses_6 : decode cX8_refuses 6 = .ok (.iload_n 1, 1) := by decide +kernel
theorem dX8_refuses_7 : decode cX8_refuses 7 = .ok (.isub, 1) := by decide +kernel
theorem dX8_refuses_8 : decode cX8_refuses 8 = .ok (.dup2, 1) := by decide +kernel
theorem dX8_refuses_9 : decode cX8_refuses 9 = .ok (.iaload, 1) := by decide +kernel
theorem dX8_refuses_10 : decode cX8_refuses 10 = .ok (.iconst 1, 1) := by decide +kernel
theorem dX8_refuses_11 : decode cX8_refuses 11 = .ok (.iadd, 1) := by decide +kernel
theorem dX8_refuses_12 : decode cX8_refuses 12 = .ok (.iastore, 1) := by decide +kernel
theorem dX8_refuses_13 : decode cX8_refuses 13 = .ok (.iload_n 1, 1) := by decide +kernel
theorem dX8_refuses_14 : decode cX8_refuses 14 = .ok (.ireturn, 1) := by decide +kernel
theorem dX8_keep_0 : decode cX8_keep 0 = .ok (.aload_n 0, 1) := by decide +kernel
theorem dX8_keep_1 : decode cX8_keep 1 = .ok (.getfield 56, 3) := by decide +kernel
theorem dX8_keep_4 : decode cX8_keep 4 = .ok (.iconst 5, 1) := by decide +kernel
theorem dX8_keep_5 : decode cX8_keep 5 = .ok (.if_icmp .ne 44, 3) := by decide +kernel
theorem dX8_keep_8 : decode cX8_keep 8 = .ok (.iconst 0, 1) := by decide +kernel
theorem dX8_keep_9 : decode cX8_keep 9 = .ok (.istore_n 1, 1) := by decide +kernel
theorem dX8_keep_10 : decode cX8_keep 10 = .ok (.iload_n 1, 1) := by decide +kernel
theorem dX8_keep_11 : decode cX8_keep 11 = .ok (.sipush 1624, 3) := by decide +kernel
theorem dX8_keep_14 : decode cX8_keep 14 = .ok (.if_icmp .ge 25, 3) := by decide +kernel
theorem dX8_keep_17 : decode cX8_keep 17 = .ok (.aload_n 0, 1) := by decide +kernel
theorem dX8_keep_18 : decode cX8_keep 18 = .ok (.getfield 13, 3) := by decide +kernel
theorem dX8_keep_21 : decode cX8_keep 21 = .ok (.iload_n 1, 1) := by decide +kernel
theorem dX8_keep_22 : decode cX8_keep 22 = .ok (.aload_n 0, 1) := by decide +kernel
theorem dX8_keep_23 : decode cX8_keep 23 = .ok (.getfield 13, 3) := by decide +kernel
theorem dX8_keep_26 : decode cX8_keep 26 = .ok (.iload_n 1, 1) := by decide +kernel
theorem dX8_keep_27 : decode cX8_keep 27 = .ok (.sipush 406, 3) := by decide +kernel
theorem dX8_keep_30 : decode cX8_keep 30 = .ok (.iadd, 1) := by decide +kernel
theorem dX8_keep_31 : decode cX8_keep 31 = .ok (.iaload, 1) := by decide +kernel
theorem dX8_keep_32 : decode cX8_keep 32 = .ok (.iastore, 1) := by decide +kernel
theorem dX8_keep_33 : decode cX8_keep 33 = .ok (.iinc 1 1, 3) := by decide +kernel
theorem dX8_keep_36 : decode cX8_keep 36 = .ok (.goto (-26), 3) := by decide +kernel
theorem dX8_keep_39 : decode cX8_keep 39 = .ok (.aload_n 0, 1) := by decide +kernel
theorem dX8_keep_40 : decode cX8_keep 40 = .ok (.dup, 1) := by decide +kernel
theorem dX8_keep_41 : decode cX8_keep 41 = .ok (.getfield 56, 3) := by decide +kernel
theorem dX8_keep_44 : decode cX8_keep 44 = .ok (.iconst 1, 1) := by decide +kernel
theorem dX8_keep_45 : decode cX8_keep 45 = .ok (.isub, 1) := by decide +kernel
theorem dX8_keep_46 : decode cX8_keep 46 = .ok (.putfield 56, 3) := by decide +kernel
theorem dX8_keep_49 : decode cX8_keep 49 = .ok (.iconst 0, 1) := by decide +kernel
theorem dX8_keep_50 : decode cX8_keep 50 = .ok (.istore_n 1, 1) := by decide +kernel
theorem dX8_keep_51 : decode cX8_keep 51 = .ok (.iload_n 1, 1) := by decide +kernel
theorem dX8_keep_52 : decode cX8_keep 52 = .ok (.sipush 406, 3) := by decide +kernel
theorem dX8_keep_55 : decode cX8_keep 55 = .ok (.if_icmp .ge 30, 3) := by decide +kernel
theorem dX8_keep_58 : decode cX8_keep 58 = .ok (.aload_n 0, 1) := by decide +kernel
theorem dX8_keep_59 : decode cX8_keep 59 = .ok (.getfield 13, 3) := by decide +kernel
theorem dX8_keep_62 : decode cX8_keep 62 = .ok (.sipush 406, 3) := by decide +kernel
theorem dX8_keep_65 : decode cX8_keep 65 = .ok (.aload_n 0, 1) := by decide +kernel
theorem dX8_keep_66 : decode cX8_keep 66 = .ok (.getfield 56, 3) := by decide +kernel
theorem dX8_keep_69 : decode cX8_keep 69 = .ok (.imul, 1) := by decide +kernel
theorem dX8_keep_70 : decode cX8_keep 70 = .ok (.iload_n 1, 1) := by decide +kernel
theorem dX8_keep_71 : decode cX8_keep 71 = .ok (.iadd, 1) := by decide +kernel
theorem dX8_keep_72 : decode cX8_keep 72 = .ok (.aload_n 0, 1) := by decide +kernel
theorem dX8_keep_73 : decode cX8_keep 73 = .ok (.getfield 7, 3) := by decide +kernel
theorem dX8_keep_76 : decode cX8_keep 76 = .ok (.iload_n 1, 1) := by decide +kernel
theorem dX8_keep_77 : decode cX8_keep 77 = .ok (.iaload, 1) := by decide +kernel
theorem dX8_keep_78 : decode cX8_keep 78 = .ok (.iastore, 1) := by decide +kernel
theorem dX8_keep_79 : decode cX8_keep 79 = .ok (.iinc 1 1, 3) := by decide +kernel
theorem dX8_keep_82 : decode cX8_keep 82 = .ok (.goto (-31), 3) := by decide +kernel
theorem dX8_keep_85 : decode cX8_keep 85 = .ok (.aload_n 0, 1) := by decide +kernel
theorem dX8_keep_86 : decode cX8_keep 86 = .ok (.dup, 1) := by decide +kernel
theorem dX8_keep_87 : decode cX8_keep 87 = .ok (.getfield 56, 3) := by decide +kernel
theorem dX8_keep_90 : decode cX8_keep 90 = .ok (.iconst 1, 1) := by decide +kernel
theorem dX8_keep_91 : decode cX8_keep 91 = .ok (.iadd, 1) := by decide +kernel
theorem dX8_keep_92 : decode cX8_keep 92 = .ok (.putfield 56, 3) := by decide +kernel
theorem dX8_keep_95 : decode cX8_keep 95 = .ok (.return_, 1) := by decide +kernel
theorem dX8_abs_0 : decode cX8_abs 0 = .ok (.iload_n 0, 1) := by decide +kernel
theorem dX8_abs_1 : decode cX8_abs 1 = .ok (.ifCond .ge 8, 3) := by decide +kernel
theorem dX8_abs_4 : decode cX8_abs 4 = .ok (.iload_n 0, 1) := by decide +kernel
theorem dX8_abs_5 : decode cX8_abs 5 = .ok (.ineg, 1) := by decide +kernel
theorem dX8_abs_6 : decode cX8_abs 6 = .ok (.goto 4, 3) := by decide +kernel
theorem dX8_abs_9 : decode cX8_abs 9 = .ok (.iload_n 0, 1) := by decide +kernel
theorem dX8_abs_10 : decode cX8_abs 10 = .ok (.ireturn, 1) := by decide +kernel
theorem dX8_held_0 : decode cX8_held 0 = .ok (.iload_n 0, 1) := by decide +kernel
theorem dX8_held_1 : decode cX8_held 1 = .ok (.ifCond .ge 7, 3) := by decide +kernel
theorem dX8_held_4 : decode cX8_held 4 = .ok (.iconst 0, 1) := by decide +kernel
theorem dX8_held_5 : decode cX8_held 5 = .ok (.goto 15, 3) := by decide +kernel
theorem dX8_held_8 : decode cX8_held 8 = .ok (.iload_n 0, 1) := by decide +kernel
theorem dX8_held_9 : decode cX8_held 9 = .ok (.bipush 63, 2) := by decide +kernel
theorem dX8_held_11 : decode cX8_held 11 = .ok (.if_icmp .le 8, 3) := by decide +kernel
theorem dX8_held_14 : decode cX8_held 14 = .ok (.bipush 63, 2) := by decide +kernel
theorem dX8_held_16 : decode cX8_held 16 = .ok (.goto 4, 3) := by decide +kernel
theorem dX8_held_19 : decode cX8_held 19 = .ok (.iload_n 0, 1) := by decide +kernel
theorem dX8_held_20 : decode cX8_held 20 = .ok (.ireturn, 1) := by decide +kernel
theorem dX8_many_0 : decode cX8_many 0 = .ok (.aload_n 0, 1) := by decide +kernel
theorem dX8_many_1 : decode cX8_many 1 = .ok (.getfield 7, 3) := by decide +kernel
theorem dX8_many_4 : decode cX8_many 4 = .ok (.iconst 3, 1) := by decide +kernel
theorem dX8_many_5 : decode cX8_many 5 = .ok (.iaload, 1) := by decide +kernel
theorem dX8_many_6 : decode cX8_many 6 = .ok (.ireturn, 1) := by decide +kernel
theorem dX8_isPicture_0 : decode cX8_isPicture 0 = .ok (.iload_n 1, 1) := by decide +kernel
theorem dX8_isPicture_1 : decode cX8_isPicture 1 = .ok (.i2l, 1) := by decide +kernel
theorem dX8_isPicture_2 : decode cX8_isPicture 2 = .ok (.lconst 0, 1) := by decide +kernel
theorem dX8_isPicture_3 : decode cX8_isPicture 3 = .ok (.aload_n 0, 1) := by decide +kernel
theorem dX8_isPicture_4 : decode cX8_isPicture 4 = .ok (.invokevirtual 59, 3) := by decide +kernel
theorem dX8_isPicture_7 : decode cX8_isPicture 7 = .ok (.iconst 1, 1) := by decide +kernel
theorem dX8_isPicture_8 : decode cX8_isPicture 8 = .ok (.isub, 1) := by decide +kernel
theorem dX8_isPicture_9 : decode cX8_isPicture 9 = .ok (.i2l, 1) := by decide +kernel
theorem dX8_isPicture_10 : decode cX8_isPicture 10 = .ok (.invokestatic 63, 3) := by decide +kernel
theorem dX8_isPicture_13 : decode cX8_isPicture 13 = .ok (.ireturn, 1) := by decide +kernel
theorem dX8_isCell_0 : decode cX8_isCell 0 = .ok (.iload_n 0, 1) := by decide +kernel
theorem dX8_isCell_1 : decode cX8_isCell 1 = .ok (.i2l, 1) := by decide +kernel
theorem dX8_isCell_2 : decode cX8_isCell 2 = .ok (.lconst 0, 1) := by decide +kernel
theorem dX8_isCell_3 : decode cX8_isCell 3 = .ok (.ldc2_w 67, 3) := by decide +kernel
theorem dX8_isCell_6 : decode cX8_isCell 6 = .ok (.invokestatic 63, 3) := by decide +kernel
theorem dX8_isCell_9 : decode cX8_isCell 9 = .ok (.ifCond .eq 19, 3) := by decide +kernel
theorem dX8_isCell_12 : decode cX8_isCell 12 = .ok (.iload_n 1, 1) := by decide +kernel
theorem dX8_isCell_13 : decode cX8_isCell 13 = .ok (.i2l, 1) := by decide +kernel
theorem dX8_isCell_14 : decode cX8_isCell 14 = .ok (.lconst 0, 1) := by decide +kernel
theorem dX8_isCell_15 : decode cX8_isCell 15 = .ok (.ldc2_w 69, 3) := by decide +kernel
theorem dX8_isCell_18 : decode cX8_isCell 18 = .ok (.invokestatic 63, 3) := by decide +kernel
theorem dX8_isCell_21 : decode cX8_isCell 21 = .ok (.ifCond .eq 7, 3) := by decide +kernel
theorem dX8_isCell_24 : decode cX8_isCell 24 = .ok (.iconst 1, 1) := by decide +kernel
theorem dX8_isCell_25 : decode cX8_isCell 25 = .ok (.goto 4, 3) := by decide +kernel
theorem dX8_isCell_28 : decode cX8_isCell 28 = .ok (.iconst 0, 1) := by decide +kernel
theorem dX8_isCell_29 : decode cX8_isCell 29 = .ok (.ireturn, 1) := by decide +kernel
theorem dX8_at_0 : decode cX8_at 0 = .ok (.aload_n 0, 1) := by decide +kernel
theorem dX8_at_1 : decode cX8_at 1 = .ok (.getfield 7, 3) := by decide +kernel
theorem dX8_at_4 : decode cX8_at 4 = .ok (.sipush 196, 3) := by decide +kernel
theorem dX8_at_7 : decode cX8_at 7 = .ok (.bipush 35, 2) := by decide +kernel
theorem dX8_at_9 : decode cX8_at 9 = .ok (.iload_n 1, 1) := by decide +kernel
theorem dX8_at_10 : decode cX8_at 10 = .ok (.imul, 1) := by decide +kernel
theorem dX8_at_11 : decode cX8_at 11 = .ok (.iadd, 1) := by decide +kernel
theorem dX8_at_12 : decode cX8_at 12 = .ok (.bipush 8, 2) := by decide +kernel
theorem dX8_at_14 : decode cX8_at 14 = .ok (.iload_n 2, 1) := by decide +kernel
theorem dX8_at_15 : decode cX8_at 15 = .ok (.imul, 1) := by decide +kernel
theorem dX8_at_16 : decode cX8_at 16 = .ok (.iadd, 1) := by decide +kernel
theorem dX8_at_17 : decode cX8_at 17 = .ok (.iload_n 3, 1) := by decide +kernel
theorem dX8_at_18 : decode cX8_at 18 = .ok (.iadd, 1) := by decide +kernel
theorem dX8_at_19 : decode cX8_at 19 = .ok (.iaload, 1) := by decide +kernel
theorem dX8_at_20 : decode cX8_at 20 = .ok (.ireturn, 1) := by decide +kernel
theorem dX8_shotOf_0 : decode cX8_shotOf 0 = .ok (.aload_n 0, 1) := by decide +kernel
theorem dX8_shotOf_1 : decode cX8_shotOf 1 = .ok (.getfield 7, 3) := by decide +kernel
theorem dX8_shotOf_4 : decode cX8_shotOf 4 = .ok (.sipush 196, 3) := by decide +kernel
theorem dX8_shotOf_7 : decode cX8_shotOf 7 = .ok (.bipush 35, 2) := by decide +kernel
theorem dX8_shotOf_9 : decode cX8_shotOf 9 = .ok (.iload_n 1, 1) := by decide +kernel
theorem dX8_shotOf_10 : decode cX8_shotOf 10 = .ok (.imul, 1) := by decide +kernel
theorem dX8_shotOf_11 : decode cX8_shotOf 11 = .ok (.iadd, 1) := by decide +kernel
theorem dX8_shotOf_12 : decode cX8_shotOf 12 = .ok (.bipush 32, 2) := by decide +kernel
theorem dX8_shotOf_14 : decode cX8_shotOf 14 = .ok (.iadd, 1) := by decide +kernel
theorem dX8_shotOf_15 : decode cX8_shotOf 15 = .ok (.iload_n 2, 1) := by decide +kernel
theorem dX8_shotOf_16 : decode cX8_shotOf 16 = .ok (.iadd, 1) := by decide +kernel
theorem dX8_shotOf_17 : decode cX8_shotOf 17 = .ok (.iaload, 1) := by decide +kernel
theorem dX8_shotOf_18 : decode cX8_shotOf 18 = .ok (.ireturn, 1) := by decide +kernel
theorem dX8_isWorld_0 : decode cX8_isWorld 0 = .ok (.iload_n 0, 1) := by decide +kernel
theorem dX8_isWorld_1 : decode cX8_isWorld 1 = .ok (.i2l, 1) := by decide +kernel
theorem dX8_isWorld_2 : decode cX8_isWorld 2 = .ok (.lconst 0, 1) := by decide +kernel
theorem dX8_isWorld_3 : decode cX8_isWorld 3 = .ok (.ldc2_w 71, 3) := by decide +kernel
theorem dX8_isWorld_6 : decode cX8_isWorld 6 = .ok (.invokestatic 63, 3) := by decide +kernel
theorem dX8_isWorld_9 : decode cX8_isWorld 9 = .ok (.ifCond .eq 21, 3) := by decide +kernel
theorem dX8_isWorld_12 : decode cX8_isWorld 12 = .ok (.iload_n 1, 1) := by decide +kernel
theorem dX8_isWorld_13 : decode cX8_isWorld 13 = .ok (.i2l, 1) := by decide +kernel
theorem dX8_isWorld_14 : decode cX8_isWorld 14 = .ok (.ldc2_w 73, 3) := by decide +kernel
theorem dX8_isWorld_17 : decode cX8_isWorld 17 = .ok (.ldc2_w 75, 3) := by decide +kernel
theorem dX8_isWorld_20 : decode cX8_isWorld 20 = .ok (.invokestatic 63, 3) := by decide +kernel
theorem dX8_isWorld_23 : decode cX8_isWorld 23 = .ok (.ifCond .eq 7, 3) := by decide +kernel
theorem dX8_isWorld_26 : decode cX8_isWorld 26 = .ok (.iconst 1, 1) := by decide +kernel
theorem dX8_isWorld_27 : decode cX8_isWorld 27 = .ok (.goto 4, 3) := by decide +kernel
theorem dX8_isWorld_30 : decode cX8_isWorld 30 = .ok (.iconst 0, 1) := by decide +kernel
theorem dX8_isWorld_31 : decode cX8_isWorld 31 = .ok (.ireturn, 1) := by decide +kernel
theorem dX8_worldNow_0 : decode cX8_worldNow 0 = .ok (.aload_n 0, 1) := by decide +kernel
theorem dX8_worldNow_1 : decode cX8_worldNow 1 = .ok (.getfield 7, 3) := by decide +kernel
theorem dX8_worldNow_4 : decode cX8_worldNow 4 = .ok (.iconst 0, 1) := by decide +kernel
theorem dX8_worldNow_5 : decode cX8_worldNow 5 = .ok (.iaload, 1) := by decide +kernel
theorem dX8_worldNow_6 : decode cX8_worldNow 6 = .ok (.istore_n 3, 1) := by decide +kernel
theorem dX8_worldNow_7 : decode cX8_worldNow 7 = .ok (.iload_n 1, 1) := by decide +kernel
theorem dX8_worldNow_8 : decode cX8_worldNow 8 = .ok (.i2l, 1) := by decide +kernel
theorem dX8_worldNow_9 : decode cX8_worldNow 9 = .ok (.lstore 4, 2) := by decide +kernel
theorem dX8_worldNow_11 : decode cX8_worldNow 11 = .ok (.iconst 0, 1) := by decide +kernel
theorem dX8_worldNow_12 : decode cX8_worldNow 12 = .ok (.istore 6, 2) := by decide +kernel
theorem dX8_worldNow_14 : decode cX8_worldNow 14 = .ok (.iload 6, 2) := by decide +kernel
theorem dX8_worldNow_16 : decode cX8_worldNow 16 = .ok (.iload_n 2, 1) := by decide +kernel
theorem dX8_worldNow_17 : decode cX8_worldNow 17 = .ok (.if_icmp .ge 67, 3) := by decide +kernel
theorem dX8_worldNow_20 : decode cX8_worldNow 20 = .ok (.iconst 0, 1) := by decide +kernel
theorem dX8_worldNow_21 : decode cX8_worldNow 21 = .ok (.istore 7, 2) := by decide +kernel
theorem dX8_worldNow_23 : decode cX8_worldNow 23 = .ok (.iload 7, 2) := by decide +kernel
theorem dX8_worldNow_25 : decode cX8_worldNow 25 = .ok (.bipush 6, 2) := by decide +kernel
theorem dX8_worldNow_27 : decode cX8_worldNow 27 = .ok (.if_icmp .ge 51, 3) := by decide +kernel
theorem dX8_worldNow_30 : decode cX8_worldNow 30 = .ok (.lload 4, 2) := by decide +kernel
theorem dX8_worldNow_32 : decode cX8_worldNow 32 = .ok (.ldc2_w 77, 3) := by decide +kernel
theorem dX8_worldNow_35 : decode cX8_worldNow 35 = .ok (.lmul, 1) := by decide +kernel
theorem dX8_worldNow_36 : decode cX8_worldNow 36 = .ok (.ldc2_w 79, 3) := by decide +kernel
theorem dX8_worldNow_39 : decode cX8_worldNow 39 = .ok (.ladd, 1) := by decide +kernel
theorem dX8_worldNow_40 : decode cX8_worldNow 40 = .ok (.ldc2_w 81, 3) := by decide +kernel
theorem dX8_worldNow_43 : decode cX8_worldNow 43 = .ok (.lrem, 1) := by decide +kernel
theorem dX8_worldNow_44 : decode cX8_worldNow 44 = .ok (.lstore 4, 2) := by decide +kernel
theorem dX8_worldNow_46 : decode cX8_worldNow 46 = .ok (.aload_n 0, 1) := by decide +kernel
theorem dX8_worldNow_47 : decode cX8_worldNow 47 = .ok (.getfield 7, 3) := by decide +kernel
theorem dX8_worldNow_50 : decode cX8_worldNow 50 = .ok (.iconst 4, 1) := by decide +kernel
theorem dX8_worldNow_51 : decode cX8_worldNow 51 = .ok (.bipush 32, 2) := by decide +kernel
theorem dX8_worldNow_53 : decode cX8_worldNow 53 = .ok (.iload 7, 2) := by decide +kernel
theorem dX8_worldNow_55 : decode cX8_worldNow 55 = .ok (.imul, 1) := by decide +kernel
theorem dX8_worldNow_56 : decode cX8_worldNow 56 = .ok (.iadd, 1) := by decide +kernel
theorem dX8_worldNow_57 : decode cX8_worldNow 57 = .ok (.iload 6, 2) := by decide +kernel
theorem dX8_worldNow_59 : decode cX8_worldNow 59 = .ok (.iadd, 1) := by decide +kernel
theorem dX8_worldNow_60 : decode cX8_worldNow 60 = .ok (.lload 4, 2) := by decide +kernel
theorem dX8_worldNow_62 : decode cX8_worldNow 62 = .ok (.ldc2_w 83, 3) := by decide +kernel
theorem dX8_worldNow_65 : decode cX8_worldNow 65 = .ok (.ldiv, 1) := by decide +kernel
theorem dX8_worldNow_66 : decode cX8_worldNow 66 = .ok (.ldc2_w 85, 3) := by decide +kernel
theorem dX8_worldNow_69 : decode cX8_worldNow 69 = .ok (.lrem, 1) := by decide +kernel
theorem dX8_worldNow_70 : decode cX8_worldNow 70 = .ok (.l2i, 1) := by decide +kernel
theorem dX8_worldNow_71 : decode cX8_worldNow 71 = .ok (.iastore, 1) := by decide +kernel
theorem dX8_worldNow_72 : decode cX8_worldNow 72 = .ok (.iinc 7 1, 3) := by decide +kernel
theorem dX8_worldNow_75 : decode cX8_worldNow 75 = .ok (.goto (-52), 3) := by decide +kernel
theorem dX8_worldNow_78 : decode cX8_worldNow 78 = .ok (.iinc 6 1, 3) := by decide +kernel
theorem dX8_worldNow_81 : decode cX8_worldNow 81 = .ok (.goto (-67), 3) := by decide +kernel
theorem dX8_worldNow_84 : decode cX8_worldNow 84 = .ok (.aload_n 0, 1) := by decide +kernel
theorem dX8_worldNow_85 : decode cX8_worldNow 85 = .ok (.getfield 7, 3) := by decide +kernel
theorem dX8_worldNow_88 : decode cX8_worldNow 88 = .ok (.iconst 0, 1) := by decide +kernel
theorem dX8_worldNow_89 : decode cX8_worldNow 89 = .ok (.iload_n 2, 1) := by decide +kernel
theorem dX8_worldNow_90 : decode cX8_worldNow 90 = .ok (.iastore, 1) := by decide +kernel
theorem dX8_worldNow_91 : decode cX8_worldNow 91 = .ok (.iload_n 3, 1) := by decide +kernel
theorem dX8_worldNow_92 : decode cX8_worldNow 92 = .ok (.ireturn, 1) := by decide +kernel
theorem dX8_world_0 : decode cX8_world 0 = .ok (.iload_n 1, 1) := by decide +kernel
theorem dX8_world_1 : decode cX8_world 1 = .ok (.iload_n 2, 1) := by decide +kernel
theorem dX8_world_2 : decode cX8_world 2 = .ok (.invokestatic 87, 3) := by decide +kernel
theorem dX8_world_5 : decode cX8_world 5 = .ok (.ifCond .ne 10, 3) := by decide +kernel
theorem dX8_world_8 : decode cX8_world 8 = .ok (.aload_n 0, 1) := by decide +kernel
theorem dX8_world_9 : decode cX8_world 9 = .ok (.bipush (-2), 2) := by decide +kernel
theorem dX8_world_11 : decode cX8_world 11 = .ok (.invokevirtual 91, 3) := by decide +kernel
theorem dX8_world_14 : decode cX8_world 14 = .ok (.ireturn, 1) := by decide +kernel
theorem dX8_world_15 : decode cX8_world 15 = .ok (.aload_n 0, 1) := by decide +kernel
theorem dX8_world_16 : decode cX8_world 16 = .ok (.invokevirtual 95, 3) := by decide +kernel
theorem dX8_world_19 : decode cX8_world 19 = .ok (.aload_n 0, 1) := by decide +kernel
theorem dX8_world_20 : decode cX8_world 20 = .ok (.iload_n 1, 1) := by decide +kernel
theorem dX8_world_21 : decode cX8_world 21 = .ok (.iload_n 2, 1) := by decide +kernel
theorem dX8_world_22 : decode cX8_world 22 = .ok (.invokevirtual 98, 3) := by decide +kernel
theorem dX8_world_25 : decode cX8_world 25 = .ok (.ireturn, 1) := by decide +kernel
theorem dX8_isDot_0 : decode cX8_isDot 0 = .ok (.iload_n 1, 1) := by decide +kernel
theorem dX8_isDot_1 : decode cX8_isDot 1 = .ok (.i2l, 1) := by decide +kernel
theorem dX8_isDot_2 : decode cX8_isDot 2 = .ok (.lconst 0, 1) := by decide +kernel
theorem dX8_isDot_3 : decode cX8_isDot 3 = .ok (.ldc2_w 102, 3) := by decide +kernel
theorem dX8_isDot_6 : decode cX8_isDot 6 = .ok (.invokestatic 63, 3) := by decide +kernel
theorem dX8_isDot_9 : decode cX8_isDot 9 = .ok (.ifCond .eq 25, 3) := by decide +kernel
theorem dX8_isDot_12 : decode cX8_isDot 12 = .ok (.iload_n 2, 1) := by decide +kernel
theorem dX8_isDot_13 : decode cX8_isDot 13 = .ok (.i2l, 1) := by decide +kernel
theorem dX8_isDot_14 : decode cX8_isDot 14 = .ok (.lconst 0, 1) := by decide +kernel
theorem dX8_isDot_15 : decode cX8_isDot 15 = .ok (.aload_n 0, 1) := by decide +kernel
theorem dX8_isDot_16 : decode cX8_isDot 16 = .ok (.getfield 7, 3) := by decide +kernel
theorem dX8_isDot_19 : decode cX8_isDot 19 = .ok (.iconst 0, 1) := by decide +kernel
theorem dX8_isDot_20 : decode cX8_isDot 20 = .ok (.iaload, 1) := by decide +kernel
theorem dX8_isDot_21 : decode cX8_isDot 21 = .ok (.iconst 1, 1) := by decide +kernel
theorem dX8_isDot_22 : decode cX8_isDot 22 = .ok (.isub, 1) := by decide +kernel
theorem dX8_isDot_23 : decode cX8_isDot 23 = .ok (.i2l, 1) := by decide +kernel
theorem dX8_isDot_24 : decode cX8_isDot 24 = .ok (.invokestatic 63, 3) := by decide +kernel
theorem dX8_isDot_27 : decode cX8_isDot 27 = .ok (.ifCond .eq 7, 3) := by decide +kernel
theorem dX8_isDot_30 : decode cX8_isDot 30 = .ok (.iconst 1, 1) := by decide +kernel
theorem dX8_isDot_31 : decode cX8_isDot 31 = .ok (.goto 4, 3) := by decide +kernel
theorem dX8_isDot_34 : decode cX8_isDot 34 = .ok (.iconst 0, 1) := by decide +kernel
theorem dX8_isDot_35 : decode cX8_isDot 35 = .ok (.ireturn, 1) := by decide +kernel
theorem dX8_cellNow_0 : decode cX8_cellNow 0 = .ok (.aload_n 0, 1) := by decide +kernel
theorem dX8_cellNow_1 : decode cX8_cellNow 1 = .ok (.getfield 7, 3) := by decide +kernel
theorem dX8_cellNow_4 : decode cX8_cellNow 4 = .ok (.iload_n 1, 1) := by decide +kernel
theorem dX8_cellNow_5 : decode cX8_cellNow 5 = .ok (.iaload, 1) := by decide +kernel
theorem dX8_cellNow_6 : decode cX8_cellNow 6 = .ok (.istore_n 3, 1) := by decide +kernel
theorem dX8_cellNow_7 : decode cX8_cellNow 7 = .ok (.aload_n 0, 1) := by decide +kernel
theorem dX8_cellNow_8 : decode cX8_cellNow 8 = .ok (.getfield 7, 3) := by decide +kernel
theorem dX8_cellNow_11 : decode cX8_cellNow 11 = .ok (.iload_n 1, 1) := by decide +kernel
theorem dX8_cellNow_12 : decode cX8_cellNow 12 = .ok (.iload_n 2, 1) := by decide +kernel
theorem dX8_cellNow_13 : decode cX8_cellNow 13 = .ok (.iastore, 1) := by decide +kernel
theorem dX8_cellNow_14 : decode cX8_cellNow 14 = .ok (.iload_n 3, 1) := by decide +kernel
theorem dX8_cellNow_15 : decode cX8_cellNow 15 = .ok (.ireturn, 1) := by decide +kernel
theorem dX8_dots_0 : decode cX8_dots 0 = .ok (.aload_n 0, 1) := by decide +kernel
theorem dX8_dots_1 : decode cX8_dots 1 = .ok (.iload_n 1, 1) := by decide +kernel
theorem dX8_dots_2 : decode cX8_dots 2 = .ok (.iload_n 2, 1) := by decide +kernel
theorem dX8_dots_3 : decode cX8_dots 3 = .ok (.invokevirtual 104, 3) := by decide +kernel
theorem dX8_dots_6 : decode cX8_dots 6 = .ok (.ifCond .eq 15, 3) := by decide +kernel
theorem dX8_dots_9 : decode cX8_dots 9 = .ok (.iload_n 3, 1) := by decide +kernel
theorem dX8_dots_10 : decode cX8_dots 10 = .ok (.i2l, 1) := by decide +kernel
theorem dX8_dots_11 : decode cX8_dots 11 = .ok (.lconst 0, 1) := by decide +kernel
theorem dX8_dots_12 : decode cX8_dots 12 = .ok (.ldc2_w 107, 3) := by decide +kernel
theorem dX8_dots_15 : decode cX8_dots 15 = .ok (.invokestatic 63, 3) := by decide +kernel
theorem dX8_dots_18 : decode cX8_dots 18 = .ok (.ifCond .ne 10, 3) := by decide +kernel
theorem dX8_dots_21 : decode cX8_dots 21 = .ok (.aload_n 0, 1) := by decide +kernel
theorem dX8_dots_22 : decode cX8_dots 22 = .ok (.bipush (-2), 2) := by decide +kernel
theorem dX8_dots_24 : decode cX8_dots 24 = .ok (.invokevirtual 91, 3) := by decide +kernel
theorem dX8_dots_27 : decode cX8_dots 27 = .ok (.ireturn, 1) := by decide +kernel
theorem dX8_dots_28 : decode cX8_dots 28 = .ok (.aload_n 0, 1) := by decide +kernel
theorem dX8_dots_29 : decode cX8_dots 29 = .ok (.invokevirtual 95, 3) := by decide +kernel
theorem dX8_dots_32 : decode cX8_dots 32 = .ok (.aload_n 0, 1) := by decide +kernel
theorem dX8_dots_33 : decode cX8_dots 33 = .ok (.iconst 4, 1) := by decide +kernel
theorem dX8_dots_34 : decode cX8_dots 34 = .ok (.bipush 32, 2) := by decide +kernel
theorem dX8_dots_36 : decode cX8_dots 36 = .ok (.iload_n 1, 1) := by decide +kernel
theorem dX8_dots_37 : decode cX8_dots 37 = .ok (.imul, 1) := by decide +kernel
theorem dX8_dots_38 : decode cX8_dots 38 = .ok (.iadd, 1) := by decide +kernel
theorem dX8_dots_39 : decode cX8_dots 39 = .ok (.iload_n 2, 1) := by decide +kernel
theorem dX8_dots_40 : decode cX8_dots 40 = .ok (.iadd, 1) := by decide +kernel
theorem dX8_dots_41 : decode cX8_dots 41 = .ok (.iload_n 3, 1) := by decide +kernel
theorem dX8_dots_42 : decode cX8_dots 42 = .ok (.invokevirtual 109, 3) := by decide +kernel
theorem dX8_dots_45 : decode cX8_dots 45 = .ok (.ireturn, 1) := by decide +kernel
theorem dX8_canShoot_0 : decode cX8_canShoot 0 = .ok (.iload_n 1, 1) := by decide +kernel
theorem dX8_canShoot_1 : decode cX8_canShoot 1 = .ok (.i2l, 1) := by decide +kernel
theorem dX8_canShoot_2 : decode cX8_canShoot 2 = .ok (.lconst 0, 1) := by decide +kernel
theorem dX8_canShoot_3 : decode cX8_canShoot 3 = .ok (.aload_n 0, 1) := by decide +kernel
theorem dX8_canShoot_4 : decode cX8_canShoot 4 = .ok (.getfield 7, 3) := by decide +kernel
theorem dX8_canShoot_7 : decode cX8_canShoot 7 = .ok (.iconst 0, 1) := by decide +kernel
theorem dX8_canShoot_8 : decode cX8_canShoot 8 = .ok (.iaload, 1) := by decide +kernel
theorem dX8_canShoot_9 : decode cX8_canShoot 9 = .ok (.iconst 1, 1) := by decide +kernel
theorem dX8_canShoot_10 : decode cX8_canShoot 10 = .ok (.isub, 1) := by decide +kernel
theorem dX8_canShoot_11 : decode cX8_canShoot 11 = .ok (.i2l, 1) := by decide +kernel
theorem dX8_canShoot_12 : decode cX8_canShoot 12 = .ok (.invokestatic 63, 3) := by decide +kernel
theorem dX8_canShoot_15 : decode cX8_canShoot 15 = .ok (.ifCond .eq 29, 3) := by decide +kernel
theorem dX8_canShoot_18 : decode cX8_canShoot 18 = .ok (.iload_n 2, 1) := by decide +kernel
theorem dX8_canShoot_19 : decode cX8_canShoot 19 = .ok (.i2l, 1) := by decide +kernel
theorem dX8_canShoot_20 : decode cX8_canShoot 20 = .ok (.lconst 0, 1) := by decide +kernel
theorem dX8_canShoot_21 : decode cX8_canShoot 21 = .ok (.ldc2_w 112, 3) := by decide +kernel
theorem dX8_canShoot_24 : decode cX8_canShoot 24 = .ok (.invokestatic 63, 3) := by decide +kernel
theorem dX8_canShoot_27 : decode cX8_canShoot 27 = .ok (.ifCond .eq 17, 3) := by decide +kernel
theorem dX8_canShoot_30 : decode cX8_canShoot 30 = .ok (.iload_n 3, 1) := by decide +kernel
theorem dX8_canShoot_31 : decode cX8_canShoot 31 = .ok (.i2l, 1) := by decide +kernel
theorem dX8_canShoot_32 : decode cX8_canShoot 32 = .ok (.ldc2_w 114, 3) := by decide +kernel
theorem dX8_canShoot_35 : decode cX8_canShoot 35 = .ok (.ldc2_w 116, 3) := by decide +kernel
theorem dX8_canShoot_38 : decode cX8_canShoot 38 = .ok (.invokestatic 63, 3) := by decide +kernel
theorem dX8_canShoot_41 : decode cX8_canShoot 41 = .ok (.ifCond .ne 8, 3) := by decide +kernel
theorem dX8_canShoot_44 : decode cX8_canShoot 44 = .ok (.bipush (-2), 2) := by decide +kernel
theorem dX8_canShoot_46 : decode cX8_canShoot 46 = .ok (.goto 18, 3) := by decide +kernel
theorem dX8_canShoot_49 : decode cX8_canShoot 49 = .ok (.aload_n 0, 1) := by decide +kernel
theorem dX8_canShoot_50 : decode cX8_canShoot 50 = .ok (.invokevirtual 59, 3) := by decide +kernel
theorem dX8_canShoot_53 : decode cX8_canShoot 53 = .ok (.bipush 6, 2) := by decide +kernel
theorem dX8_canShoot_55 : decode cX8_canShoot 55 = .ok (.if_icmp .ne 8, 3) := by decide +kernel
theorem dX8_canShoot_58 : decode cX8_canShoot 58 = .ok (.bipush (-4), 2) := by decide +kernel
theorem dX8_canShoot_60 : decode cX8_canShoot 60 = .ok (.goto 4, 3) := by decide +kernel
theorem dX8_canShoot_63 : decode cX8_canShoot 63 = .ok (.iconst 0, 1) := by decide +kernel
theorem dX8_canShoot_64 : decode cX8_canShoot 64 = .ok (.ireturn, 1) := by decide +kernel
theorem dX8_shotNow_0 : decode cX8_shotNow 0 = .ok (.aload_n 0, 1) := by decide +kernel
theorem dX8_shotNow_1 : decode cX8_shotNow 1 = .ok (.invokevirtual 59, 3) := by decide +kernel
theorem dX8_shotNow_4 : decode cX8_shotNow 4 = .ok (.istore 4, 2) := by decide +kernel
theorem dX8_shotNow_6 : decode cX8_shotNow 6 = .ok (.iconst 0, 1) := by decide +kernel
theorem dX8_shotNow_7 : decode cX8_shotNow 7 = .ok (.istore 5, 2) := by decide +kernel
theorem dX8_shotNow_9 : decode cX8_shotNow 9 = .ok (.iload 5, 2) := by decide +kernel
theorem dX8_shotNow_11 : decode cX8_shotNow 11 = .ok (.iconst 4, 1) := by decide +kernel
theorem dX8_shotNow_12 : decode cX8_shotNow 12 = .ok (.if_icmp .ge 79, 3) := by decide +kernel
theorem dX8_shotNow_15 : decode cX8_shotNow 15 = .ok (.iconst 0, 1) := by decide +kernel
theorem dX8_shotNow_16 : decode cX8_shotNow 16 = .ok (.istore 6, 2) := by decide +kernel
theorem dX8_shotNow_18 : decode cX8_shotNow 18 = .ok (.iload 6, 2) := by decide +kernel
theorem dX8_shotNow_20 : decode cX8_shotNow 20 = .ok (.bipush 8, 2) := by decide +kernel
theorem dX8_shotNow_22 : decode cX8_shotNow 22 = .ok (.if_icmp .ge 63, 3) := by decide +kernel
theorem dX8_shotNow_25 : decode cX8_shotNow 25 = .ok (.aload_n 0, 1) := by decide +kernel
theorem dX8_shotNow_26 : decode cX8_shotNow 26 = .ok (.getfield 7, 3) := by decide +kernel
theorem dX8_shotNow_29 : decode cX8_shotNow 29 = .ok (.sipush 196, 3) := by decide +kernel
theorem dX8_shotNow_32 : decode cX8_shotNow 32 = .ok (.bipush 35, 2) := by decide +kernel
theorem dX8_shotNow_34 : decode cX8_shotNow 34 = .ok (.iload 4, 2) := by decide +kernel
theorem dX8_shotNow_36 : decode cX8_shotNow 36 = .ok (.imul, 1) := by decide +kernel
theorem dX8_shotNow_37 : decode cX8_shotNow 37 = .ok (.iadd, 1) := by decide +kernel
theorem dX8_shotNow_38 : decode cX8_shotNow 38 = .ok (.bipush 8, 2) := by decide +kernel
theorem dX8_shotNow_40 : decode cX8_shotNow 40 = .ok (.iload 5, 2) := by decide +kernel
theorem dX8_shotNow_42 : decode cX8_shotNow 42 = .ok (.imul, 1) := by decide +kernel
theorem dX8_shotNow_43 : decode cX8_shotNow 43 = .ok (.iadd, 1) := by decide +kernel
theorem dX8_shotNow_44 : decode cX8_shotNow 44 = .ok (.iload 6, 2) := by decide +kernel
theorem dX8_shotNow_46 : decode cX8_shotNow 46 = .ok (.iadd, 1) := by decide +kernel
theorem dX8_shotNow_47 : decode cX8_shotNow 47 = .ok (.aload_n 0, 1) := by decide +kernel
theorem dX8_shotNow_48 : decode cX8_shotNow 48 = .ok (.getfield 7, 3) := by decide +kernel
theorem dX8_shotNow_51 : decode cX8_shotNow 51 = .ok (.iconst 4, 1) := by decide +kernel
theorem dX8_shotNow_52 : decode cX8_shotNow 52 = .ok (.bipush 32, 2) := by decide +kernel
theorem dX8_shotNow_54 : decode cX8_shotNow 54 = .ok (.iload_n 2, 1) := by decide +kernel
theorem dX8_shotNow_55 : decode cX8_shotNow 55 = .ok (.iload 5, 2) := by decide +kernel
theorem dX8_shotNow_57 : decode cX8_shotNow 57 = .ok (.iadd, 1) := by decide +kernel
theorem dX8_shotNow_58 : decode cX8_shotNow 58 = .ok (.imul, 1) := by decide +kernel
theorem dX8_shotNow_59 : decode cX8_shotNow 59 = .ok (.iadd, 1) := by decide +kernel
theorem dX8_shotNow_60 : decode cX8_shotNow 60 = .ok (.iload_n 1, 1) := by decide +kernel
theorem dX8_shotNow_61 : decode cX8_shotNow 61 = .ok (.iload 6, 2) := by decide +kernel
theorem dX8_shotNow_63 : decode cX8_shotNow 63 = .ok (.iadd, 1) := by decide +kernel
theorem dX8_shotNow_64 : decode cX8_shotNow 64 = .ok (.aload_n 0, 1) := by decide +kernel
theorem dX8_shotNow_65 : decode cX8_shotNow 65 = .ok (.getfield 7, 3) := by decide +kernel
theorem dX8_shotNow_68 : decode cX8_shotNow 68 = .ok (.iconst 0, 1) := by decide +kernel
theorem dX8_shotNow_69 : decode cX8_shotNow 69 = .ok (.iaload, 1) := by decide +kernel
theorem dX8_shotNow_70 : decode cX8_shotNow 70 = .ok (.irem, 1) := by decide +kernel
theorem dX8_shotNow_71 : decode cX8_shotNow 71 = .ok (.iadd, 1) := by decide +kernel
theorem dX8_shotNow_72 : decode cX8_shotNow 72 = .ok (.iaload, 1) := by decide +kernel
theorem dX8_shotNow_73 : decode cX8_shotNow 73 = .ok (.iload_n 3, 1) := by decide +kernel
theorem dX8_shotNow_74 : decode cX8_shotNow 74 = .ok (.iadd, 1) := by decide +kernel
theorem dX8_shotNow_75 : decode cX8_shotNow 75 = .ok (.invokestatic 118, 3) := by decide +kernel
theorem dX8_shotNow_78 : decode cX8_shotNow 78 = .ok (.iastore, 1) := by decide +kernel
theorem dX8_shotNow_79 : decode cX8_shotNow 79 = .ok (.iinc 6 1, 3) := by decide +kernel
theorem dX8_shotNow_82 : decode cX8_shotNow 82 = .ok (.goto (-64), 3) := by decide +kernel
theorem dX8_shotNow_85 : decode cX8_shotNow 85 = .ok (.iinc 5 1, 3) := by decide +kernel
theorem dX8_shotNow_88 : decode cX8_shotNow 88 = .ok (.goto (-79), 3) := by decide +kernel
theorem dX8_shotNow_91 : decode cX8_shotNow 91 = .ok (.aload_n 0, 1) := by decide +kernel
theorem dX8_shotNow_92 : decode cX8_shotNow 92 = .ok (.getfield 7, 3) := by decide +kernel
theorem dX8_shotNow_95 : decode cX8_shotNow 95 = .ok (.sipush 196, 3) := by decide +kernel
theorem dX8_shotNow_98 : decode cX8_shotNow 98 = .ok (.bipush 35, 2) := by decide +kernel
theorem dX8_shotNow_100 : decode cX8_shotNow 100 = .ok (.iload 4, 2) := by decide +kernel
theorem dX8_shotNow_102 : decode cX8_shotNow 102 = .ok (.imul, 1) := by decide +kernel
theorem dX8_shotNow_103 : decode cX8_shotNow 103 = .ok (.iadd, 1) := by decide +kernel
theorem dX8_shotNow_104 : decode cX8_shotNow 104 = .ok (.bipush 32, 2) := by decide +kernel
theorem dX8_shotNow_106 : decode cX8_shotNow 106 = .ok (.iadd, 1) := by decide +kernel
theorem dX8_shotNow_107 : decode cX8_shotNow 107 = .ok (.iload_n 1, 1) := by decide +kernel
theorem dX8_shotNow_108 : decode cX8_shotNow 108 = .ok (.iastore, 1) := by decide +kernel
theorem dX8_shotNow_109 : decode cX8_shotNow 109 = .ok (.aload_n 0, 1) := by decide +kernel
theorem dX8_shotNow_110 : decode cX8_shotNow 110 = .ok (.getfield 7, 3) := by decide +kernel
theorem dX8_shotNow_113 : decode cX8_shotNow 113 = .ok (.sipush 196, 3) := by decide +kernel
theorem dX8_shotNow_116 : decode cX8_shotNow 116 = .ok (.bipush 35, 2) := by decide +kernel
theorem dX8_shotNow_118 : decode cX8_shotNow 118 = .ok (.iload 4, 2) := by decide +kernel
theorem dX8_shotNow_120 : decode cX8_shotNow 120 = .ok (.imul, 1) := by decide +kernel
theorem dX8_shotNow_121 : decode cX8_shotNow 121 = .ok (.iadd, 1) := by decide +kernel
theorem dX8_shotNow_122 : decode cX8_shotNow 122 = .ok (.bipush 32, 2) := by decide +kernel
theorem dX8_shotNow_124 : decode cX8_shotNow 124 = .ok (.iadd, 1) := by decide +kernel
theorem dX8_shotNow_125 : decode cX8_shotNow 125 = .ok (.iconst 1, 1) := by decide +kernel
theorem dX8_shotNow_126 : decode cX8_shotNow 126 = .ok (.iadd, 1) := by decide +kernel
theorem dX8_shotNow_127 : decode cX8_shotNow 127 = .ok (.iload_n 2, 1) := by decide +kernel
theorem dX8_shotNow_128 : decode cX8_shotNow 128 = .ok (.iastore, 1) := by decide +kernel
theorem dX8_shotNow_129 : decode cX8_shotNow 129 = .ok (.aload_n 0, 1) := by decide +kernel
theorem dX8_shotNow_130 : decode cX8_shotNow 130 = .ok (.getfield 7, 3) := by decide +kernel
theorem dX8_shotNow_133 : decode cX8_shotNow 133 = .ok (.sipush 196, 3) := by decide +kernel
theorem dX8_shotNow_136 : decode cX8_shotNow 136 = .ok (.bipush 35, 2) := by decide +kernel
theorem dX8_shotNow_138 : decode cX8_shotNow 138 = .ok (.iload 4, 2) := by decide +kernel
theorem dX8_shotNow_140 : decode cX8_shotNow 140 = .ok (.imul, 1) := by decide +kernel
theorem dX8_shotNow_141 : decode cX8_shotNow 141 = .ok (.iadd, 1) := by decide +kernel
theorem dX8_shotNow_142 : decode cX8_shotNow 142 = .ok (.bipush 32, 2) := by decide +kernel
theorem dX8_shotNow_144 : decode cX8_shotNow 144 = .ok (.iadd, 1) := by decide +kernel
theorem dX8_shotNow_145 : decode cX8_shotNow 145 = .ok (.iconst 2, 1) := by decide +kernel
theorem dX8_shotNow_146 : decode cX8_shotNow 146 = .ok (.iadd, 1) := by decide +kernel
theorem dX8_shotNow_147 : decode cX8_shotNow 147 = .ok (.aload_n 0, 1) := by decide +kernel
theorem dX8_shotNow_148 : decode cX8_shotNow 148 = .ok (.getfield 7, 3) := by decide +kernel
theorem dX8_shotNow_151 : decode cX8_shotNow 151 = .ok (.iconst 0, 1) := by decide +kernel
theorem dX8_shotNow_152 : decode cX8_shotNow 152 = .ok (.iaload, 1) := by decide +kernel
theorem dX8_shotNow_153 : decode cX8_shotNow 153 = .ok (.iastore, 1) := by decide +kernel
theorem dX8_shotNow_154 : decode cX8_shotNow 154 = .ok (.aload_n 0, 1) := by decide +kernel
theorem dX8_shotNow_155 : decode cX8_shotNow 155 = .ok (.getfield 7, 3) := by decide +kernel
theorem dX8_shotNow_158 : decode cX8_shotNow 158 = .ok (.iconst 3, 1) := by decide +kernel
theorem dX8_shotNow_159 : decode cX8_shotNow 159 = .ok (.dup2, 1) := by decide +kernel
theorem dX8_shotNow_160 : decode cX8_shotNow 160 = .ok (.iaload, 1) := by decide +kernel
theorem dX8_shotNow_161 : decode cX8_shotNow 161 = .ok (.iconst 1, 1) := by decide +kernel
theorem dX8_shotNow_162 : decode cX8_shotNow 162 = .ok (.iadd, 1) := by decide +kernel
theorem dX8_shotNow_163 : decode cX8_shotNow 163 = .ok (.iastore, 1) := by decide +kernel
theorem dX8_shotNow_164 : decode cX8_shotNow 164 = .ok (.iload 4, 2) := by decide +kernel
theorem dX8_shotNow_166 : decode cX8_shotNow 166 = .ok (.ireturn, 1) := by decide +kernel
theorem dX8_shot_0 : decode cX8_shot 0 = .ok (.aload_n 0, 1) := by decide +kernel
theorem dX8_shot_1 : decode cX8_shot 1 = .ok (.iload_n 1, 1) := by decide +kernel
theorem dX8_shot_2 : decode cX8_shot 2 = .ok (.iload_n 2, 1) := by decide +kernel
theorem dX8_shot_3 : decode cX8_shot 3 = .ok (.iload_n 3, 1) := by decide +kernel
theorem dX8_shot_4 : decode cX8_shot 4 = .ok (.invokevirtual 121, 3) := by decide +kernel
theorem dX8_shot_7 : decode cX8_shot 7 = .ok (.istore 4, 2) := by decide +kernel
theorem dX8_shot_9 : decode cX8_shot 9 = .ok (.iload 4, 2) := by decide +kernel
theorem dX8_shot_11 : decode cX8_shot 11 = .ok (.ifCond .ge 10, 3) := by decide +kernel
theorem dX8_shot_14 : decode cX8_shot 14 = .ok (.aload_n 0, 1) := by decide +kernel
theorem dX8_shot_15 : decode cX8_shot 15 = .ok (.iload 4, 2) := by decide +kernel
theorem dX8_shot_17 : decode cX8_shot 17 = .ok (.invokevirtual 91, 3) := by decide +kernel
theorem dX8_shot_20 : decode cX8_shot 20 = .ok (.ireturn, 1) := by decide +kernel
theorem dX8_shot_21 : decode cX8_shot 21 = .ok (.aload_n 0, 1) := by decide +kernel
theorem dX8_shot_22 : decode cX8_shot 22 = .ok (.invokevirtual 95, 3) := by decide +kernel
theorem dX8_shot_25 : decode cX8_shot 25 = .ok (.aload_n 0, 1) := by decide +kernel
theorem dX8_shot_26 : decode cX8_shot 26 = .ok (.iload_n 1, 1) := by decide +kernel
theorem dX8_shot_27 : decode cX8_shot 27 = .ok (.iload_n 2, 1) := by decide +kernel
theorem dX8_shot_28 : decode cX8_shot 28 = .ok (.iload_n 3, 1) := by decide +kernel
theorem dX8_shot_29 : decode cX8_shot 29 = .ok (.invokevirtual 125, 3) := by decide +kernel
theorem dX8_shot_32 : decode cX8_shot 32 = .ok (.ireturn, 1) := by decide +kernel
theorem dX8_paint_0 : decode cX8_paint 0 = .ok (.aload_n 0, 1) := by decide +kernel
theorem dX8_paint_1 : decode cX8_paint 1 = .ok (.iload_n 1, 1) := by decide +kernel
theorem dX8_paint_2 : decode cX8_paint 2 = .ok (.invokevirtual 128, 3) := by decide +kernel
theorem dX8_paint_5 : decode cX8_paint 5 = .ok (.ifCond .eq 24, 3) := by decide +kernel
theorem dX8_paint_8 : decode cX8_paint 8 = .ok (.iload_n 2, 1) := by decide +kernel
theorem dX8_paint_9 : decode cX8_paint 9 = .ok (.iload_n 3, 1) := by decide +kernel
theorem dX8_paint_10 : decode cX8_paint 10 = .ok (.invokestatic 132, 3) := by decide +kernel
theorem dX8_paint_13 : decode cX8_paint 13 = .ok (.ifCond .eq 16, 3) := by decide +kernel
theorem dX8_paint_16 : decode cX8_paint 16 = .ok (.iload 4, 2) := by decide +kernel
theorem dX8_paint_18 : decode cX8_paint 18 = .ok (.i2l, 1) := by decide +kernel
theorem dX8_paint_19 : decode cX8_paint 19 = .ok (.lconst 0, 1) := by decide +kernel
theorem dX8_paint_20 : decode cX8_paint 20 = .ok (.ldc2_w 107, 3) := by decide +kernel
theorem dX8_paint_23 : decode cX8_paint 23 = .ok (.invokestatic 63, 3) := by decide +kernel
theorem dX8_paint_26 : decode cX8_paint 26 = .ok (.ifCond .ne 10, 3) := by decide +kernel
theorem dX8_paint_29 : decode cX8_paint 29 = .ok (.aload_n 0, 1) := by decide +kernel
theorem dX8_paint_30 : decode cX8_paint 30 = .ok (.bipush (-2), 2) := by decide +kernel
theorem dX8_paint_32 : decode cX8_paint 32 = .ok (.invokevirtual 91, 3) := by decide +kernel
theorem dX8_paint_35 : decode cX8_paint 35 = .ok (.ireturn, 1) := by decide +kernel
theorem dX8_paint_36 : decode cX8_paint 36 = .ok (.aload_n 0, 1) := by decide +kernel
theorem dX8_paint_37 : decode cX8_paint 37 = .ok (.invokevirtual 95, 3) := by decide +kernel
theorem dX8_paint_40 : decode cX8_paint 40 = .ok (.aload_n 0, 1) := by decide +kernel
theorem dX8_paint_41 : decode cX8_paint 41 = .ok (.sipush 196, 3) := by decide +kernel
theorem dX8_paint_44 : decode cX8_paint 44 = .ok (.bipush 35, 2) := by decide +kernel
theorem dX8_paint_46 : decode cX8_paint 46 = .ok (.iload_n 1, 1) := by decide +kernel
theorem dX8_paint_47 : decode cX8_paint 47 = .ok (.imul, 1) := by decide +kernel
theorem dX8_paint_48 : decode cX8_paint 48 = .ok (.iadd, 1) := by decide +kernel
theorem dX8_paint_49 : decode cX8_paint 49 = .ok (.bipush 8, 2) := by decide +kernel
theorem dX8_paint_51 : decode cX8_paint 51 = .ok (.iload_n 2, 1) := by decide +kernel
theorem dX8_paint_52 : decode cX8_paint 52 = .ok (.imul, 1) := by decide +kernel
theorem dX8_paint_53 : decode cX8_paint 53 = .ok (.iadd, 1) := by decide +kernel
theorem dX8_paint_54 : decode cX8_paint 54 = .ok (.iload_n 3, 1) := by decide +kernel
theorem dX8_paint_55 : decode cX8_paint 55 = .ok (.iadd, 1) := by decide +kernel
theorem dX8_paint_56 : decode cX8_paint 56 = .ok (.iload 4, 2) := by decide +kernel
theorem dX8_paint_58 : decode cX8_paint 58 = .ok (.invokevirtual 109, 3) := by decide +kernel
theorem dX8_paint_61 : decode cX8_paint 61 = .ok (.ireturn, 1) := by decide +kernel
theorem dX8_dropNow_0 : decode cX8_dropNow 0 = .ok (.sipush 196, 3) := by decide +kernel
theorem dX8_dropNow_3 : decode cX8_dropNow 3 = .ok (.bipush 35, 2) := by decide +kernel
theorem dX8_dropNow_5 : decode cX8_dropNow 5 = .ok (.iload_n 1, 1) := by decide +kernel
theorem dX8_dropNow_6 : decode cX8_dropNow 6 = .ok (.imul, 1) := by decide +kernel
theorem dX8_dropNow_7 : decode cX8_dropNow 7 = .ok (.iadd, 1) := by decide +kernel
theorem dX8_dropNow_8 : decode cX8_dropNow 8 = .ok (.istore_n 2, 1) := by decide +kernel
theorem dX8_dropNow_9 : decode cX8_dropNow 9 = .ok (.iload_n 2, 1) := by decide +kernel
theorem dX8_dropNow_10 : decode cX8_dropNow 10 = .ok (.sipush 196, 3) := by decide +kernel
theorem dX8_dropNow_13 : decode cX8_dropNow 13 = .ok (.bipush 35, 2) := by decide +kernel
theorem dX8_dropNow_15 : decode cX8_dropNow 15 = .ok (.aload_n 0, 1) := by decide +kernel
theorem dX8_dropNow_16 : decode cX8_dropNow 16 = .ok (.invokevirtual 59, 3) := by decide +kernel
theorem dX8_dropNow_19 : decode cX8_dropNow 19 = .ok (.iconst 1, 1) := by decide +kernel
theorem dX8_dropNow_20 : decode cX8_dropNow 20 = .ok (.isub, 1) := by decide +kernel
theorem dX8_dropNow_21 : decode cX8_dropNow 21 = .ok (.imul, 1) := by decide +kernel
theorem dX8_dropNow_22 : decode cX8_dropNow 22 = .ok (.iadd, 1) := by decide +kernel
theorem dX8_dropNow_23 : decode cX8_dropNow 23 = .ok (.if_icmp .ge 24, 3) := by decide +kernel
theorem dX8_dropNow_26 : decode cX8_dropNow 26 = .ok (.aload_n 0, 1) := by decide +kernel
theorem dX8_dropNow_27 : decode cX8_dropNow 27 = .ok (.getfield 7, 3) := by decide +kernel
theorem dX8_dropNow_30 : decode cX8_dropNow 30 = .ok (.iload_n 2, 1) := by decide +kernel
theorem dX8_dropNow_31 : decode cX8_dropNow 31 = .ok (.aload_n 0, 1) := by decide +kernel
theorem dX8_dropNow_32 : decode cX8_dropNow 32 = .ok (.getfield 7, 3) := by decide +kernel
theorem dX8_dropNow_35 : decode cX8_dropNow 35 = .ok (.iload_n 2, 1) := by decide +kernel
theorem dX8_dropNow_36 : decode cX8_dropNow 36 = .ok (.bipush 35, 2) := by decide +kernel
theorem dX8_dropNow_38 : decode cX8_dropNow 38 = .ok (.iadd, 1) := by decide +kernel
theorem dX8_dropNow_39 : decode cX8_dropNow 39 = .ok (.iaload, 1) := by decide +kernel
theorem dX8_dropNow_40 : decode cX8_dropNow 40 = .ok (.iastore, 1) := by decide +kernel
theorem dX8_dropNow_41 : decode cX8_dropNow 41 = .ok (.iinc 2 1, 3) := by decide +kernel
theorem dX8_dropNow_44 : decode cX8_dropNow 44 = .ok (.goto (-35), 3) := by decide +kernel
theorem dX8_dropNow_47 : decode cX8_dropNow 47 = .ok (.aload_n 0, 1) := by decide +kernel
theorem dX8_dropNow_48 : decode cX8_dropNow 48 = .ok (.getfield 7, 3) := by decide +kernel
theorem dX8_dropNow_51 : decode cX8_dropNow 51 = .ok (.iconst 3, 1) := by decide +kernel
theorem dX8_dropNow_52 : decode cX8_dropNow 52 = .ok (.dup2, 1) := by decide +kernel
theorem dX8_dropNow_53 : decode cX8_dropNow 53 = .ok (.iaload, 1) := by decide +kernel
theorem dX8_dropNow_54 : decode cX8_dropNow 54 = .ok (.iconst 1, 1) := by decide +kernel
theorem dX8_dropNow_55 : decode cX8_dropNow 55 = .ok (.isub, 1) := by decide +kernel
theorem dX8_dropNow_56 : decode cX8_dropNow 56 = .ok (.iastore, 1) := by decide +kernel
theorem dX8_dropNow_57 : decode cX8_dropNow 57 = .ok (.aload_n 0, 1) := by decide +kernel
theorem dX8_dropNow_58 : decode cX8_dropNow 58 = .ok (.invokevirtual 59, 3) := by decide +kernel
theorem dX8_dropNow_61 : decode cX8_dropNow 61 = .ok (.ireturn, 1) := by decide +kernel
theorem dX8_drops_0 : decode cX8_drops 0 = .ok (.aload_n 0, 1) := by decide +kernel
theorem dX8_drops_1 : decode cX8_drops 1 = .ok (.iload_n 1, 1) := by decide +kernel
theorem dX8_drops_2 : decode cX8_drops 2 = .ok (.invokevirtual 128, 3) := by decide +kernel
theorem dX8_drops_5 : decode cX8_drops 5 = .ok (.ifCond .ne 10, 3) := by decide +kernel
theorem dX8_drops_8 : decode cX8_drops 8 = .ok (.aload_n 0, 1) := by decide +kernel
theorem dX8_drops_9 : decode cX8_drops 9 = .ok (.bipush (-2), 2) := by decide +kernel
theorem dX8_drops_11 : decode cX8_drops 11 = .ok (.invokevirtual 91, 3) := by decide +kernel
theorem dX8_drops_14 : decode cX8_drops 14 = .ok (.ireturn, 1) := by decide +kernel
theorem dX8_drops_15 : decode cX8_drops 15 = .ok (.aload_n 0, 1) := by decide +kernel
theorem dX8_drops_16 : decode cX8_drops 16 = .ok (.invokevirtual 95, 3) := by decide +kernel
theorem dX8_drops_19 : decode cX8_drops 19 = .ok (.aload_n 0, 1) := by decide +kernel
theorem dX8_drops_20 : decode cX8_drops 20 = .ok (.iload_n 1, 1) := by decide +kernel
theorem dX8_drops_21 : decode cX8_drops 21 = .ok (.invokevirtual 135, 3) := by decide +kernel
theorem dX8_drops_24 : decode cX8_drops 24 = .ok (.ireturn, 1) := by decide +kernel
theorem dX8_isSetting_0 : decode cX8_isSetting 0 = .ok (.iload_n 0, 1) := by decide +kernel
theorem dX8_isSetting_1 : decode cX8_isSetting 1 = .ok (.ifCond .ne 15, 3) := by decide +kernel
theorem dX8_isSetting_4 : decode cX8_isSetting 4 = .ok (.iload_n 1, 1) := by decide +kernel
theorem dX8_isSetting_5 : decode cX8_isSetting 5 = .ok (.i2l, 1) := by decide +kernel
theorem dX8_isSetting_6 : decode cX8_isSetting 6 = .ok (.lconst 1, 1) := by decide +kernel
theorem dX8_isSetting_7 : decode cX8_isSetting 7 = .ok (.ldc2_w 138, 3) := by decide +kernel
theorem dX8_isSetting_10 : decode cX8_isSetting 10 = .ok (.invokestatic 63, 3) := by decide +kernel
theorem dX8_isSetting_13 : decode cX8_isSetting 13 = .ok (.ifCond .ne 20, 3) := by decide +kernel
theorem dX8_isSetting_16 : decode cX8_isSetting 16 = .ok (.iload_n 0, 1) := by decide +kernel
theorem dX8_isSetting_17 : decode cX8_isSetting 17 = .ok (.iconst 1, 1) := by decide +kernel
theorem dX8_isSetting_18 : decode cX8_isSetting 18 = .ok (.if_icmp .ne 19, 3) := by decide +kernel
theorem dX8_isSetting_21 : decode cX8_isSetting 21 = .ok (.iload_n 1, 1) := by decide +kernel
theorem dX8_isSetting_22 : decode cX8_isSetting 22 = .ok (.i2l, 1) := by decide +kernel
theorem dX8_isSetting_23 : decode cX8_isSetting 23 = .ok (.lconst 0, 1) := by decide +kernel
theorem dX8_isSetting_24 : decode cX8_isSetting 24 = .ok (.ldc2_w 107, 3) := by decide +kernel
theorem dX8_isSetting_27 : decode cX8_isSetting 27 = .ok (.invokestatic 63, 3) := by decide +kernel
theorem dX8_isSetting_30 : decode cX8_isSetting 30 = .ok (.ifCond .eq 7, 3) := by decide +kernel
theorem dX8_isSetting_33 : decode cX8_isSetting 33 = .ok (.iconst 1, 1) := by decide +kernel
theorem dX8_isSetting_34 : decode cX8_isSetting 34 = .ok (.goto 4, 3) := by decide +kernel
theorem dX8_isSetting_37 : decode cX8_isSetting 37 = .ok (.iconst 0, 1) := by decide +kernel
theorem dX8_isSetting_38 : decode cX8_isSetting 38 = .ok (.ireturn, 1) := by decide +kernel
theorem dX8_sets_0 : decode cX8_sets 0 = .ok (.iload_n 1, 1) := by decide +kernel
theorem dX8_sets_1 : decode cX8_sets 1 = .ok (.iload_n 2, 1) := by decide +kernel
theorem dX8_sets_2 : decode cX8_sets 2 = .ok (.invokestatic 140, 3) := by decide +kernel
theorem dX8_sets_5 : decode cX8_sets 5 = .ok (.ifCond .ne 10, 3) := by decide +kernel
theorem dX8_sets_8 : decode cX8_sets 8 = .ok (.aload_n 0, 1) := by decide +kernel
theorem dX8_sets_9 : decode cX8_sets 9 = .ok (.bipush (-2), 2) := by decide +kernel
theorem dX8_sets_11 : decode cX8_sets 11 = .ok (.invokevirtual 91, 3) := by decide +kernel
theorem dX8_sets_14 : decode cX8_sets 14 = .ok (.ireturn, 1) := by decide +kernel
theorem dX8_sets_15 : decode cX8_sets 15 = .ok (.aload_n 0, 1) := by decide +kernel
theorem dX8_sets_16 : decode cX8_sets 16 = .ok (.invokevirtual 95, 3) := by decide +kernel
theorem dX8_sets_19 : decode cX8_sets 19 = .ok (.aload_n 0, 1) := by decide +kernel
theorem dX8_sets_20 : decode cX8_sets 20 = .ok (.iconst 1, 1) := by decide +kernel
theorem dX8_sets_21 : decode cX8_sets 21 = .ok (.iload_n 1, 1) := by decide +kernel
theorem dX8_sets_22 : decode cX8_sets 22 = .ok (.iadd, 1) := by decide +kernel
theorem dX8_sets_23 : decode cX8_sets 23 = .ok (.iload_n 2, 1) := by decide +kernel
theorem dX8_sets_24 : decode cX8_sets 24 = .ok (.invokevirtual 109, 3) := by decide +kernel
theorem dX8_sets_27 : decode cX8_sets 27 = .ok (.ireturn, 1) := by decide +kernel
theorem dX8_value_0 : decode cX8_value 0 = .ok (.iload_n 1, 1) := by decide +kernel
theorem dX8_value_1 : decode cX8_value 1 = .ok (.iconst (-1), 1) := by decide +kernel
theorem dX8_value_2 : decode cX8_value 2 = .ok (.if_icmp .ne 35, 3) := by decide +kernel
theorem dX8_value_5 : decode cX8_value 5 = .ok (.aload_n 0, 1) := by decide +kernel
theorem dX8_value_6 : decode cX8_value 6 = .ok (.iload_n 2, 1) := by decide +kernel
theorem dX8_value_7 : decode cX8_value 7 = .ok (.iload_n 3, 1) := by decide +kernel
theorem dX8_value_8 : decode cX8_value 8 = .ok (.invokevirtual 104, 3) := by decide +kernel
theorem dX8_value_11 : decode cX8_value 11 = .ok (.ifCond .eq 19, 3) := by decide +kernel
theorem dX8_value_14 : decode cX8_value 14 = .ok (.aload_n 0, 1) := by decide +kernel
theorem dX8_value_15 : decode cX8_value 15 = .ok (.getfield 7, 3) := by decide +kernel
theorem dX8_value_18 : decode cX8_value 18 = .ok (.iconst 4, 1) := by decide +kernel
theorem dX8_value_19 : decode cX8_value 19 = .ok (.bipush 32, 2) := by decide +kernel
theorem dX8_value_21 : decode cX8_value 21 = .ok (.iload_n 2, 1) := by decide +kernel
theorem dX8_value_22 : decode cX8_value 22 = .ok (.imul, 1) := by decide +kernel
theorem dX8_value_23 : decode cX8_value 23 = .ok (.iadd, 1) := by decide +kernel
theorem dX8_value_24 : decode cX8_value 24 = .ok (.iload_n 3, 1) := by decide +kernel
theorem dX8_value_25 : decode cX8_value 25 = .ok (.iadd, 1) := by decide +kernel
theorem dX8_value_26 : decode cX8_value 26 = .ok (.iaload, 1) := by decide +kernel
theorem dX8_value_27 : decode cX8_value 27 = .ok (.goto 9, 3) := by decide +kernel
theorem dX8_value_30 : decode cX8_value 30 = .ok (.aload_n 0, 1) := by decide +kernel
theorem dX8_value_31 : decode cX8_value 31 = .ok (.bipush (-2), 2) := by decide +kernel
theorem dX8_value_33 : decode cX8_value 33 = .ok (.invokevirtual 91, 3) := by decide +kernel
theorem dX8_value_36 : decode cX8_value 36 = .ok (.ireturn, 1) := by decide +kernel
theorem dX8_value_37 : decode cX8_value 37 = .ok (.aload_n 0, 1) := by decide +kernel
theorem dX8_value_38 : decode cX8_value 38 = .ok (.iload_n 1, 1) := by decide +kernel
theorem dX8_value_39 : decode cX8_value 39 = .ok (.invokevirtual 128, 3) := by decide +kernel
theorem dX8_value_42 : decode cX8_value 42 = .ok (.ifCond .eq 21, 3) := by decide +kernel
theorem dX8_value_45 : decode cX8_value 45 = .ok (.iload_n 2, 1) := by decide +kernel
theorem dX8_value_46 : decode cX8_value 46 = .ok (.iload_n 3, 1) := by decide +kernel
theorem dX8_value_47 : decode cX8_value 47 = .ok (.invokestatic 132, 3) := by decide +kernel
theorem dX8_value_50 : decode cX8_value 50 = .ok (.ifCond .eq 13, 3) := by decide +kernel
theorem dX8_value_53 : decode cX8_value 53 = .ok (.aload_n 0, 1) := by decide +kernel
theorem dX8_value_54 : decode cX8_value 54 = .ok (.iload_n 1, 1) := by decide +kernel
theorem dX8_value_55 : decode cX8_value 55 = .ok (.iload_n 2, 1) := by decide +kernel
theorem dX8_value_56 : decode cX8_value 56 = .ok (.iload_n 3, 1) := by decide +kernel
theorem dX8_value_57 : decode cX8_value 57 = .ok (.invokevirtual 143, 3) := by decide +kernel
theorem dX8_value_60 : decode cX8_value 60 = .ok (.goto 9, 3) := by decide +kernel
theorem dX8_value_63 : decode cX8_value 63 = .ok (.aload_n 0, 1) := by decide +kernel
theorem dX8_value_64 : decode cX8_value 64 = .ok (.bipush (-2), 2) := by decide +kernel
theorem dX8_value_66 : decode cX8_value 66 = .ok (.invokevirtual 91, 3) := by decide +kernel
theorem dX8_value_69 : decode cX8_value 69 = .ok (.ireturn, 1) := by decide +kernel
theorem dX8_pair_0 : decode cX8_pair 0 = .ok (.aload_n 0, 1) := by decide +kernel
theorem dX8_pair_1 : decode cX8_pair 1 = .ok (.iload_n 1, 1) := by decide +kernel
theorem dX8_pair_2 : decode cX8_pair 2 = .ok (.iload_n 2, 1) := by decide +kernel
theorem dX8_pair_3 : decode cX8_pair 3 = .ok (.iload_n 3, 1) := by decide +kernel
theorem dX8_pair_4 : decode cX8_pair 4 = .ok (.invokevirtual 143, 3) := by decide +kernel
theorem dX8_pair_7 : decode cX8_pair 7 = .ok (.aload_n 0, 1) := by decide +kernel
theorem dX8_pair_8 : decode cX8_pair 8 = .ok (.iload_n 1, 1) := by decide +kernel
theorem dX8_pair_9 : decode cX8_pair 9 = .ok (.iload_n 2, 1) := by decide +kernel
theorem dX8_pair_10 : decode cX8_pair 10 = .ok (.iload 4, 2) := by decide +kernel
theorem dX8_pair_12 : decode cX8_pair 12 = .ok (.iadd, 1) := by decide +kernel
theorem dX8_pair_13 : decode cX8_pair 13 = .ok (.iload_n 3, 1) := by decide +kernel
theorem dX8_pair_14 : decode cX8_pair 14 = .ok (.iload 5, 2) := by decide +kernel
theorem dX8_pair_16 : decode cX8_pair 16 = .ok (.iadd, 1) := by decide +kernel
theorem dX8_pair_17 : decode cX8_pair 17 = .ok (.invokevirtual 143, 3) := by decide +kernel
theorem dX8_pair_20 : decode cX8_pair 20 = .ok (.isub, 1) := by decide +kernel
theorem dX8_pair_21 : decode cX8_pair 21 = .ok (.invokestatic 146, 3) := by decide +kernel
theorem dX8_pair_24 : decode cX8_pair 24 = .ok (.aload_n 0, 1) := by decide +kernel
theorem dX8_pair_25 : decode cX8_pair 25 = .ok (.iload_n 1, 1) := by decide +kernel
theorem dX8_pair_26 : decode cX8_pair 26 = .ok (.iload_n 2, 1) := by decide +kernel
theorem dX8_pair_27 : decode cX8_pair 27 = .ok (.iload_n 3, 1) := by decide +kernel
theorem dX8_pair_28 : decode cX8_pair 28 = .ok (.invokevirtual 143, 3) := by decide +kernel
theorem dX8_pair_31 : decode cX8_pair 31 = .ok (.aload_n 0, 1) := by decide +kernel
theorem dX8_pair_32 : decode cX8_pair 32 = .ok (.iload_n 1, 1) := by decide +kernel
theorem dX8_pair_33 : decode cX8_pair 33 = .ok (.iload_n 2, 1) := by decide +kernel
theorem dX8_pair_34 : decode cX8_pair 34 = .ok (.iload 4, 2) := by decide +kernel
theorem dX8_pair_36 : decode cX8_pair 36 = .ok (.isub, 1) := by decide +kernel
theorem dX8_pair_37 : decode cX8_pair 37 = .ok (.iload_n 3, 1) := by decide +kernel
theorem dX8_pair_38 : decode cX8_pair 38 = .ok (.iload 5, 2) := by decide +kernel
theorem dX8_pair_40 : decode cX8_pair 40 = .ok (.isub, 1) := by decide +kernel
theorem dX8_pair_41 : decode cX8_pair 41 = .ok (.invokevirtual 143, 3) := by decide +kernel
theorem dX8_pair_44 : decode cX8_pair 44 = .ok (.isub, 1) := by decide +kernel
theorem dX8_pair_45 : decode cX8_pair 45 = .ok (.invokestatic 146, 3) := by decide +kernel
theorem dX8_pair_48 : decode cX8_pair 48 = .ok (.iadd, 1) := by decide +kernel
theorem dX8_pair_49 : decode cX8_pair 49 = .ok (.ireturn, 1) := by decide +kernel
theorem dX8_changeNow_0 : decode cX8_changeNow 0 = .ok (.aload_n 0, 1) := by decide +kernel
theorem dX8_changeNow_1 : decode cX8_changeNow 1 = .ok (.iload_n 1, 1) := by decide +kernel
theorem dX8_changeNow_2 : decode cX8_changeNow 2 = .ok (.iload_n 2, 1) := by decide +kernel
theorem dX8_changeNow_3 : decode cX8_changeNow 3 = .ok (.iload_n 3, 1) := by decide +kernel
theorem dX8_changeNow_4 : decode cX8_changeNow 4 = .ok (.iconst 0, 1) := by decide +kernel
theorem dX8_changeNow_5 : decode cX8_changeNow 5 = .ok (.iconst 1, 1) := by decide +kernel
theorem dX8_changeNow_6 : decode cX8_changeNow 6 = .ok (.invokevirtual 149, 3) := by decide +kernel
theorem dX8_changeNow_9 : decode cX8_changeNow 9 = .ok (.istore 4, 2) := by decide +kernel
theorem dX8_changeNow_11 : decode cX8_changeNow 11 = .ok (.aload_n 0, 1) := by decide +kernel
theorem dX8_changeNow_12 : decode cX8_changeNow 12 = .ok (.iload_n 1, 1) := by decide +kernel
theorem dX8_changeNow_13 : decode cX8_changeNow 13 = .ok (.iload_n 2, 1) := by decide +kernel
theorem dX8_changeNow_14 : decode cX8_changeNow 14 = .ok (.iload_n 3, 1) := by decide +kernel
theorem dX8_changeNow_15 : decode cX8_changeNow 15 = .ok (.iconst 1, 1) := by decide +kernel
theorem dX8_changeNow_16 : decode cX8_changeNow 16 = .ok (.iconst 0, 1) := by decide +kernel
theorem dX8_changeNow_17 : decode cX8_changeNow 17 = .ok (.invokevirtual 149, 3) := by decide +kernel
theorem dX8_changeNow_20 : decode cX8_changeNow 20 = .ok (.istore 5, 2) := by decide +kernel
theorem dX8_changeNow_22 : decode cX8_changeNow 22 = .ok (.iload 5, 2) := by decide +kernel
theorem dX8_changeNow_24 : decode cX8_changeNow 24 = .ok (.iload 4, 2) := by decide +kernel
theorem dX8_changeNow_26 : decode cX8_changeNow 26 = .ok (.if_icmp .ge 8, 3) := by decide +kernel
theorem dX8_changeNow_29 : decode cX8_changeNow 29 = .ok (.iload 5, 2) := by decide +kernel
theorem dX8_changeNow_31 : decode cX8_changeNow 31 = .ok (.goto 5, 3) := by decide +kernel
theorem dX8_changeNow_34 : decode cX8_changeNow 34 = .ok (.iload 4, 2) := by decide +kernel
theorem dX8_changeNow_36 : decode cX8_changeNow 36 = .ok (.istore 4, 2) := by decide +kernel
theorem dX8_changeNow_38 : decode cX8_changeNow 38 = .ok (.aload_n 0, 1) := by decide +kernel
theorem dX8_changeNow_39 : decode cX8_changeNow 39 = .ok (.iload_n 1, 1) := by decide +kernel
theorem dX8_changeNow_40 : decode cX8_changeNow 40 = .ok (.iload_n 2, 1) := by decide +kernel
theorem dX8_changeNow_41 : decode cX8_changeNow 41 = .ok (.iload_n 3, 1) := by decide +kernel
theorem dX8_changeNow_42 : decode cX8_changeNow 42 = .ok (.iconst 1, 1) := by decide +kernel
theorem dX8_changeNow_43 : decode cX8_changeNow 43 = .ok (.iconst 1, 1) := by decide +kernel
theorem dX8_changeNow_44 : decode cX8_changeNow 44 = .ok (.invokevirtual 149, 3) := by decide +kernel
theorem dX8_changeNow_47 : decode cX8_changeNow 47 = .ok (.istore 5, 2) := by decide +kernel
theorem dX8_changeNow_49 : decode cX8_changeNow 49 = .ok (.iload 5, 2) := by decide +kernel
theorem dX8_changeNow_51 : decode cX8_changeNow 51 = .ok (.iload 4, 2) := by decide +kernel
theorem dX8_changeNow_53 : decode cX8_changeNow 53 = .ok (.if_icmp .ge 8, 3) := by decide +kernel
theorem dX8_changeNow_56 : decode cX8_changeNow 56 = .ok (.iload 5, 2) := by decide +kernel
theorem dX8_changeNow_58 : decode cX8_changeNow 58 = .ok (.goto 5, 3) := by decide +kernel
theorem dX8_changeNow_61 : decode cX8_changeNow 61 = .ok (.iload 4, 2) := by decide +kernel
theorem dX8_changeNow_63 : decode cX8_changeNow 63 = .ok (.istore 4, 2) := by decide +kernel
theorem dX8_changeNow_65 : decode cX8_changeNow 65 = .ok (.aload_n 0, 1) := by decide +kernel
theorem dX8_changeNow_66 : decode cX8_changeNow 66 = .ok (.iload_n 1, 1) := by decide +kernel
theorem dX8_changeNow_67 : decode cX8_changeNow 67 = .ok (.iload_n 2, 1) := by decide +kernel
theorem dX8_changeNow_68 : decode cX8_changeNow 68 = .ok (.iload_n 3, 1) := by decide +kernel
theorem dX8_changeNow_69 : decode cX8_changeNow 69 = .ok (.iconst 1, 1) := by decide +kernel
theorem dX8_changeNow_70 : decode cX8_changeNow 70 = .ok (.iconst (-1), 1) := by decide +kernel
theorem dX8_changeNow_71 : decode cX8_changeNow 71 = .ok (.invokevirtual 149, 3) := by decide +kernel
theorem dX8_changeNow_74 : decode cX8_changeNow 74 = .ok (.istore 5, 2) := by decide +kernel
theorem dX8_changeNow_76 : decode cX8_changeNow 76 = .ok (.iload 5, 2) := by decide +kernel
theorem dX8_changeNow_78 : decode cX8_changeNow 78 = .ok (.iload 4, 2) := by decide +kernel
theorem dX8_changeNow_80 : decode cX8_changeNow 80 = .ok (.if_icmp .ge 8, 3) := by decide +kernel
theorem dX8_changeNow_83 : decode cX8_changeNow 83 = .ok (.iload 5, 2) := by decide +kernel
theorem dX8_changeNow_85 : decode cX8_changeNow 85 = .ok (.goto 5, 3) := by decide +kernel
theorem dX8_changeNow_88 : decode cX8_changeNow 88 = .ok (.iload 4, 2) := by decide +kernel
theorem dX8_changeNow_90 : decode cX8_changeNow 90 = .ok (.ireturn, 1) := by decide +kernel
theorem dX8_isInner_0 : decode cX8_isInner 0 = .ok (.iload_n 0, 1) := by decide +kernel
theorem dX8_isInner_1 : decode cX8_isInner 1 = .ok (.i2l, 1) := by decide +kernel
theorem dX8_isInner_2 : decode cX8_isInner 2 = .ok (.lconst 1, 1) := by decide +kernel
theorem dX8_isInner_3 : decode cX8_isInner 3 = .ok (.ldc2_w 112, 3) := by decide +kernel
theorem dX8_isInner_6 : decode cX8_isInner 6 = .ok (.invokestatic 63, 3) := by decide +kernel
theorem dX8_isInner_9 : decode cX8_isInner 9 = .ok (.ifCond .eq 19, 3) := by decide +kernel
theorem dX8_isInner_12 : decode cX8_isInner 12 = .ok (.iload_n 1, 1) := by decide +kernel
theorem dX8_isInner_13 : decode cX8_isInner 13 = .ok (.i2l, 1) := by decide +kernel
theorem dX8_isInner_14 : decode cX8_isInner 14 = .ok (.lconst 1, 1) := by decide +kernel
theorem dX8_isInner_15 : decode cX8_isInner 15 = .ok (.ldc2_w 153, 3) := by decide +kernel
theorem dX8_isInner_18 : decode cX8_isInner 18 = .ok (.invokestatic 63, 3) := by decide +kernel
theorem dX8_isInner_21 : decode cX8_isInner 21 = .ok (.ifCond .eq 7, 3) := by decide +kernel
theorem dX8_isInner_24 : decode cX8_isInner 24 = .ok (.iconst 1, 1) := by decide +kernel
theorem dX8_isInner_25 : decode cX8_isInner 25 = .ok (.goto 4, 3) := by decide +kernel
theorem dX8_isInner_28 : decode cX8_isInner 28 = .ok (.iconst 0, 1) := by decide +kernel
theorem dX8_isInner_29 : decode cX8_isInner 29 = .ok (.ireturn, 1) := by decide +kernel
theorem dX8_change_0 : decode cX8_change 0 = .ok (.aload_n 0, 1) := by decide +kernel
theorem dX8_change_1 : decode cX8_change 1 = .ok (.iload_n 1, 1) := by decide +kernel
theorem dX8_change_2 : decode cX8_change 2 = .ok (.invokevirtual 128, 3) := by decide +kernel
theorem dX8_change_5 : decode cX8_change 5 = .ok (.ifCond .eq 21, 3) := by decide +kernel
theorem dX8_change_8 : decode cX8_change 8 = .ok (.iload_n 2, 1) := by decide +kernel
theorem dX8_change_9 : decode cX8_change 9 = .ok (.iload_n 3, 1) := by decide +kernel
theorem dX8_change_10 : decode cX8_change 10 = .ok (.invokestatic 155, 3) := by decide +kernel
theorem dX8_change_13 : decode cX8_change 13 = .ok (.ifCond .eq 13, 3) := by decide +kernel
theorem dX8_change_16 : decode cX8_change 16 = .ok (.aload_n 0, 1) := by decide +kernel
theorem dX8_change_17 : decode cX8_change 17 = .ok (.iload_n 1, 1) := by decide +kernel
theorem dX8_change_18 : decode cX8_change 18 = .ok (.iload_n 2, 1) := by decide +kernel
theorem dX8_change_19 : decode cX8_change 19 = .ok (.iload_n 3, 1) := by decide +kernel
theorem dX8_change_20 : decode cX8_change 20 = .ok (.invokevirtual 158, 3) := by decide +kernel
theorem dX8_change_23 : decode cX8_change 23 = .ok (.goto 9, 3) := by decide +kernel
theorem dX8_change_26 : decode cX8_change 26 = .ok (.aload_n 0, 1) := by decide +kernel
theorem dX8_change_27 : decode cX8_change 27 = .ok (.bipush (-2), 2) := by decide +kernel
theorem dX8_change_29 : decode cX8_change 29 = .ok (.invokevirtual 91, 3) := by decide +kernel
theorem dX8_change_32 : decode cX8_change 32 = .ok (.ireturn, 1) := by decide +kernel
theorem dX8_isCorner_0 : decode cX8_isCorner 0 = .ok (.iload_n 2, 1) := by decide +kernel
theorem dX8_isCorner_1 : decode cX8_isCorner 1 = .ok (.iload_n 3, 1) := by decide +kernel
theorem dX8_isCorner_2 : decode cX8_isCorner 2 = .ok (.invokestatic 155, 3) := by decide +kernel
theorem dX8_isCorner_5 : decode cX8_isCorner 5 = .ok (.ifCond .eq 23, 3) := by decide +kernel
theorem dX8_isCorner_8 : decode cX8_isCorner 8 = .ok (.aload_n 0, 1) := by decide +kernel
theorem dX8_isCorner_9 : decode cX8_isCorner 9 = .ok (.iload_n 1, 1) := by decide +kernel
theorem dX8_isCorner_10 : decode cX8_isCorner 10 = .ok (.iload_n 2, 1) := by decide +kernel
theorem dX8_isCorner_11 : decode cX8_isCorner 11 = .ok (.iload_n 3, 1) := by decide +kernel
theorem dX8_isCorner_12 : decode cX8_isCorner 12 = .ok (.invokevirtual 158, 3) := by decide +kernel
theorem dX8_isCorner_15 : decode cX8_isCorner 15 = .ok (.aload_n 0, 1) := by decide +kernel
theorem dX8_isCorner_16 : decode cX8_isCorner 16 = .ok (.getfield 7, 3) := by decide +kernel
theorem dX8_isCorner_19 : decode cX8_isCorner 19 = .ok (.iconst 1, 1) := by decide +kernel
theorem dX8_isCorner_20 : decode cX8_isCorner 20 = .ok (.iaload, 1) := by decide +kernel
theorem dX8_isCorner_21 : decode cX8_isCorner 21 = .ok (.if_icmp .lt 7, 3) := by decide +kernel
theorem dX8_isCorner_24 : decode cX8_isCorner 24 = .ok (.iconst 1, 1) := by decide +kernel
theorem dX8_isCorner_25 : decode cX8_isCorner 25 = .ok (.goto 4, 3) := by decide +kernel
theorem dX8_isCorner_28 : decode cX8_isCorner 28 = .ok (.iconst 0, 1) := by decide +kernel
theorem dX8_isCorner_29 : decode cX8_isCorner 29 = .ok (.ireturn, 1) := by decide +kernel
theorem dX8_cornersNow_0 : decode cX8_cornersNow 0 = .ok (.iconst 0, 1) := by decide +kernel
theorem dX8_cornersNow_1 : decode cX8_cornersNow 1 = .ok (.istore_n 2, 1) := by decide +kernel
theorem dX8_cornersNow_2 : decode cX8_cornersNow 2 = .ok (.iconst 1, 1) := by decide +kernel
theorem dX8_cornersNow_3 : decode cX8_cornersNow 3 = .ok (.istore_n 3, 1) := by decide +kernel
theorem dX8_cornersNow_4 : decode cX8_cornersNow 4 = .ok (.iload_n 3, 1) := by decide +kernel
theorem dX8_cornersNow_5 : decode cX8_cornersNow 5 = .ok (.iconst 2, 1) := by decide +kernel
theorem dX8_cornersNow_6 : decode cX8_cornersNow 6 = .ok (.if_icmp .gt 56, 3) := by decide +kernel
theorem dX8_cornersNow_9 : decode cX8_cornersNow 9 = .ok (.iconst 1, 1) := by decide +kernel
theorem dX8_cornersNow_10 : decode cX8_cornersNow 10 = .ok (.istore 4, 2) := by decide +kernel
theorem dX8_cornersNow_12 : decode cX8_cornersNow 12 = .ok (.iload 4, 2) := by decide +kernel
theorem dX8_cornersNow_14 : decode cX8_cornersNow 14 = .ok (.bipush 6, 2) := by decide +kernel
theorem dX8_cornersNow_16 : decode cX8_cornersNow 16 = .ok (.if_icmp .gt 40, 3) := by decide +kernel
theorem dX8_cornersNow_19 : decode cX8_cornersNow 19 = .ok (.iload_n 2, 1) := by decide +kernel
theorem dX8_cornersNow_20 : decode cX8_cornersNow 20 = .ok (.aload_n 0, 1) := by decide +kernel
theorem dX8_cornersNow_21 : decode cX8_cornersNow 21 = .ok (.iload_n 1, 1) := by decide +kernel
theorem dX8_cornersNow_22 : decode cX8_cornersNow 22 = .ok (.iload_n 3, 1) := by decide +kernel
theorem dX8_cornersNow_23 : decode cX8_cornersNow 23 = .ok (.iload 4, 2) := by decide +kernel
theorem dX8_cornersNow_25 : decode cX8_cornersNow 25 = .ok (.invokevirtual 161, 3) := by decide +kernel
theorem dX8_cornersNow_28 : decode cX8_cornersNow 28 = .ok (.ifCond .eq 19, 3) := by decide +kernel
theorem dX8_cornersNow_31 : decode cX8_cornersNow 31 = .ok (.iconst 1, 1) := by decide +kernel
theorem dX8_cornersNow_32 : decode cX8_cornersNow 32 = .ok (.bipush 6, 2) := by decide +kernel
theorem dX8_cornersNow_34 : decode cX8_cornersNow 34 = .ok (.iload_n 3, 1) := by decide +kernel
theorem dX8_cornersNow_35 : decode cX8_cornersNow 35 = .ok (.iconst 1, 1) := by decide +kernel
theorem dX8_cornersNow_36 : decode cX8_cornersNow 36 = .ok (.isub, 1) := by decide +kernel
theorem dX8_cornersNow_37 : decode cX8_cornersNow 37 = .ok (.imul, 1) := by decide +kernel
theorem dX8_cornersNow_38 : decode cX8_cornersNow 38 = .ok (.iload 4, 2) := by decide +kernel
theorem dX8_cornersNow_40 : decode cX8_cornersNow 40 = .ok (.iadd, 1) := by decide +kernel
theorem dX8_cornersNow_41 : decode cX8_cornersNow 41 = .ok (.iconst 1, 1) := by decide +kernel
theorem dX8_cornersNow_42 : decode cX8_cornersNow 42 = .ok (.isub, 1) := by decide +kernel
theorem dX8_cornersNow_43 : decode cX8_cornersNow 43 = .ok (.ishl, 1) := by decide +kernel
theorem dX8_cornersNow_44 : decode cX8_cornersNow 44 = .ok (.goto 4, 3) := by decide +kernel
theorem dX8_cornersNow_47 : decode cX8_cornersNow 47 = .ok (.iconst 0, 1) := by decide +kernel
theorem dX8_cornersNow_48 : decode cX8_cornersNow 48 = .ok (.ior, 1) := by decide +kernel
theorem dX8_cornersNow_49 : decode cX8_cornersNow 49 = .ok (.istore_n 2, 1) := by decide +kernel
theorem dX8_cornersNow_50 : decode cX8_cornersNow 50 = .ok (.iinc 4 1, 3) := by decide +kernel
theorem dX8_cornersNow_53 : decode cX8_cornersNow 53 = .ok (.goto (-41), 3) := by decide +kernel
theorem dX8_cornersNow_56 : decode cX8_cornersNow 56 = .ok (.iinc 3 1, 3) := by decide +kernel
theorem dX8_cornersNow_59 : decode cX8_cornersNow 59 = .ok (.goto (-55), 3) := by decide +kernel
theorem dX8_cornersNow_62 : decode cX8_cornersNow 62 = .ok (.iload_n 2, 1) := by decide +kernel
theorem dX8_cornersNow_63 : decode cX8_cornersNow 63 = .ok (.ireturn, 1) := by decide +kernel
theorem dX8_corners_0 : decode cX8_corners 0 = .ok (.aload_n 0, 1) := by decide +kernel
theorem dX8_corners_1 : decode cX8_corners 1 = .ok (.iload_n 1, 1) := by decide +kernel
theorem dX8_corners_2 : decode cX8_corners 2 = .ok (.invokevirtual 128, 3) := by decide +kernel
theorem dX8_corners_5 : decode cX8_corners 5 = .ok (.ifCond .eq 11, 3) := by decide +kernel
theorem dX8_corners_8 : decode cX8_corners 8 = .ok (.aload_n 0, 1) := by decide +kernel
theorem dX8_corners_9 : decode cX8_corners 9 = .ok (.iload_n 1, 1) := by decide +kernel
theorem dX8_corners_10 : decode cX8_corners 10 = .ok (.invokevirtual 165, 3) := by decide +kernel
theorem dX8_corners_13 : decode cX8_corners 13 = .ok (.goto 9, 3) := by decide +kernel
theorem dX8_corners_16 : decode cX8_corners 16 = .ok (.aload_n 0, 1) := by decide +kernel
theorem dX8_corners_17 : decode cX8_corners 17 = .ok (.bipush (-2), 2) := by decide +kernel
theorem dX8_corners_19 : decode cX8_corners 19 = .ok (.invokevirtual 91, 3) := by decide +kernel
theorem dX8_corners_22 : decode cX8_corners 22 = .ok (.ireturn, 1) := by decide +kernel
theorem dX8_laysCorners_0 : decode cX8_laysCorners 0 = .ok (.iconst 0, 1) := by decide +kernel
theorem dX8_laysCorners_1 : decode cX8_laysCorners 1 = .ok (.istore_n 1, 1) := by decide +kernel
theorem dX8_laysCorners_2 : decode cX8_laysCorners 2 = .ok (.iload_n 1, 1) := by decide +kernel
theorem dX8_laysCorners_3 : decode cX8_laysCorners 3 = .ok (.aload_n 0, 1) := by decide +kernel
theorem dX8_laysCorners_4 : decode cX8_laysCorners 4 = .ok (.invokevirtual 59, 3) := by decide +kernel
theorem dX8_laysCorners_7 : decode cX8_laysCorners 7 = .ok (.if_icmp .ge 20, 3) := by decide +kernel
theorem dX8_laysCorners_10 : decode cX8_laysCorners 10 = .ok (.aload_n 0, 1) := by decide +kernel
theorem dX8_laysCorners_11 : decode cX8_laysCorners 11 = .ok (.getfield 26, 3) := by decide +kernel
theorem dX8_laysCorners_14 : decode cX8_laysCorners 14 = .ok (.iload_n 1, 1) := by decide +kernel
theorem dX8_laysCorners_15 : decode cX8_laysCorners 15 = .ok (.aload_n 0, 1) := by decide +kernel
theorem dX8_laysCorners_16 : decode cX8_laysCorners 16 = .ok (.iload_n 1, 1) := by decide +kernel
theorem dX8_laysCorners_17 : decode cX8_laysCorners 17 = .ok (.invokevirtual 165, 3) := by decide +kernel
theorem dX8_laysCorners_20 : decode cX8_laysCorners 20 = .ok (.iastore, 1) := by decide +kernel
theorem dX8_laysCorners_21 : decode cX8_laysCorners 21 = .ok (.iinc 1 1, 3) := by decide +kernel
theorem dX8_laysCorners_24 : decode cX8_laysCorners 24 = .ok (.goto (-22), 3) := by decide +kernel
theorem dX8_laysCorners_27 : decode cX8_laysCorners 27 = .ok (.return_, 1) := by decide +kernel
theorem dX8_hasCorner_0 : decode cX8_hasCorner 0 = .ok (.iload_n 2, 1) := by decide +kernel
theorem dX8_hasCorner_1 : decode cX8_hasCorner 1 = .ok (.iload_n 3, 1) := by decide +kernel
theorem dX8_hasCorner_2 : decode cX8_hasCorner 2 = .ok (.invokestatic 155, 3) := by decide +kernel
theorem dX8_hasCorner_5 : decode cX8_hasCorner 5 = .ok (.ifCond .eq 30, 3) := by decide +kernel
theorem dX8_hasCorner_8 : decode cX8_hasCorner 8 = .ok (.aload_n 0, 1) := by decide +kernel
theorem dX8_hasCorner_9 : decode cX8_hasCorner 9 = .ok (.getfield 26, 3) := by decide +kernel
theorem dX8_hasCorner_12 : decode cX8_hasCorner 12 = .ok (.iload_n 1, 1) := by decide +kernel
theorem dX8_hasCorner_13 : decode cX8_hasCorner 13 = .ok (.iaload, 1) := by decide +kernel
theorem dX8_hasCorner_14 : decode cX8_hasCorner 14 = .ok (.bipush 6, 2) := by decide +kernel
theorem dX8_hasCorner_16 : decode cX8_hasCorner 16 = .ok (.iload_n 2, 1) := by decide +kernel
theorem dX8_hasCorner_17 : decode cX8_hasCorner 17 = .ok (.iconst 1, 1) := by decide +kernel
theorem dX8_hasCorner_18 : decode cX8_hasCorner 18 = .ok (.isub, 1) := by decide +kernel
theorem dX8_hasCorner_19 : decode cX8_hasCorner 19 = .ok (.imul, 1) := by decide +kernel
theorem dX8_hasCorner_20 : decode cX8_hasCorner 20 = .ok (.iload_n 3, 1) := by decide +kernel
theorem dX8_hasCorner_21 : decode cX8_hasCorner 21 = .ok (.iadd, 1) := by decide +kernel
theorem dX8_hasCorner_22 : decode cX8_hasCorner 22 = .ok (.iconst 1, 1) := by decide +kernel
theorem dX8_hasCorner_23 : decode cX8_hasCorner 23 = .ok (.isub, 1) := by decide +kernel
theorem dX8_hasCorner_24 : decode cX8_hasCorner 24 = .ok (.ishr, 1) := by decide +kernel
theorem dX8_hasCorner_25 : decode cX8_hasCorner 25 = .ok (.iconst 1, 1) := by decide +kernel
theorem dX8_hasCorner_26 : decode cX8_hasCorner 26 = .ok (.iand, 1) := by decide +kernel
theorem dX8_hasCorner_27 : decode cX8_hasCorner 27 = .ok (.iconst 1, 1) := by decide +kernel
theorem dX8_hasCorner_28 : decode cX8_hasCorner 28 = .ok (.if_icmp .ne 7, 3) := by decide +kernel
theorem dX8_hasCorner_31 : decode cX8_hasCorner 31 = .ok (.iconst 1, 1) := by decide +kernel
theorem dX8_hasCorner_32 : decode cX8_hasCorner 32 = .ok (.goto 4, 3) := by decide +kernel
theorem dX8_hasCorner_35 : decode cX8_hasCorner 35 = .ok (.iconst 0, 1) := by decide +kernel
theorem dX8_hasCorner_36 : decode cX8_hasCorner 36 = .ok (.ireturn, 1) := by decide +kernel
theorem dX8_votesNow_0 : decode cX8_votesNow 0 = .ok (.iconst 0, 1) := by decide +kernel
theorem dX8_votesNow_1 : decode cX8_votesNow 1 = .ok (.istore 5, 2) := by decide +kernel
theorem dX8_votesNow_3 : decode cX8_votesNow 3 = .ok (.iconst 1, 1) := by decide +kernel
theorem dX8_votesNow_4 : decode cX8_votesNow 4 = .ok (.istore 6, 2) := by decide +kernel
theorem dX8_votesNow_6 : decode cX8_votesNow 6 = .ok (.iload 6, 2) := by decide +kernel
theorem dX8_votesNow_8 : decode cX8_votesNow 8 = .ok (.iconst 2, 1) := by decide +kernel
theorem dX8_votesNow_9 : decode cX8_votesNow 9 = .ok (.if_icmp .gt 112, 3) := by decide +kernel
theorem dX8_votesNow_12 : decode cX8_votesNow 12 = .ok (.iconst 1, 1) := by decide +kernel
theorem dX8_votesNow_13 : decode cX8_votesNow 13 = .ok (.istore 7, 2) := by decide +kernel
theorem dX8_votesNow_15 : decode cX8_votesNow 15 = .ok (.iload 7, 2) := by decide +kernel
theorem dX8_votesNow_17 : decode cX8_votesNow 17 = .ok (.bipush 6, 2) := by decide +kernel
theorem dX8_votesNow_19 : decode cX8_votesNow 19 = .ok (.if_icmp .gt 96, 3) := by decide +kernel
theorem dX8_votesNow_22 : decode cX8_votesNow 22 = .ok (.aload_n 0, 1) := by decide +kernel
theorem dX8_votesNow_23 : decode cX8_votesNow 23 = .ok (.iload_n 1, 1) := by decide +kernel
theorem dX8_votesNow_24 : decode cX8_votesNow 24 = .ok (.iload 6, 2) := by decide +kernel
theorem dX8_votesNow_26 : decode cX8_votesNow 26 = .ok (.iload 7, 2) := by decide +kernel
theorem dX8_votesNow_28 : decode cX8_votesNow 28 = .ok (.invokevirtual 168, 3) := by decide +kernel
theorem dX8_votesNow_31 : decode cX8_votesNow 31 = .ok (.ifCond .eq 24, 3) := by decide +kernel
theorem dX8_votesNow_34 : decode cX8_votesNow 34 = .ok (.aload_n 0, 1) := by decide +kernel
theorem dX8_votesNow_35 : decode cX8_votesNow 35 = .ok (.iload_n 2, 1) := by decide +kernel
theorem dX8_votesNow_36 : decode cX8_votesNow 36 = .ok (.iload 6, 2) := by decide +kernel
theorem dX8_votesNow_38 : decode cX8_votesNow 38 = .ok (.iload_n 3, 1) := by decide +kernel
theorem dX8_votesNow_39 : decode cX8_votesNow 39 = .ok (.isub, 1) := by decide +kernel
theorem dX8_votesNow_40 : decode cX8_votesNow 40 = .ok (.iload 7, 2) := by decide +kernel
theorem dX8_votesNow_42 : decode cX8_votesNow 42 = .ok (.iload 4, 2) := by decide +kernel
theorem dX8_votesNow_44 : decode cX8_votesNow 44 = .ok (.isub, 1) := by decide +kernel
theorem dX8_votesNow_45 : decode cX8_votesNow 45 = .ok (.invokevirtual 168, 3) := by decide +kernel
theorem dX8_votesNow_48 : decode cX8_votesNow 48 = .ok (.ifCond .eq 7, 3) := by decide +kernel
theorem dX8_votesNow_51 : decode cX8_votesNow 51 = .ok (.iconst 1, 1) := by decide +kernel
theorem dX8_votesNow_52 : decode cX8_votesNow 52 = .ok (.goto 4, 3) := by decide +kernel
theorem dX8_votesNow_55 : decode cX8_votesNow 55 = .ok (.iconst 0, 1) := by decide +kernel
theorem dX8_votesNow_56 : decode cX8_votesNow 56 = .ok (.istore 8, 2) := by decide +kernel
theorem dX8_votesNow_58 : decode cX8_votesNow 58 = .ok (.iload 5, 2) := by decide +kernel
theorem dX8_votesNow_60 : decode cX8_votesNow 60 = .ok (.iload 8, 2) := by decide +kernel
theorem dX8_votesNow_62 : decode cX8_votesNow 62 = .ok (.ifCond .eq 43, 3) := by decide +kernel
theorem dX8_votesNow_65 : decode cX8_votesNow 65 = .ok (.aload_n 0, 1) := by decide +kernel
theorem dX8_votesNow_66 : decode cX8_votesNow 66 = .ok (.iload_n 1, 1) := by decide +kernel
theorem dX8_votesNow_67 : decode cX8_votesNow 67 = .ok (.iload 6, 2) := by decide +kernel
theorem dX8_votesNow_69 : decode cX8_votesNow 69 = .ok (.iload 7, 2) := by decide +kernel
theorem dX8_votesNow_71 : decode cX8_votesNow 71 = .ok (.invokevirtual 143, 3) := by decide +kernel
theorem dX8_votesNow_74 : decode cX8_votesNow 74 = .ok (.aload_n 0, 1) := by decide +kernel
theorem dX8_votesNow_75 : decode cX8_votesNow 75 = .ok (.iload_n 2, 1) := by decide +kernel
theorem dX8_votesNow_76 : decode cX8_votesNow 76 = .ok (.iload 6, 2) := by decide +kernel
theorem dX8_votesNow_78 : decode cX8_votesNow 78 = .ok (.iload_n 3, 1) := by decide +kernel
theorem dX8_votesNow_79 : decode cX8_votesNow 79 = .ok (.isub, 1) := by decide +kernel
theorem dX8_votesNow_80 : decode cX8_votesNow 80 = .ok (.iload 7, 2) := by decide +kernel
theorem dX8_votesNow_82 : decode cX8_votesNow 82 = .ok (.iload 4, 2) := by decide +kernel
theorem dX8_votesNow_84 : decode cX8_votesNow 84 = .ok (.isub, 1) := by decide +kernel
theorem dX8_votesNow_85 : decode cX8_votesNow 85 = .ok (.invokevirtual 143, 3) := by decide +kernel
theorem dX8_votesNow_88 : decode cX8_votesNow 88 = .ok (.isub, 1) := by decide +kernel
theorem dX8_votesNow_89 : decode cX8_votesNow 89 = .ok (.invokestatic 146, 3) := by decide +kernel
theorem dX8_votesNow_92 : decode cX8_votesNow 92 = .ok (.aload_n 0, 1) := by decide +kernel
theorem dX8_votesNow_93 : decode cX8_votesNow 93 = .ok (.getfield 7, 3) := by decide +kernel
theorem dX8_votesNow_96 : decode cX8_votesNow 96 = .ok (.iconst 2, 1) := by decide +kernel
theorem dX8_votesNow_97 : decode cX8_votesNow 97 = .ok (.iaload, 1) := by decide +kernel
theorem dX8_votesNow_98 : decode cX8_votesNow 98 = .ok (.if_icmp .gt 7, 3) := by decide +kernel
theorem dX8_votesNow_101 : decode cX8_votesNow 101 = .ok (.iconst 1, 1) := by decide +kernel
theorem dX8_votesNow_102 : decode cX8_votesNow 102 = .ok (.goto 4, 3) := by decide +kernel
theorem dX8_votesNow_105 : decode cX8_votesNow 105 = .ok (.iconst 0, 1) := by decide +kernel
theorem dX8_votesNow_106 : decode cX8_votesNow 106 = .ok (.iadd, 1) := by decide +kernel
theorem dX8_votesNow_107 : decode cX8_votesNow 107 = .ok (.istore 5, 2) := by decide +kernel
theorem dX8_votesNow_109 : decode cX8_votesNow 109 = .ok (.iinc 7 1, 3) := by decide +kernel
theorem dX8_votesNow_112 : decode cX8_votesNow 112 = .ok (.goto (-97), 3) := by decide +kernel
theorem dX8_votesNow_115 : decode cX8_votesNow 115 = .ok (.iinc 6 1, 3) := by decide +kernel
theorem dX8_votesNow_118 : decode cX8_votesNow 118 = .ok (.goto (-112), 3) := by decide +kernel
theorem dX8_votesNow_121 : decode cX8_votesNow 121 = .ok (.iload 5, 2) := by decide +kernel
theorem dX8_votesNow_123 : decode cX8_votesNow 123 = .ok (.ireturn, 1) := by decide +kernel
theorem dX8_areTwo_0 : decode cX8_areTwo 0 = .ok (.aload_n 0, 1) := by decide +kernel
theorem dX8_areTwo_1 : decode cX8_areTwo 1 = .ok (.iload_n 1, 1) := by decide +kernel
theorem dX8_areTwo_2 : decode cX8_areTwo 2 = .ok (.invokevirtual 128, 3) := by decide +kernel
theorem dX8_areTwo_5 : decode cX8_areTwo 5 = .ok (.ifCond .eq 20, 3) := by decide +kernel
theorem dX8_areTwo_8 : decode cX8_areTwo 8 = .ok (.aload_n 0, 1) := by decide +kernel
theorem dX8_areTwo_9 : decode cX8_areTwo 9 = .ok (.iload_n 2, 1) := by decide +kernel
theorem dX8_areTwo_10 : decode cX8_areTwo 10 = .ok (.invokevirtual 128, 3) := by decide +kernel
theorem dX8_areTwo_13 : decode cX8_areTwo 13 = .ok (.ifCond .eq 12, 3) := by decide +kernel
theorem dX8_areTwo_16 : decode cX8_areTwo 16 = .ok (.iload_n 1, 1) := by decide +kernel
theorem dX8_areTwo_17 : decode cX8_areTwo 17 = .ok (.iload_n 2, 1) := by decide +kernel
theorem dX8_areTwo_18 : decode cX8_areTwo 18 = .ok (.if_icmp .eq 7, 3) := by decide +kernel
theorem dX8_areTwo_21 : decode cX8_areTwo 21 = .ok (.iconst 1, 1) := by decide +kernel
theorem dX8_areTwo_22 : decode cX8_areTwo 22 = .ok (.goto 4, 3) := by decide +kernel
theorem dX8_areTwo_25 : decode cX8_areTwo 25 = .ok (.iconst 0, 1) := by decide +kernel
theorem dX8_areTwo_26 : decode cX8_areTwo 26 = .ok (.ireturn, 1) := by decide +kernel
theorem dX8_votes_0 : decode cX8_votes 0 = .ok (.aload_n 0, 1) := by decide +kernel
theorem dX8_votes_1 : decode cX8_votes 1 = .ok (.iload_n 1, 1) := by decide +kernel
theorem dX8_votes_2 : decode cX8_votes 2 = .ok (.iload_n 2, 1) := by decide +kernel
theorem dX8_votes_3 : decode cX8_votes 3 = .ok (.invokevirtual 171, 3) := by decide +kernel
theorem dX8_votes_6 : decode cX8_votes 6 = .ok (.ifCond .eq 28, 3) := by decide +kernel
theorem dX8_votes_9 : decode cX8_votes 9 = .ok (.iload_n 3, 1) := by decide +kernel
theorem dX8_votes_10 : decode cX8_votes 10 = .ok (.i2l, 1) := by decide +kernel
theorem dX8_votes_11 : decode cX8_votes 11 = .ok (.ldc2_w 174, 3) := by decide +kernel
theorem dX8_votes_14 : decode cX8_votes 14 = .ok (.lconst 1, 1) := by decide +kernel
theorem dX8_votes_15 : decode cX8_votes 15 = .ok (.invokestatic 63, 3) := by decide +kernel
theorem dX8_votes_18 : decode cX8_votes 18 = .ok (.ifCond .eq 16, 3) := by decide +kernel
theorem dX8_votes_21 : decode cX8_votes 21 = .ok (.iload 4, 2) := by decide +kernel
theorem dX8_votes_23 : decode cX8_votes 23 = .ok (.i2l, 1) := by decide +kernel
theorem dX8_votes_24 : decode cX8_votes 24 = .ok (.lconst 1, 1) := by decide +kernel
theorem dX8_votes_25 : decode cX8_votes 25 = .ok (.ldc2_w 102, 3) := by decide +kernel
theorem dX8_votes_28 : decode cX8_votes 28 = .ok (.invokestatic 63, 3) := by decide +kernel
theorem dX8_votes_31 : decode cX8_votes 31 = .ok (.ifCond .ne 10, 3) := by decide +kernel
theorem dX8_votes_34 : decode cX8_votes 34 = .ok (.aload_n 0, 1) := by decide +kernel
theorem dX8_votes_35 : decode cX8_votes 35 = .ok (.bipush (-2), 2) := by decide +kernel
theorem dX8_votes_37 : decode cX8_votes 37 = .ok (.invokevirtual 91, 3) := by decide +kernel
theorem dX8_votes_40 : decode cX8_votes 40 = .ok (.ireturn, 1) := by decide +kernel
theorem dX8_votes_41 : decode cX8_votes 41 = .ok (.aload_n 0, 1) := by decide +kernel
theorem dX8_votes_42 : decode cX8_votes 42 = .ok (.invokevirtual 176, 3) := by decide +kernel
theorem dX8_votes_45 : decode cX8_votes 45 = .ok (.aload_n 0, 1) := by decide +kernel
theorem dX8_votes_46 : decode cX8_votes 46 = .ok (.iload_n 1, 1) := by decide +kernel
theorem dX8_votes_47 : decode cX8_votes 47 = .ok (.iload_n 2, 1) := by decide +kernel
theorem dX8_votes_48 : decode cX8_votes 48 = .ok (.iload_n 3, 1) := by decide +kernel
theorem dX8_votes_49 : decode cX8_votes 49 = .ok (.iload 4, 2) := by decide +kernel
theorem dX8_votes_51 : decode cX8_votes 51 = .ok (.invokevirtual 179, 3) := by decide +kernel
theorem dX8_votes_54 : decode cX8_votes 54 = .ok (.ireturn, 1) := by decide +kernel
theorem dX8_laysLink_0 : decode cX8_laysLink 0 = .ok (.bipush 6, 2) := by decide +kernel
theorem dX8_laysLink_2 : decode cX8_laysLink 2 = .ok (.iload_n 1, 1) := by decide +kernel
theorem dX8_laysLink_3 : decode cX8_laysLink 3 = .ok (.imul, 1) := by decide +kernel
theorem dX8_laysLink_4 : decode cX8_laysLink 4 = .ok (.iload_n 2, 1) := by decide +kernel
theorem dX8_laysLink_5 : decode cX8_laysLink 5 = .ok (.iadd, 1) := by decide +kernel
theorem dX8_laysLink_6 : decode cX8_laysLink 6 = .ok (.istore_n 3, 1) := by decide +kernel
theorem dX8_laysLink_7 : decode cX8_laysLink 7 = .ok (.aload_n 0, 1) := by decide +kernel
theorem dX8_laysLink_8 : decode cX8_laysLink 8 = .ok (.getfield 29, 3) := by decide +kernel
theorem dX8_laysLink_11 : decode cX8_laysLink 11 = .ok (.iload_n 3, 1) := by decide +kernel
theorem dX8_laysLink_12 : decode cX8_laysLink 12 = .ok (.iconst 0, 1) := by decide +kernel
theorem dX8_laysLink_13 : decode cX8_laysLink 13 = .ok (.iastore, 1) := by decide +kernel
theorem dX8_laysLink_14 : decode cX8_laysLink 14 = .ok (.aload_n 0, 1) := by decide +kernel
theorem dX8_laysLink_15 : decode cX8_laysLink 15 = .ok (.getfield 32, 3) := by decide +kernel
theorem dX8_laysLink_18 : decode cX8_laysLink 18 = .ok (.iload_n 3, 1) := by decide +kernel
theorem dX8_laysLink_19 : decode cX8_laysLink 19 = .ok (.iconst 0, 1) := by decide +kernel
theorem dX8_laysLink_20 : decode cX8_laysLink 20 = .ok (.iastore, 1) := by decide +kernel
theorem dX8_laysLink_21 : decode cX8_laysLink 21 = .ok (.aload_n 0, 1) := by decide +kernel
theorem dX8_laysLink_22 : decode cX8_laysLink 22 = .ok (.getfield 35, 3) := by decide +kernel
theorem dX8_laysLink_25 : decode cX8_laysLink 25 = .ok (.iload_n 3, 1) := by decide +kernel
theorem dX8_laysLink_26 : decode cX8_laysLink 26 = .ok (.iconst 0, 1) := by decide +kernel
theorem dX8_laysLink_27 : decode cX8_laysLink 27 = .ok (.iastore, 1) := by decide +kernel
theorem dX8_laysLink_28 : decode cX8_laysLink 28 = .ok (.iconst 0, 1) := by decide +kernel
theorem dX8_laysLink_29 : decode cX8_laysLink 29 = .ok (.istore 4, 2) := by decide +kernel
theorem dX8_laysLink_31 : decode cX8_laysLink 31 = .ok (.iload 4, 2) := by decide +kernel
theorem dX8_laysLink_33 : decode cX8_laysLink 33 = .ok (.iconst 1, 1) := by decide +kernel
theorem dX8_laysLink_34 : decode cX8_laysLink 34 = .ok (.if_icmp .gt 103, 3) := by decide +kernel
theorem dX8_laysLink_37 : decode cX8_laysLink 37 = .ok (.iconst 1, 1) := by decide +kernel
theorem dX8_laysLink_38 : decode cX8_laysLink 38 = .ok (.istore 5, 2) := by decide +kernel
theorem dX8_laysLink_40 : decode cX8_laysLink 40 = .ok (.iload 5, 2) := by decide +kernel
theorem dX8_laysLink_42 : decode cX8_laysLink 42 = .ok (.iconst 5, 1) := by decide +kernel
theorem dX8_laysLink_43 : decode cX8_laysLink 43 = .ok (.if_icmp .gt 88, 3) := by decide +kernel
theorem dX8_laysLink_46 : decode cX8_laysLink 46 = .ok (.iload 4, 2) := by decide +kernel
theorem dX8_laysLink_48 : decode cX8_laysLink 48 = .ok (.ineg, 1) := by decide +kernel
theorem dX8_laysLink_49 : decode cX8_laysLink 49 = .ok (.istore 6, 2) := by decide +kernel
theorem dX8_laysLink_51 : decode cX8_laysLink 51 = .ok (.iload 6, 2) := by decide +kernel
theorem dX8_laysLink_53 : decode cX8_laysLink 53 = .ok (.iload 4, 2) := by decide +kernel
theorem dX8_laysLink_55 : decode cX8_laysLink 55 = .ok (.if_icmp .gt 70, 3) := by decide +kernel
theorem dX8_laysLink_58 : decode cX8_laysLink 58 = .ok (.iload 6, 2) := by decide +kernel
theorem dX8_laysLink_60 : decode cX8_laysLink 60 = .ok (.invokestatic 146, 3) := by decide +kernel
theorem dX8_laysLink_63 : decode cX8_laysLink 63 = .ok (.iload 4, 2) := by decide +kernel
theorem dX8_laysLink_65 : decode cX8_laysLink 65 = .ok (.if_icmp .ne 16, 3) := by decide +kernel
theorem dX8_laysLink_68 : decode cX8_laysLink 68 = .ok (.aload_n 0, 1) := by decide +kernel
theorem dX8_laysLink_69 : decode cX8_laysLink 69 = .ok (.iload_n 1, 1) := by decide +kernel
theorem dX8_laysLink_70 : decode cX8_laysLink 70 = .ok (.iload_n 2, 1) := by decide +kernel
theorem dX8_laysLink_71 : decode cX8_laysLink 71 = .ok (.iload 6, 2) := by decide +kernel
theorem dX8_laysLink_73 : decode cX8_laysLink 73 = .ok (.iload 5, 2) := by decide +kernel
theorem dX8_laysLink_75 : decode cX8_laysLink 75 = .ok (.invokevirtual 179, 3) := by decide +kernel
theorem dX8_laysLink_78 : decode cX8_laysLink 78 = .ok (.goto 4, 3) := by decide +kernel
theorem dX8_laysLink_81 : decode cX8_laysLink 81 = .ok (.iconst 0, 1) := by decide +kernel
theorem dX8_laysLink_82 : decode cX8_laysLink 82 = .ok (.istore 7, 2) := by decide +kernel
theorem dX8_laysLink_84 : decode cX8_laysLink 84 = .ok (.iload 7, 2) := by decide +kernel
theorem dX8_laysLink_86 : decode cX8_laysLink 86 = .ok (.aload_n 0, 1) := by decide +kernel
theorem dX8_laysLink_87 : decode cX8_laysLink 87 = .ok (.getfield 29, 3) := by decide +kernel
theorem dX8_laysLink_90 : decode cX8_laysLink 90 = .ok (.iload_n 3, 1) := by decide +kernel
theorem dX8_laysLink_91 : decode cX8_laysLink 91 = .ok (.iaload, 1) := by decide +kernel
theorem dX8_laysLink_92 : decode cX8_laysLink 92 = .ok (.if_icmp .le 27, 3) := by decide +kernel
theorem dX8_laysLink_95 : decode cX8_laysLink 95 = .ok (.aload_n 0, 1) := by decide +kernel
theorem dX8_laysLink_96 : decode cX8_laysLink 96 = .ok (.getfield 29, 3) := by decide +kernel
theorem dX8_laysLink_99 : decode cX8_laysLink 99 = .ok (.iload_n 3, 1) := by decide +kernel
theorem dX8_laysLink_100 : decode cX8_laysLink 100 = .ok (.iload 7, 2) := by decide +kernel
theorem dX8_laysLink_102 : decode cX8_laysLink 102 = .ok (.iastore, 1) := by decide +kernel
theorem dX8_laysLink_103 : decode cX8_laysLink 103 = .ok (.aload_n 0, 1) := by decide +kernel
theorem dX8_laysLink_104 : decode cX8_laysLink 104 = .ok (.getfield 32, 3) := by decide +kernel
theorem dX8_laysLink_107 : decode cX8_laysLink 107 = .ok (.iload_n 3, 1) := by decide +kernel
theorem dX8_laysLink_108 : decode cX8_laysLink 108 = .ok (.iload 6, 2) := by decide +kernel
theorem dX8_laysLink_110 : decode cX8_laysLink 110 = .ok (.iastore, 1) := by decide +kernel
theorem dX8_laysLink_111 : decode cX8_laysLink 111 = .ok (.aload_n 0, 1) := by decide +kernel
theorem dX8_laysLink_112 : decode cX8_laysLink 112 = .ok (.getfield 35, 3) := by decide +kernel
theorem dX8_laysLink_115 : decode cX8_laysLink 115 = .ok (.iload_n 3, 1) := by decide +kernel
theorem dX8_laysLink_116 : decode cX8_laysLink 116 = .ok (.iload 5, 2) := by decide +kernel
theorem dX8_laysLink_118 : decode cX8_laysLink 118 = .ok (.iastore, 1) := by decide +kernel
theorem dX8_laysLink_119 : decode cX8_laysLink 119 = .ok (.iinc 6 1, 3) := by decide +kernel
theorem dX8_laysLink_122 : decode cX8_laysLink 122 = .ok (.goto (-71), 3) := by decide +kernel
theorem dX8_laysLink_125 : decode cX8_laysLink 125 = .ok (.iinc 5 1, 3) := by decide +kernel
theorem dX8_laysLink_128 : decode cX8_laysLink 128 = .ok (.goto (-88), 3) := by decide +kernel
theorem dX8_laysLink_131 : decode cX8_laysLink 131 = .ok (.iinc 4 1, 3) := by decide +kernel
theorem dX8_laysLink_134 : decode cX8_laysLink 134 = .ok (.goto (-103), 3) := by decide +kernel
theorem dX8_laysLink_137 : decode cX8_laysLink 137 = .ok (.return_, 1) := by decide +kernel
theorem dX8_laysLinks_0 : decode cX8_laysLinks 0 = .ok (.aload_n 0, 1) := by decide +kernel
theorem dX8_laysLinks_1 : decode cX8_laysLinks 1 = .ok (.invokevirtual 176, 3) := by decide +kernel
theorem dX8_laysLinks_4 : decode cX8_laysLinks 4 = .ok (.iconst 0, 1) := by decide +kernel
theorem dX8_laysLinks_5 : decode cX8_laysLinks 5 = .ok (.istore_n 1, 1) := by decide +kernel
theorem dX8_laysLinks_6 : decode cX8_laysLinks 6 = .ok (.iload_n 1, 1) := by decide +kernel
theorem dX8_laysLinks_7 : decode cX8_laysLinks 7 = .ok (.aload_n 0, 1) := by decide +kernel
theorem dX8_laysLinks_8 : decode cX8_laysLinks 8 = .ok (.invokevirtual 59, 3) := by decide +kernel
theorem dX8_laysLinks_11 : decode cX8_laysLinks 11 = .ok (.if_icmp .ge 36, 3) := by decide +kernel
theorem dX8_laysLinks_14 : decode cX8_laysLinks 14 = .ok (.iconst 0, 1) := by decide +kernel
theorem dX8_laysLinks_15 : decode cX8_laysLinks 15 = .ok (.istore_n 2, 1) := by decide +kernel
theorem dX8_laysLinks_16 : decode cX8_laysLinks 16 = .ok (.iload_n 2, 1) := by decide +kernel
theorem dX8_laysLinks_17 : decode cX8_laysLinks 17 = .ok (.aload_n 0, 1) := by decide +kernel
theorem dX8_laysLinks_18 : decode cX8_laysLinks 18 = .ok (.invokevirtual 59, 3) := by decide +kernel
theorem dX8_laysLinks_21 : decode cX8_laysLinks 21 = .ok (.if_icmp .ge 20, 3) := by decide +kernel
theorem dX8_laysLinks_24 : decode cX8_laysLinks 24 = .ok (.iload_n 1, 1) := by decide +kernel
theorem dX8_laysLinks_25 : decode cX8_laysLinks 25 = .ok (.iload_n 2, 1) := by decide +kernel
theorem dX8_laysLinks_26 : decode cX8_laysLinks 26 = .ok (.if_icmp .eq 9, 3) := by decide +kernel
theorem dX8_laysLinks_29 : decode cX8_laysLinks 29 = .ok (.aload_n 0, 1) := by decide +kernel
theorem dX8_laysLinks_30 : decode cX8_laysLinks 30 = .ok (.iload_n 1, 1) := by decide +kernel
theorem dX8_laysLinks_31 : decode cX8_laysLinks 31 = .ok (.iload_n 2, 1) := by decide +kernel
theorem dX8_laysLinks_32 : decode cX8_laysLinks 32 = .ok (.invokevirtual 183, 3) := by decide +kernel
theorem dX8_laysLinks_35 : decode cX8_laysLinks 35 = .ok (.iinc 2 1, 3) := by decide +kernel
theorem dX8_laysLinks_38 : decode cX8_laysLinks 38 = .ok (.goto (-22), 3) := by decide +kernel
theorem dX8_laysLinks_41 : decode cX8_laysLinks 41 = .ok (.iinc 1 1, 3) := by decide +kernel
theorem dX8_laysLinks_44 : decode cX8_laysLinks 44 = .ok (.goto (-38), 3) := by decide +kernel
theorem dX8_laysLinks_47 : decode cX8_laysLinks 47 = .ok (.return_, 1) := by decide +kernel
theorem dX8_link_0 : decode cX8_link 0 = .ok (.aload_n 0, 1) := by decide +kernel
theorem dX8_link_1 : decode cX8_link 1 = .ok (.iload_n 1, 1) := by decide +kernel
theorem dX8_link_2 : decode cX8_link 2 = .ok (.iload_n 2, 1) := by decide +kernel
theorem dX8_link_3 : decode cX8_link 3 = .ok (.invokevirtual 171, 3) := by decide +kernel
theorem dX8_link_6 : decode cX8_link 6 = .ok (.ifCond .eq 15, 3) := by decide +kernel
theorem dX8_link_9 : decode cX8_link 9 = .ok (.iload_n 3, 1) := by decide +kernel
theorem dX8_link_10 : decode cX8_link 10 = .ok (.i2l, 1) := by decide +kernel
theorem dX8_link_11 : decode cX8_link 11 = .ok (.lconst 0, 1) := by decide +kernel
theorem dX8_link_12 : decode cX8_link 12 = .ok (.ldc2_w 112, 3) := by decide +kernel
theorem dX8_link_15 : decode cX8_link 15 = .ok (.invokestatic 63, 3) := by decide +kernel
theorem dX8_link_18 : decode cX8_link 18 = .ok (.ifCond .ne 10, 3) := by decide +kernel
theorem dX8_link_21 : decode cX8_link 21 = .ok (.aload_n 0, 1) := by decide +kernel
theorem dX8_link_22 : decode cX8_link 22 = .ok (.bipush (-2), 2) := by decide +kernel
theorem dX8_link_24 : decode cX8_link 24 = .ok (.invokevirtual 91, 3) := by decide +kernel
theorem dX8_link_27 : decode cX8_link 27 = .ok (.ireturn, 1) := by decide +kernel
theorem dX8_link_28 : decode cX8_link 28 = .ok (.aload_n 0, 1) := by decide +kernel
theorem dX8_link_29 : decode cX8_link 29 = .ok (.invokevirtual 176, 3) := by decide +kernel
theorem dX8_link_32 : decode cX8_link 32 = .ok (.aload_n 0, 1) := by decide +kernel
theorem dX8_link_33 : decode cX8_link 33 = .ok (.iload_n 1, 1) := by decide +kernel
theorem dX8_link_34 : decode cX8_link 34 = .ok (.iload_n 2, 1) := by decide +kernel
theorem dX8_link_35 : decode cX8_link 35 = .ok (.invokevirtual 183, 3) := by decide +kernel
theorem dX8_link_38 : decode cX8_link 38 = .ok (.bipush 6, 2) := by decide +kernel
theorem dX8_link_40 : decode cX8_link 40 = .ok (.iload_n 1, 1) := by decide +kernel
theorem dX8_link_41 : decode cX8_link 41 = .ok (.imul, 1) := by decide +kernel
theorem dX8_link_42 : decode cX8_link 42 = .ok (.iload_n 2, 1) := by decide +kernel
theorem dX8_link_43 : decode cX8_link 43 = .ok (.iadd, 1) := by decide +kernel
theorem dX8_link_44 : decode cX8_link 44 = .ok (.istore 4, 2) := by decide +kernel
theorem dX8_link_46 : decode cX8_link 46 = .ok (.iload_n 3, 1) := by decide +kernel
theorem dX8_link_47 : decode cX8_link 47 = .ok (.ifCond .ne 13, 3) := by decide +kernel
theorem dX8_link_50 : decode cX8_link 50 = .ok (.aload_n 0, 1) := by decide +kernel
theorem dX8_link_51 : decode cX8_link 51 = .ok (.getfield 29, 3) := by decide +kernel
theorem dX8_link_54 : decode cX8_link 54 = .ok (.iload 4, 2) := by decide +kernel
theorem dX8_link_56 : decode cX8_link 56 = .ok (.iaload, 1) := by decide +kernel
theorem dX8_link_57 : decode cX8_link 57 = .ok (.goto 41, 3) := by decide +kernel
theorem dX8_link_60 : decode cX8_link 60 = .ok (.aload_n 0, 1) := by decide +kernel
theorem dX8_link_61 : decode cX8_link 61 = .ok (.getfield 29, 3) := by decide +kernel
theorem dX8_link_64 : decode cX8_link 64 = .ok (.iload 4, 2) := by decide +kernel
theorem dX8_link_66 : decode cX8_link 66 = .ok (.iaload, 1) := by decide +kernel
theorem dX8_link_67 : decode cX8_link 67 = .ok (.ifCond .ne 7, 3) := by decide +kernel
theorem dX8_link_70 : decode cX8_link 70 = .ok (.iconst (-1), 1) := by decide +kernel
theorem dX8_link_71 : decode cX8_link 71 = .ok (.goto 27, 3) := by decide +kernel
theorem dX8_link_74 : decode cX8_link 74 = .ok (.iload_n 3, 1) := by decide +kernel
theorem dX8_link_75 : decode cX8_link 75 = .ok (.iconst 1, 1) := by decide +kernel
theorem dX8_link_76 : decode cX8_link 76 = .ok (.if_icmp .ne 15, 3) := by decide +kernel
theorem dX8_link_79 : decode cX8_link 79 = .ok (.aload_n 0, 1) := by decide +kernel
theorem dX8_link_80 : decode cX8_link 80 = .ok (.getfield 32, 3) := by decide +kernel
theorem dX8_link_83 : decode cX8_link 83 = .ok (.iload 4, 2) := by decide +kernel
theorem dX8_link_85 : decode cX8_link 85 = .ok (.iaload, 1) := by decide +kernel
theorem dX8_link_86 : decode cX8_link 86 = .ok (.iconst 1, 1) := by decide +kernel
theorem dX8_link_87 : decode cX8_link 87 = .ok (.iadd, 1) := by decide +kernel
theorem dX8_link_88 : decode cX8_link 88 = .ok (.goto 10, 3) := by decide +kernel
theorem dX8_link_91 : decode cX8_link 91 = .ok (.aload_n 0, 1) := by decide +kernel
theorem dX8_link_92 : decode cX8_link 92 = .ok (.getfield 35, 3) := by decide +kernel
theorem dX8_link_95 : decode cX8_link 95 = .ok (.iload 4, 2) := by decide +kernel
theorem dX8_link_97 : decode cX8_link 97 = .ok (.iaload, 1) := by decide +kernel
theorem dX8_link_98 : decode cX8_link 98 = .ok (.ireturn, 1) := by decide +kernel
theorem dX8_wayFrom_0 : decode cX8_wayFrom 0 = .ok (.iconst 1, 1) := by decide +kernel
theorem dX8_wayFrom_1 : decode cX8_wayFrom 1 = .ok (.istore_n 3, 1) := by decide +kernel
theorem dX8_wayFrom_2 : decode cX8_wayFrom 2 = .ok (.iload_n 1, 1) := by decide +kernel
theorem dX8_wayFrom_3 : decode cX8_wayFrom 3 = .ok (.istore 4, 2) := by decide +kernel
theorem dX8_wayFrom_5 : decode cX8_wayFrom 5 = .ok (.iload 4, 2) := by decide +kernel
theorem dX8_wayFrom_7 : decode cX8_wayFrom 7 = .ok (.iload_n 2, 1) := by decide +kernel
theorem dX8_wayFrom_8 : decode cX8_wayFrom 8 = .ok (.if_icmp .eq 29, 3) := by decide +kernel
theorem dX8_wayFrom_11 : decode cX8_wayFrom 11 = .ok (.aload_n 0, 1) := by decide +kernel
theorem dX8_wayFrom_12 : decode cX8_wayFrom 12 = .ok (.getfield 38, 3) := by decide +kernel
theorem dX8_wayFrom_15 : decode cX8_wayFrom 15 = .ok (.iload 4, 2) := by decide +kernel
theorem dX8_wayFrom_17 : decode cX8_wayFrom 17 = .ok (.iaload, 1) := by decide +kernel
theorem dX8_wayFrom_18 : decode cX8_wayFrom 18 = .ok (.iconst (-1), 1) := by decide +kernel
theorem dX8_wayFrom_19 : decode cX8_wayFrom 19 = .ok (.if_icmp .eq 18, 3) := by decide +kernel
theorem dX8_wayFrom_22 : decode cX8_wayFrom 22 = .ok (.aload_n 0, 1) := by decide +kernel
theorem dX8_wayFrom_23 : decode cX8_wayFrom 23 = .ok (.getfield 38, 3) := by decide +kernel
theorem dX8_wayFrom_26 : decode cX8_wayFrom 26 = .ok (.iload 4, 2) := by decide +kernel
theorem dX8_wayFrom_28 : decode cX8_wayFrom 28 = .ok (.iaload, 1) := by decide +kernel
theorem dX8_wayFrom_29 : decode cX8_wayFrom 29 = .ok (.istore 4, 2) := by decide +kernel
theorem dX8_wayFrom_31 : decode cX8_wayFrom 31 = .ok (.iinc 3 1, 3) := by decide +kernel
theorem dX8_wayFrom_34 : decode cX8_wayFrom 34 = .ok (.goto (-29), 3) := by decide +kernel
theorem dX8_wayFrom_37 : decode cX8_wayFrom 37 = .ok (.iload 4, 2) := by decide +kernel
theorem dX8_wayFrom_39 : decode cX8_wayFrom 39 = .ok (.iload_n 2, 1) := by decide +kernel
theorem dX8_wayFrom_40 : decode cX8_wayFrom 40 = .ok (.if_icmp .ne 7, 3) := by decide +kernel
theorem dX8_wayFrom_43 : decode cX8_wayFrom 43 = .ok (.iload_n 3, 1) := by decide +kernel
theorem dX8_wayFrom_44 : decode cX8_wayFrom 44 = .ok (.goto 4, 3) := by decide +kernel
theorem dX8_wayFrom_47 : decode cX8_wayFrom 47 = .ok (.iconst 0, 1) := by decide +kernel
theorem dX8_wayFrom_48 : decode cX8_wayFrom 48 = .ok (.ireturn, 1) := by decide +kernel
theorem dX8_mayTake_0 : decode cX8_mayTake 0 = .ok (.aload_n 0, 1) := by decide +kernel
theorem dX8_mayTake_1 : decode cX8_mayTake 1 = .ok (.getfield 38, 3) := by decide +kernel
theorem dX8_mayTake_4 : decode cX8_mayTake 4 = .ok (.iload_n 1, 1) := by decide +kernel
theorem dX8_mayTake_5 : decode cX8_mayTake 5 = .ok (.iaload, 1) := by decide +kernel
theorem dX8_mayTake_6 : decode cX8_mayTake 6 = .ok (.iconst (-1), 1) := by decide +kernel
theorem dX8_mayTake_7 : decode cX8_mayTake 7 = .ok (.if_icmp .ne 13, 3) := by decide +kernel
theorem dX8_mayTake_10 : decode cX8_mayTake 10 = .ok (.aload_n 0, 1) := by decide +kernel
theorem dX8_mayTake_11 : decode cX8_mayTake 11 = .ok (.getfield 41, 3) := by decide +kernel
theorem dX8_mayTake_14 : decode cX8_mayTake 14 = .ok (.iload_n 2, 1) := by decide +kernel
theorem dX8_mayTake_15 : decode cX8_mayTake 15 = .ok (.iaload, 1) := by decide +kernel
theorem dX8_mayTake_16 : decode cX8_mayTake 16 = .ok (.iconst (-1), 1) := by decide +kernel
theorem dX8_mayTake_17 : decode cX8_mayTake 17 = .ok (.if_icmp .eq 5, 3) := by decide +kernel
theorem dX8_mayTake_20 : decode cX8_mayTake 20 = .ok (.iconst 0, 1) := by decide +kernel
theorem dX8_mayTake_21 : decode cX8_mayTake 21 = .ok (.ireturn, 1) := by decide +kernel
theorem dX8_mayTake_22 : decode cX8_mayTake 22 = .ok (.aload_n 0, 1) := by decide +kernel
theorem dX8_mayTake_23 : decode cX8_mayTake 23 = .ok (.iload_n 2, 1) := by decide +kernel
theorem dX8_mayTake_24 : decode cX8_mayTake 24 = .ok (.iload_n 1, 1) := by decide +kernel
theorem dX8_mayTake_25 : decode cX8_mayTake 25 = .ok (.invokevirtual 187, 3) := by decide +kernel
theorem dX8_mayTake_28 : decode cX8_mayTake 28 = .ok (.istore_n 3, 1) := by decide +kernel
theorem dX8_mayTake_29 : decode cX8_mayTake 29 = .ok (.iload_n 3, 1) := by decide +kernel
theorem dX8_mayTake_30 : decode cX8_mayTake 30 = .ok (.ifCond .eq 11, 3) := by decide +kernel
theorem dX8_mayTake_33 : decode cX8_mayTake 33 = .ok (.iload_n 3, 1) := by decide +kernel
theorem dX8_mayTake_34 : decode cX8_mayTake 34 = .ok (.aload_n 0, 1) := by decide +kernel
theorem dX8_mayTake_35 : decode cX8_mayTake 35 = .ok (.invokevirtual 59, 3) := by decide +kernel
theorem dX8_mayTake_38 : decode cX8_mayTake 38 = .ok (.if_icmp .ne 7, 3) := by decide +kernel
theorem dX8_mayTake_41 : decode cX8_mayTake 41 = .ok (.iconst 1, 1) := by decide +kernel
theorem dX8_mayTake_42 : decode cX8_mayTake 42 = .ok (.goto 4, 3) := by decide +kernel
theorem dX8_mayTake_45 : decode cX8_mayTake 45 = .ok (.iconst 0, 1) := by decide +kernel
theorem dX8_mayTake_46 : decode cX8_mayTake 46 = .ok (.ireturn, 1) := by decide +kernel
theorem dX8_laysChain_0 : decode cX8_laysChain 0 = .ok (.aload_n 0, 1) := by decide +kernel
theorem dX8_laysChain_1 : decode cX8_laysChain 1 = .ok (.invokevirtual 190, 3) := by decide +kernel
theorem dX8_laysChain_4 : decode cX8_laysChain 4 = .ok (.iconst 0, 1) := by decide +kernel
theorem dX8_laysChain_5 : decode cX8_laysChain 5 = .ok (.istore_n 1, 1) := by decide +kernel
theorem dX8_laysChain_6 : decode cX8_laysChain 6 = .ok (.iload_n 1, 1) := by decide +kernel
theorem dX8_laysChain_7 : decode cX8_laysChain 7 = .ok (.bipush 6, 2) := by decide +kernel
theorem dX8_laysChain_9 : decode cX8_laysChain 9 = .ok (.if_icmp .ge 23, 3) := by decide +kernel
theorem dX8_laysChain_12 : decode cX8_laysChain 12 = .ok (.aload_n 0, 1) := by decide +kernel
theorem dX8_laysChain_13 : decode cX8_laysChain 13 = .ok (.getfield 38, 3) := by decide +kernel
theorem dX8_laysChain_16 : decode cX8_laysChain 16 = .ok (.iload_n 1, 1) := by decide +kernel
theorem dX8_laysChain_17 : decode cX8_laysChain 17 = .ok (.iconst (-1), 1) := by decide +kernel
theorem dX8_laysChain_18 : decode cX8_laysChain 18 = .ok (.iastore, 1) := by decide +kernel
theorem dX8_laysChain_19 : decode cX8_laysChain 19 = .ok (.aload_n 0, 1) := by decide +kernel
theorem dX8_laysChain_20 : decode cX8_laysChain 20 = .ok (.getfield 41, 3) := by decide +kernel
theorem dX8_laysChain_23 : decode cX8_laysChain 23 = .ok (.iload_n 1, 1) := by decide +kernel
theorem dX8_laysChain_24 : decode cX8_laysChain 24 = .ok (.iconst (-1), 1) := by decide +kernel
theorem dX8_laysChain_25 : decode cX8_laysChain 25 = .ok (.iastore, 1) := by decide +kernel
theorem dX8_laysChain_26 : decode cX8_laysChain 26 = .ok (.iinc 1 1, 3) := by decide +kernel
theorem dX8_laysChain_29 : decode cX8_laysChain 29 = .ok (.goto (-23), 3) := by decide +kernel
theorem dX8_laysChain_32 : decode cX8_laysChain 32 = .ok (.bipush 12, 2) := by decide +kernel
theorem dX8_laysChain_34 : decode cX8_laysChain 34 = .ok (.istore_n 1, 1) := by decide +kernel
theorem dX8_laysChain_35 : decode cX8_laysChain 35 = .ok (.iload_n 1, 1) := by decide +kernel
theorem dX8_laysChain_36 : decode cX8_laysChain 36 = .ok (.ifCond .le 84, 3) := by decide +kernel
theorem dX8_laysChain_39 : decode cX8_laysChain 39 = .ok (.iconst 0, 1) := by decide +kernel
theorem dX8_laysChain_40 : decode cX8_laysChain 40 = .ok (.istore_n 2, 1) := by decide +kernel
theorem dX8_laysChain_41 : decode cX8_laysChain 41 = .ok (.iload_n 2, 1) := by decide +kernel
theorem dX8_laysChain_42 : decode cX8_laysChain 42 = .ok (.aload_n 0, 1) := by decide +kernel
theorem dX8_laysChain_43 : decode cX8_laysChain 43 = .ok (.invokevirtual 59, 3) := by decide +kernel
theorem dX8_laysChain_46 : decode cX8_laysChain 46 = .ok (.if_icmp .ge 68, 3) := by decide +kernel
theorem dX8_laysChain_49 : decode cX8_laysChain 49 = .ok (.iconst 0, 1) := by decide +kernel
theorem dX8_laysChain_50 : decode cX8_laysChain 50 = .ok (.istore_n 3, 1) := by decide +kernel
theorem dX8_laysChain_51 : decode cX8_laysChain 51 = .ok (.iload_n 3, 1) := by decide +kernel
theorem dX8_laysChain_52 : decode cX8_laysChain 52 = .ok (.aload_n 0, 1) := by decide +kernel
theorem dX8_laysChain_53 : decode cX8_laysChain 53 = .ok (.invokevirtual 59, 3) := by decide +kernel
theorem dX8_laysChain_56 : decode cX8_laysChain 56 = .ok (.if_icmp .ge 52, 3) := by decide +kernel
theorem dX8_laysChain_59 : decode cX8_laysChain 59 = .ok (.iload_n 2, 1) := by decide +kernel
theorem dX8_laysChain_60 : decode cX8_laysChain 60 = .ok (.iload_n 3, 1) := by decide +kernel
theorem dX8_laysChain_61 : decode cX8_laysChain 61 = .ok (.if_icmp .eq 41, 3) := by decide +kernel
theorem dX8_laysChain_64 : decode cX8_laysChain 64 = .ok (.aload_n 0, 1) := by decide +kernel
theorem dX8_laysChain_65 : decode cX8_laysChain 65 = .ok (.getfield 29, 3) := by decide +kernel
theorem dX8_laysChain_68 : decode cX8_laysChain 68 = .ok (.bipush 6, 2) := by decide +kernel
theorem dX8_laysChain_70 : decode cX8_laysChain 70 = .ok (.iload_n 2, 1) := by decide +kernel
theorem dX8_laysChain_71 : decode cX8_laysChain 71 = .ok (.imul, 1) := by decide +kernel
theorem dX8_laysChain_72 : decode cX8_laysChain 72 = .ok (.iload_n 3, 1) := by decide +kernel
theorem dX8_laysChain_73 : decode cX8_laysChain 73 = .ok (.iadd, 1) := by decide +kernel
theorem dX8_laysChain_74 : decode cX8_laysChain 74 = .ok (.iaload, 1) := by decide +kernel
theorem dX8_laysChain_75 : decode cX8_laysChain 75 = .ok (.iload_n 1, 1) := by decide +kernel
theorem dX8_laysChain_76 : decode cX8_laysChain 76 = .ok (.if_icmp .ne 26, 3) := by decide +kernel
theorem dX8_laysChain_79 : decode cX8_laysChain 79 = .ok (.aload_n 0, 1) := by decide +kernel
theorem dX8_laysChain_80 : decode cX8_laysChain 80 = .ok (.iload_n 2, 1) := by decide +kernel
theorem dX8_laysChain_81 : decode cX8_laysChain 81 = .ok (.iload_n 3, 1) := by decide +kernel
theorem dX8_laysChain_82 : decode cX8_laysChain 82 = .ok (.invokevirtual 193, 3) := by decide +kernel
theorem dX8_laysChain_85 : decode cX8_laysChain 85 = .ok (.ifCond .eq 17, 3) := by decide +kernel
theorem dX8_laysChain_88 : decode cX8_laysChain 88 = .ok (.aload_n 0, 1) := by decide +kernel
theorem dX8_laysChain_89 : decode cX8_laysChain 89 = .ok (.getfield 38, 3) := by decide +kernel
theorem dX8_laysChain_92 : decode cX8_laysChain 92 = .ok (.iload_n 2, 1) := by decide +kernel
theorem dX8_laysChain_93 : decode cX8_laysChain 93 = .ok (.iload_n 3, 1) := by decide +kernel
theorem dX8_laysChain_94 : decode cX8_laysChain 94 = .ok (.iastore, 1) := by decide +kernel
theorem dX8_laysChain_95 : decode cX8_laysChain 95 = .ok (.aload_n 0, 1) := by decide +kernel
theorem dX8_laysChain_96 : decode cX8_laysChain 96 = .ok (.getfield 41, 3) := by decide +kernel
theorem dX8_laysChain_99 : decode cX8_laysChain 99 = .ok (.iload_n 3, 1) := by decide +kernel
theorem dX8_laysChain_100 : decode cX8_laysChain 100 = .ok (.iload_n 2, 1) := by decide +kernel
theorem dX8_laysChain_101 : decode cX8_laysChain 101 = .ok (.iastore, 1) := by decide +kernel
theorem dX8_laysChain_102 : decode cX8_laysChain 102 = .ok (.iinc 3 1, 3) := by decide +kernel
theorem dX8_laysChain_105 : decode cX8_laysChain 105 = .ok (.goto (-54), 3) := by decide +kernel
theorem dX8_laysChain_108 : decode cX8_laysChain 108 = .ok (.iinc 2 1, 3) := by decide +kernel
theorem dX8_laysChain_111 : decode cX8_laysChain 111 = .ok (.goto (-70), 3) := by decide +kernel
theorem dX8_laysChain_114 : decode cX8_laysChain 114 = .ok (.iinc 1 (-1), 3) := by decide +kernel
theorem dX8_laysChain_117 : decode cX8_laysChain 117 = .ok (.goto (-82), 3) := by decide +kernel
theorem dX8_laysChain_120 : decode cX8_laysChain 120 = .ok (.return_, 1) := by decide +kernel
theorem dX8_eOf_0 : decode cX8_eOf 0 = .ok (.aload_n 0, 1) := by decide +kernel
theorem dX8_eOf_1 : decode cX8_eOf 1 = .ok (.getfield 32, 3) := by decide +kernel
theorem dX8_eOf_4 : decode cX8_eOf 4 = .ok (.bipush 6, 2) := by decide +kernel
theorem dX8_eOf_6 : decode cX8_eOf 6 = .ok (.iload_n 1, 1) := by decide +kernel
theorem dX8_eOf_7 : decode cX8_eOf 7 = .ok (.imul, 1) := by decide +kernel
theorem dX8_eOf_8 : decode cX8_eOf 8 = .ok (.aload_n 0, 1) := by decide +kernel
theorem dX8_eOf_9 : decode cX8_eOf 9 = .ok (.getfield 38, 3) := by decide +kernel
theorem dX8_eOf_12 : decode cX8_eOf 12 = .ok (.iload_n 1, 1) := by decide +kernel
theorem dX8_eOf_13 : decode cX8_eOf 13 = .ok (.iaload, 1) := by decide +kernel
theorem dX8_eOf_14 : decode cX8_eOf 14 = .ok (.iadd, 1) := by decide +kernel
theorem dX8_eOf_15 : decode cX8_eOf 15 = .ok (.iaload, 1) := by decide +kernel
theorem dX8_eOf_16 : decode cX8_eOf 16 = .ok (.ireturn, 1) := by decide +kernel
theorem dX8_fOf_0 : decode cX8_fOf 0 = .ok (.aload_n 0, 1) := by decide +kernel
theorem dX8_fOf_1 : decode cX8_fOf 1 = .ok (.getfield 35, 3) := by decide +kernel
theorem dX8_fOf_4 : decode cX8_fOf 4 = .ok (.bipush 6, 2) := by decide +kernel
theorem dX8_fOf_6 : decode cX8_fOf 6 = .ok (.iload_n 1, 1) := by decide +kernel
theorem dX8_fOf_7 : decode cX8_fOf 7 = .ok (.imul, 1) := by decide +kernel
theorem dX8_fOf_8 : decode cX8_fOf 8 = .ok (.aload_n 0, 1) := by decide +kernel
theorem dX8_fOf_9 : decode cX8_fOf 9 = .ok (.getfield 38, 3) := by decide +kernel
theorem dX8_fOf_12 : decode cX8_fOf 12 = .ok (.iload_n 1, 1) := by decide +kernel
theorem dX8_fOf_13 : decode cX8_fOf 13 = .ok (.iaload, 1) := by decide +kernel
theorem dX8_fOf_14 : decode cX8_fOf 14 = .ok (.iadd, 1) := by decide +kernel
theorem dX8_fOf_15 : decode cX8_fOf 15 = .ok (.iaload, 1) := by decide +kernel
theorem dX8_fOf_16 : decode cX8_fOf 16 = .ok (.ireturn, 1) := by decide +kernel
theorem dX8_chain_0 : decode cX8_chain 0 = .ok (.aload_n 0, 1) := by decide +kernel
theorem dX8_chain_1 : decode cX8_chain 1 = .ok (.iload_n 1, 1) := by decide +kernel
theorem dX8_chain_2 : decode cX8_chain 2 = .ok (.invokevirtual 128, 3) := by decide +kernel
theorem dX8_chain_5 : decode cX8_chain 5 = .ok (.ifCond .eq 13, 3) := by decide +kernel
theorem dX8_chain_8 : decode cX8_chain 8 = .ok (.iload_n 2, 1) := by decide +kernel
theorem dX8_chain_9 : decode cX8_chain 9 = .ok (.i2l, 1) := by decide +kernel
theorem dX8_chain_10 : decode cX8_chain 10 = .ok (.lconst 0, 1) := by decide +kernel
theorem dX8_chain_11 : decode cX8_chain 11 = .ok (.lconst 1, 1) := by decide +kernel
theorem dX8_chain_12 : decode cX8_chain 12 = .ok (.invokestatic 63, 3) := by decide +kernel
theorem dX8_chain_15 : decode cX8_chain 15 = .ok (.ifCond .ne 10, 3) := by decide +kernel
theorem dX8_chain_18 : decode cX8_chain 18 = .ok (.aload_n 0, 1) := by decide +kernel
theorem dX8_chain_19 : decode cX8_chain 19 = .ok (.bipush (-2), 2) := by decide +kernel
theorem dX8_chain_21 : decode cX8_chain 21 = .ok (.invokevirtual 91, 3) := by decide +kernel
theorem dX8_chain_24 : decode cX8_chain 24 = .ok (.ireturn, 1) := by decide +kernel
theorem dX8_chain_25 : decode cX8_chain 25 = .ok (.aload_n 0, 1) := by decide +kernel
theorem dX8_chain_26 : decode cX8_chain 26 = .ok (.invokevirtual 196, 3) := by decide +kernel
theorem dX8_chain_29 : decode cX8_chain 29 = .ok (.iload_n 2, 1) := by decide +kernel
theorem dX8_chain_30 : decode cX8_chain 30 = .ok (.ifCond .ne 12, 3) := by decide +kernel
theorem dX8_chain_33 : decode cX8_chain 33 = .ok (.aload_n 0, 1) := by decide +kernel
theorem dX8_chain_34 : decode cX8_chain 34 = .ok (.getfield 38, 3) := by decide +kernel
theorem dX8_chain_37 : decode cX8_chain 37 = .ok (.iload_n 1, 1) := by decide +kernel
theorem dX8_chain_38 : decode cX8_chain 38 = .ok (.iaload, 1) := by decide +kernel
theorem dX8_chain_39 : decode cX8_chain 39 = .ok (.goto 9, 3) := by decide +kernel
theorem dX8_chain_42 : decode cX8_chain 42 = .ok (.aload_n 0, 1) := by decide +kernel
theorem dX8_chain_43 : decode cX8_chain 43 = .ok (.getfield 41, 3) := by decide +kernel
theorem dX8_chain_46 : decode cX8_chain 46 = .ok (.iload_n 1, 1) := by decide +kernel
theorem dX8_chain_47 : decode cX8_chain 47 = .ok (.iaload, 1) := by decide +kernel
theorem dX8_chain_48 : decode cX8_chain 48 = .ok (.ireturn, 1) := by decide +kernel
theorem dX8_taken_0 : decode cX8_taken 0 = .ok (.iconst 0, 1) := by decide +kernel
theorem dX8_taken_1 : decode cX8_taken 1 = .ok (.istore_n 1, 1) := by decide +kernel
theorem dX8_taken_2 : decode cX8_taken 2 = .ok (.iconst 0, 1) := by decide +kernel
theorem dX8_taken_3 : decode cX8_taken 3 = .ok (.istore_n 2, 1) := by decide +kernel
theorem dX8_taken_4 : decode cX8_taken 4 = .ok (.iload_n 2, 1) := by decide +kernel
theorem dX8_taken_5 : decode cX8_taken 5 = .ok (.aload_n 0, 1) := by decide +kernel
theorem dX8_taken_6 : decode cX8_taken 6 = .ok (.invokevirtual 59, 3) := by decide +kernel
theorem dX8_taken_9 : decode cX8_taken 9 = .ok (.if_icmp .ge 27, 3) := by decide +kernel
theorem dX8_taken_12 : decode cX8_taken 12 = .ok (.iload_n 1, 1) := by decide +kernel
theorem dX8_taken_13 : decode cX8_taken 13 = .ok (.aload_n 0, 1) := by decide +kernel
theorem dX8_taken_14 : decode cX8_taken 14 = .ok (.getfield 38, 3) := by decide +kernel
theorem dX8_taken_17 : decode cX8_taken 17 = .ok (.iload_n 2, 1) := by decide +kernel
theorem dX8_taken_18 : decode cX8_taken 18 = .ok (.iaload, 1) := by decide +kernel
theorem dX8_taken_19 : decode cX8_taken 19 = .ok (.iconst (-1), 1) := by decide +kernel
theorem dX8_taken_20 : decode cX8_taken 20 = .ok (.if_icmp .eq 7, 3) := by decide +kernel
theorem dX8_taken_23 : decode cX8_taken 23 = .ok (.iconst 1, 1) := by decide +kernel
theorem dX8_taken_24 : decode cX8_taken 24 = .ok (.goto 4, 3) := by decide +kernel
theorem dX8_taken_27 : decode cX8_taken 27 = .ok (.iconst 0, 1) := by decide +kernel
theorem dX8_taken_28 : decode cX8_taken 28 = .ok (.iadd, 1) := by decide +kernel
theorem dX8_taken_29 : decode cX8_taken 29 = .ok (.istore_n 1, 1) := by decide +kernel
theorem dX8_taken_30 : decode cX8_taken 30 = .ok (.iinc 2 1, 3) := by decide +kernel
theorem dX8_taken_33 : decode cX8_taken 33 = .ok (.goto (-29), 3) := by decide +kernel
theorem dX8_taken_36 : decode cX8_taken 36 = .ok (.iload_n 1, 1) := by decide +kernel
theorem dX8_taken_37 : decode cX8_taken 37 = .ok (.ireturn, 1) := by decide +kernel
theorem dX8_isClosed_0 : decode cX8_isClosed 0 = .ok (.aload_n 0, 1) := by decide +kernel
theorem dX8_isClosed_1 : decode cX8_isClosed 1 = .ok (.invokevirtual 59, 3) := by decide +kernel
theorem dX8_isClosed_4 : decode cX8_isClosed 4 = .ok (.iconst 2, 1) := by decide +kernel
theorem dX8_isClosed_5 : decode cX8_isClosed 5 = .ok (.if_icmp .lt 18, 3) := by decide +kernel
theorem dX8_isClosed_8 : decode cX8_isClosed 8 = .ok (.aload_n 0, 1) := by decide +kernel
theorem dX8_isClosed_9 : decode cX8_isClosed 9 = .ok (.invokevirtual 199, 3) := by decide +kernel
theorem dX8_isClosed_12 : decode cX8_isClosed 12 = .ok (.aload_n 0, 1) := by decide +kernel
theorem dX8_isClosed_13 : decode cX8_isClosed 13 = .ok (.invokevirtual 59, 3) := by decide +kernel
theorem dX8_isClosed_16 : decode cX8_isClosed 16 = .ok (.if_icmp .ne 7, 3) := by decide +kernel
theorem dX8_isClosed_19 : decode cX8_isClosed 19 = .ok (.iconst 1, 1) := by decide +kernel
theorem dX8_isClosed_20 : decode cX8_isClosed 20 = .ok (.goto 4, 3) := by decide +kernel
theorem dX8_isClosed_23 : decode cX8_isClosed 23 = .ok (.iconst 0, 1) := by decide +kernel
theorem dX8_isClosed_24 : decode cX8_isClosed 24 = .ok (.ireturn, 1) := by decide +kernel
theorem dX8_sumOf_0 : decode cX8_sumOf 0 = .ok (.iconst 0, 1) := by decide +kernel
theorem dX8_sumOf_1 : decode cX8_sumOf 1 = .ok (.istore_n 2, 1) := by decide +kernel
theorem dX8_sumOf_2 : decode cX8_sumOf 2 = .ok (.iconst 0, 1) := by decide +kernel
theorem dX8_sumOf_3 : decode cX8_sumOf 3 = .ok (.istore_n 3, 1) := by decide +kernel
theorem dX8_sumOf_4 : decode cX8_sumOf 4 = .ok (.iload_n 3, 1) := by decide +kernel
theorem dX8_sumOf_5 : decode cX8_sumOf 5 = .ok (.aload_n 0, 1) := by decide +kernel
theorem dX8_sumOf_6 : decode cX8_sumOf 6 = .ok (.invokevirtual 59, 3) := by decide +kernel
theorem dX8_sumOf_9 : decode cX8_sumOf 9 = .ok (.if_icmp .ge 43, 3) := by decide +kernel
theorem dX8_sumOf_12 : decode cX8_sumOf 12 = .ok (.iload_n 2, 1) := by decide +kernel
theorem dX8_sumOf_13 : decode cX8_sumOf 13 = .ok (.aload_n 0, 1) := by decide +kernel
theorem dX8_sumOf_14 : decode cX8_sumOf 14 = .ok (.getfield 38, 3) := by decide +kernel
theorem dX8_sumOf_17 : decode cX8_sumOf 17 = .ok (.iload_n 3, 1) := by decide +kernel
theorem dX8_sumOf_18 : decode cX8_sumOf 18 = .ok (.iaload, 1) := by decide +kernel
theorem dX8_sumOf_19 : decode cX8_sumOf 19 = .ok (.iconst (-1), 1) := by decide +kernel
theorem dX8_sumOf_20 : decode cX8_sumOf 20 = .ok (.if_icmp .ne 7, 3) := by decide +kernel
theorem dX8_sumOf_23 : decode cX8_sumOf 23 = .ok (.iconst 0, 1) := by decide +kernel
theorem dX8_sumOf_24 : decode cX8_sumOf 24 = .ok (.goto 20, 3) := by decide +kernel
theorem dX8_sumOf_27 : decode cX8_sumOf 27 = .ok (.iload_n 1, 1) := by decide +kernel
theorem dX8_sumOf_28 : decode cX8_sumOf 28 = .ok (.ifCond .eq 11, 3) := by decide +kernel
theorem dX8_sumOf_31 : decode cX8_sumOf 31 = .ok (.aload_n 0, 1) := by decide +kernel
theorem dX8_sumOf_32 : decode cX8_sumOf 32 = .ok (.iload_n 3, 1) := by decide +kernel
theorem dX8_sumOf_33 : decode cX8_sumOf 33 = .ok (.invokevirtual 202, 3) := by decide +kernel
theorem dX8_sumOf_36 : decode cX8_sumOf 36 = .ok (.goto 8, 3) := by decide +kernel
theorem dX8_sumOf_39 : decode cX8_sumOf 39 = .ok (.aload_n 0, 1) := by decide +kernel
theorem dX8_sumOf_40 : decode cX8_sumOf 40 = .ok (.iload_n 3, 1) := by decide +kernel
theorem dX8_sumOf_41 : decode cX8_sumOf 41 = .ok (.invokevirtual 205, 3) := by decide +kernel
theorem dX8_sumOf_44 : decode cX8_sumOf 44 = .ok (.iadd, 1) := by decide +kernel
theorem dX8_sumOf_45 : decode cX8_sumOf 45 = .ok (.istore_n 2, 1) := by decide +kernel
theorem dX8_sumOf_46 : decode cX8_sumOf 46 = .ok (.iinc 3 1, 3) := by decide +kernel
theorem dX8_sumOf_49 : decode cX8_sumOf 49 = .ok (.goto (-45), 3) := by decide +kernel
theorem dX8_sumOf_52 : decode cX8_sumOf 52 = .ok (.iload_n 2, 1) := by decide +kernel
theorem dX8_sumOf_53 : decode cX8_sumOf 53 = .ok (.ireturn, 1) := by decide +kernel
theorem dX8_isRight_0 : decode cX8_isRight 0 = .ok (.aload_n 0, 1) := by decide +kernel
theorem dX8_isRight_1 : decode cX8_isRight 1 = .ok (.getfield 38, 3) := by decide +kernel
theorem dX8_isRight_4 : decode cX8_isRight 4 = .ok (.iload_n 1, 1) := by decide +kernel
theorem dX8_isRight_5 : decode cX8_isRight 5 = .ok (.iaload, 1) := by decide +kernel
theorem dX8_isRight_6 : decode cX8_isRight 6 = .ok (.istore_n 2, 1) := by decide +kernel
theorem dX8_isRight_7 : decode cX8_isRight 7 = .ok (.aload_n 0, 1) := by decide +kernel
theorem dX8_isRight_8 : decode cX8_isRight 8 = .ok (.iload_n 1, 1) := by decide +kernel
theorem dX8_isRight_9 : decode cX8_isRight 9 = .ok (.iconst 2, 1) := by decide +kernel
theorem dX8_isRight_10 : decode cX8_isRight 10 = .ok (.invokevirtual 208, 3) := by decide +kernel
theorem dX8_isRight_13 : decode cX8_isRight 13 = .ok (.istore_n 3, 1) := by decide +kernel
theorem dX8_isRight_14 : decode cX8_isRight 14 = .ok (.iload_n 3, 1) := by decide +kernel
theorem dX8_isRight_15 : decode cX8_isRight 15 = .ok (.aload_n 0, 1) := by decide +kernel
theorem dX8_isRight_16 : decode cX8_isRight 16 = .ok (.iload_n 2, 1) := by decide +kernel
theorem dX8_isRight_17 : decode cX8_isRight 17 = .ok (.iconst 2, 1) := by decide +kernel
theorem dX8_isRight_18 : decode cX8_isRight 18 = .ok (.invokevirtual 208, 3) := by decide +kernel
theorem dX8_isRight_21 : decode cX8_isRight 21 = .ok (.if_icmp .ne 51, 3) := by decide +kernel
theorem dX8_isRight_24 : decode cX8_isRight 24 = .ok (.aload_n 0, 1) := by decide +kernel
theorem dX8_isRight_25 : decode cX8_isRight 25 = .ok (.iload_n 1, 1) := by decide +kernel
theorem dX8_isRight_26 : decode cX8_isRight 26 = .ok (.iconst 0, 1) := by decide +kernel
theorem dX8_isRight_27 : decode cX8_isRight 27 = .ok (.invokevirtual 208, 3) := by decide +kernel
theorem dX8_isRight_30 : decode cX8_isRight 30 = .ok (.aload_n 0, 1) := by decide +kernel
theorem dX8_isRight_31 : decode cX8_isRight 31 = .ok (.iload_n 1, 1) := by decide +kernel
theorem dX8_isRight_32 : decode cX8_isRight 32 = .ok (.invokevirtual 205, 3) := by decide +kernel
theorem dX8_isRight_35 : decode cX8_isRight 35 = .ok (.iadd, 1) := by decide +kernel
theorem dX8_isRight_36 : decode cX8_isRight 36 = .ok (.iload_n 3, 1) := by decide +kernel
theorem dX8_isRight_37 : decode cX8_isRight 37 = .ok (.irem, 1) := by decide +kernel
theorem dX8_isRight_38 : decode cX8_isRight 38 = .ok (.aload_n 0, 1) := by decide +kernel
theorem dX8_isRight_39 : decode cX8_isRight 39 = .ok (.iload_n 2, 1) := by decide +kernel
theorem dX8_isRight_40 : decode cX8_isRight 40 = .ok (.iconst 0, 1) := by decide +kernel
theorem dX8_isRight_41 : decode cX8_isRight 41 = .ok (.invokevirtual 208, 3) := by decide +kernel
theorem dX8_isRight_44 : decode cX8_isRight 44 = .ok (.if_icmp .ne 28, 3) := by decide +kernel
theorem dX8_isRight_47 : decode cX8_isRight 47 = .ok (.aload_n 0, 1) := by decide +kernel
theorem dX8_isRight_48 : decode cX8_isRight 48 = .ok (.iload_n 1, 1) := by decide +kernel
theorem dX8_isRight_49 : decode cX8_isRight 49 = .ok (.iconst 1, 1) := by decide +kernel
theorem dX8_isRight_50 : decode cX8_isRight 50 = .ok (.invokevirtual 208, 3) := by decide +kernel
theorem dX8_isRight_53 : decode cX8_isRight 53 = .ok (.aload_n 0, 1) := by decide +kernel
theorem dX8_isRight_54 : decode cX8_isRight 54 = .ok (.iload_n 1, 1) := by decide +kernel
theorem dX8_isRight_55 : decode cX8_isRight 55 = .ok (.invokevirtual 202, 3) := by decide +kernel
theorem dX8_isRight_58 : decode cX8_isRight 58 = .ok (.iadd, 1) := by decide +kernel
theorem dX8_isRight_59 : decode cX8_isRight 59 = .ok (.aload_n 0, 1) := by decide +kernel
theorem dX8_isRight_60 : decode cX8_isRight 60 = .ok (.iload_n 2, 1) := by decide +kernel
theorem dX8_isRight_61 : decode cX8_isRight 61 = .ok (.iconst 1, 1) := by decide +kernel
theorem dX8_isRight_62 : decode cX8_isRight 62 = .ok (.invokevirtual 208, 3) := by decide +kernel
theorem dX8_isRight_65 : decode cX8_isRight 65 = .ok (.if_icmp .ne 7, 3) := by decide +kernel
theorem dX8_isRight_68 : decode cX8_isRight 68 = .ok (.iconst 1, 1) := by decide +kernel
theorem dX8_isRight_69 : decode cX8_isRight 69 = .ok (.goto 4, 3) := by decide +kernel
theorem dX8_isRight_72 : decode cX8_isRight 72 = .ok (.iconst 0, 1) := by decide +kernel
theorem dX8_isRight_73 : decode cX8_isRight 73 = .ok (.ireturn, 1) := by decide +kernel
theorem dX8_allNow_0 : decode cX8_allNow 0 = .ok (.iconst 0, 1) := by decide +kernel
theorem dX8_allNow_1 : decode cX8_allNow 1 = .ok (.istore_n 2, 1) := by decide +kernel
theorem dX8_allNow_2 : decode cX8_allNow 2 = .ok (.iconst 0, 1) := by decide +kernel
theorem dX8_allNow_3 : decode cX8_allNow 3 = .ok (.istore_n 3, 1) := by decide +kernel
theorem dX8_allNow_4 : decode cX8_allNow 4 = .ok (.iconst 0, 1) := by decide +kernel
theorem dX8_allNow_5 : decode cX8_allNow 5 = .ok (.istore 4, 2) := by decide +kernel
theorem dX8_allNow_7 : decode cX8_allNow 7 = .ok (.iload 4, 2) := by decide +kernel
theorem dX8_allNow_9 : decode cX8_allNow 9 = .ok (.aload_n 0, 1) := by decide +kernel
theorem dX8_allNow_10 : decode cX8_allNow 10 = .ok (.invokevirtual 59, 3) := by decide +kernel
theorem dX8_allNow_13 : decode cX8_allNow 13 = .ok (.if_icmp .ge 56, 3) := by decide +kernel
theorem dX8_allNow_16 : decode cX8_allNow 16 = .ok (.iload_n 2, 1) := by decide +kernel
theorem dX8_allNow_17 : decode cX8_allNow 17 = .ok (.aload_n 0, 1) := by decide +kernel
theorem dX8_allNow_18 : decode cX8_allNow 18 = .ok (.getfield 38, 3) := by decide +kernel
theorem dX8_allNow_21 : decode cX8_allNow 21 = .ok (.iload 4, 2) := by decide +kernel
theorem dX8_allNow_23 : decode cX8_allNow 23 = .ok (.iaload, 1) := by decide +kernel
theorem dX8_allNow_24 : decode cX8_allNow 24 = .ok (.iconst (-1), 1) := by decide +kernel
theorem dX8_allNow_25 : decode cX8_allNow 25 = .ok (.if_icmp .eq 16, 3) := by decide +kernel
theorem dX8_allNow_28 : decode cX8_allNow 28 = .ok (.aload_n 0, 1) := by decide +kernel
