theorem od_Mo_boundNow_46 : decode prog_11_method_35_code 46 = .ok (.aload_n 0, 1) := by decide +kernel
theorem od_Mo_boundNow_47 : decode prog_11_method_35_code 47 = .ok (.getfield 41, 3) := by decide +kernel
theorem od_Mo_boundNow_50 : decode prog_11_method_35_code 50 = .ok (.bipush (8), 2) := by decide +kernel
theorem od_Mo_boundNow_52 : decode prog_11_method_35_code 52 = .ok (.iload_n 2, 1) := by decide +kernel
theorem od_Mo_boundNow_53 : decode prog_11_method_35_code 53 = .ok (.imul, 1) := by decide +kernel
theorem od_Mo_boundNow_54 : decode prog_11_method_35_code 54 = .ok (.iload_n 3, 1) := by decide +kernel
theorem od_Mo_boundNow_55 : decode prog_11_method_35_code 55 = .ok (.iadd, 1) := by decide +kernel
theorem od_Mo_boundNow_56 : decode prog_11_method_35_code 56 = .ok (.baload, 1) := by decide +kernel
theorem od_Mo_boundNow_57 : decode prog_11_method_35_code 57 = .ok (.ifCond .eq (12), 3) := by decide +kernel
theorem od_Mo_boundNow_60 : decode prog_11_method_35_code 60 = .ok (.aload_n 0, 1) := by decide +kernel
theorem od_Mo_boundNow_61 : decode prog_11_method_35_code 61 = .ok (.iload_n 2, 1) := by decide +kernel
theorem od_Mo_boundNow_62 : decode prog_11_method_35_code 62 = .ok (.iload_n 3, 1) := by decide +kernel
theorem od_Mo_boundNow_63 : decode prog_11_method_35_code 63 = .ok (.invokevirtual 214, 3) := by decide +kernel
theorem od_Mo_boundNow_66 : decode prog_11_method_35_code 66 = .ok (.goto (4), 3) := by decide +kernel
theorem od_Mo_boundNow_69 : decode prog_11_method_35_code 69 = .ok (.iconst 0, 1) := by decide +kernel
theorem od_Mo_boundNow_70 : decode prog_11_method_35_code 70 = .ok (.iadd, 1) := by decide +kernel
theorem od_Mo_boundNow_71 : decode prog_11_method_35_code 71 = .ok (.istore_n 1, 1) := by decide +kernel
theorem od_Mo_boundNow_72 : decode prog_11_method_35_code 72 = .ok (.iinc 3 (1), 3) := by decide +kernel
theorem od_Mo_boundNow_75 : decode prog_11_method_35_code 75 = .ok (.goto (-38), 3) := by decide +kernel
theorem od_Mo_boundNow_78 : decode prog_11_method_35_code 78 = .ok (.iinc 2 (1), 3) := by decide +kernel
theorem od_Mo_boundNow_81 : decode prog_11_method_35_code 81 = .ok (.goto (-67), 3) := by decide +kernel
theorem od_Mo_boundNow_84 : decode prog_11_method_35_code 84 = .ok (.iload_n 1, 1) := by decide +kernel
theorem od_Mo_boundNow_85 : decode prog_11_method_35_code 85 = .ok (.ireturn, 1) := by decide +kernel
theorem od_Mo_bound_0 : decode prog_11_method_37_code 0 = .ok (.aload_n 0, 1) := by decide +kernel
theorem od_Mo_bound_1 : decode prog_11_method_37_code 1 = .ok (.invokevirtual 232, 3) := by decide +kernel
theorem od_Mo_bound_4 : decode prog_11_method_37_code 4 = .ok (.aload_n 0, 1) := by decide +kernel
theorem od_Mo_bound_5 : decode prog_11_method_37_code 5 = .ok (.invokevirtual 235, 3) := by decide +kernel
theorem od_Mo_bound_8 : decode prog_11_method_37_code 8 = .ok (.ireturn, 1) := by decide +kernel
theorem od_Mo_meeting_0 : decode prog_11_method_38_code 0 = .ok (.iconst 0, 1) := by decide +kernel
theorem od_Mo_meeting_1 : decode prog_11_method_38_code 1 = .ok (.istore_n 2, 1) := by decide +kernel
theorem od_Mo_meeting_2 : decode prog_11_method_38_code 2 = .ok (.iconst 0, 1) := by decide +kernel
theorem od_Mo_meeting_3 : decode prog_11_method_38_code 3 = .ok (.istore_n 3, 1) := by decide +kernel
theorem od_Mo_meeting_4 : decode prog_11_method_38_code 4 = .ok (.iload_n 3, 1) := by decide +kernel
theorem od_Mo_meeting_5 : decode prog_11_method_38_code 5 = .ok (.aload_n 0, 1) := by decide +kernel
theorem od_Mo_meeting_6 : decode prog_11_method_38_code 6 = .ok (.getfield 187, 3) := by decide +kernel
theorem od_Mo_meeting_9 : decode prog_11_method_38_code 9 = .ok (.if_icmp .ge (55), 3) := by decide +kernel
theorem od_Mo_meeting_12 : decode prog_11_method_38_code 12 = .ok (.iload_n 2, 1) := by decide +kernel
theorem od_Mo_meeting_13 : decode prog_11_method_38_code 13 = .ok (.iload_n 3, 1) := by decide +kernel
theorem od_Mo_meeting_14 : decode prog_11_method_38_code 14 = .ok (.iload_n 1, 1) := by decide +kernel
theorem od_Mo_meeting_15 : decode prog_11_method_38_code 15 = .ok (.if_icmp .ge (17), 3) := by decide +kernel
theorem od_Mo_meeting_18 : decode prog_11_method_38_code 18 = .ok (.aload_n 0, 1) := by decide +kernel
theorem od_Mo_meeting_19 : decode prog_11_method_38_code 19 = .ok (.getfield 41, 3) := by decide +kernel
theorem od_Mo_meeting_22 : decode prog_11_method_38_code 22 = .ok (.bipush (8), 2) := by decide +kernel
theorem od_Mo_meeting_24 : decode prog_11_method_38_code 24 = .ok (.iload_n 3, 1) := by decide +kernel
theorem od_Mo_meeting_25 : decode prog_11_method_38_code 25 = .ok (.imul, 1) := by decide +kernel
theorem od_Mo_meeting_26 : decode prog_11_method_38_code 26 = .ok (.iload_n 1, 1) := by decide +kernel
theorem od_Mo_meeting_27 : decode prog_11_method_38_code 27 = .ok (.iadd, 1) := by decide +kernel
theorem od_Mo_meeting_28 : decode prog_11_method_38_code 28 = .ok (.baload, 1) := by decide +kernel
theorem od_Mo_meeting_29 : decode prog_11_method_38_code 29 = .ok (.ifCond .ne (22), 3) := by decide +kernel
theorem od_Mo_meeting_32 : decode prog_11_method_38_code 32 = .ok (.iload_n 3, 1) := by decide +kernel
theorem od_Mo_meeting_33 : decode prog_11_method_38_code 33 = .ok (.iload_n 1, 1) := by decide +kernel
theorem od_Mo_meeting_34 : decode prog_11_method_38_code 34 = .ok (.if_icmp .le (21), 3) := by decide +kernel
theorem od_Mo_meeting_37 : decode prog_11_method_38_code 37 = .ok (.aload_n 0, 1) := by decide +kernel
theorem od_Mo_meeting_38 : decode prog_11_method_38_code 38 = .ok (.getfield 41, 3) := by decide +kernel
theorem od_Mo_meeting_41 : decode prog_11_method_38_code 41 = .ok (.bipush (8), 2) := by decide +kernel
theorem od_Mo_meeting_43 : decode prog_11_method_38_code 43 = .ok (.iload_n 1, 1) := by decide +kernel
theorem od_Mo_meeting_44 : decode prog_11_method_38_code 44 = .ok (.imul, 1) := by decide +kernel
theorem od_Mo_meeting_45 : decode prog_11_method_38_code 45 = .ok (.iload_n 3, 1) := by decide +kernel
theorem od_Mo_meeting_46 : decode prog_11_method_38_code 46 = .ok (.iadd, 1) := by decide +kernel
theorem od_Mo_meeting_47 : decode prog_11_method_38_code 47 = .ok (.baload, 1) := by decide +kernel
theorem od_Mo_meeting_48 : decode prog_11_method_38_code 48 = .ok (.ifCond .eq (7), 3) := by decide +kernel
theorem od_Mo_meeting_51 : decode prog_11_method_38_code 51 = .ok (.iconst 1, 1) := by decide +kernel
theorem od_Mo_meeting_52 : decode prog_11_method_38_code 52 = .ok (.goto (4), 3) := by decide +kernel
theorem od_Mo_meeting_55 : decode prog_11_method_38_code 55 = .ok (.iconst 0, 1) := by decide +kernel
theorem od_Mo_meeting_56 : decode prog_11_method_38_code 56 = .ok (.iadd, 1) := by decide +kernel
theorem od_Mo_meeting_57 : decode prog_11_method_38_code 57 = .ok (.istore_n 2, 1) := by decide +kernel
theorem od_Mo_meeting_58 : decode prog_11_method_38_code 58 = .ok (.iinc 3 (1), 3) := by decide +kernel
theorem od_Mo_meeting_61 : decode prog_11_method_38_code 61 = .ok (.goto (-57), 3) := by decide +kernel
theorem od_Mo_meeting_64 : decode prog_11_method_38_code 64 = .ok (.iload_n 2, 1) := by decide +kernel
theorem od_Mo_meeting_65 : decode prog_11_method_38_code 65 = .ok (.ireturn, 1) := by decide +kernel
theorem od_Mo_degree_0 : decode prog_11_method_39_code 0 = .ok (.aload_n 0, 1) := by decide +kernel
theorem od_Mo_degree_1 : decode prog_11_method_39_code 1 = .ok (.invokevirtual 232, 3) := by decide +kernel
theorem od_Mo_degree_4 : decode prog_11_method_39_code 4 = .ok (.aload_n 0, 1) := by decide +kernel
theorem od_Mo_degree_5 : decode prog_11_method_39_code 5 = .ok (.iload_n 1, 1) := by decide +kernel
theorem od_Mo_degree_6 : decode prog_11_method_39_code 6 = .ok (.invokevirtual 205, 3) := by decide +kernel
theorem od_Mo_degree_9 : decode prog_11_method_39_code 9 = .ok (.ifCond .eq (18), 3) := by decide +kernel
theorem od_Mo_degree_12 : decode prog_11_method_39_code 12 = .ok (.aload_n 0, 1) := by decide +kernel
theorem od_Mo_degree_13 : decode prog_11_method_39_code 13 = .ok (.invokevirtual 228, 3) := by decide +kernel
theorem od_Mo_degree_16 : decode prog_11_method_39_code 16 = .ok (.ifCond .eq (11), 3) := by decide +kernel
theorem od_Mo_degree_19 : decode prog_11_method_39_code 19 = .ok (.aload_n 0, 1) := by decide +kernel
theorem od_Mo_degree_20 : decode prog_11_method_39_code 20 = .ok (.iload_n 1, 1) := by decide +kernel
theorem od_Mo_degree_21 : decode prog_11_method_39_code 21 = .ok (.invokevirtual 238, 3) := by decide +kernel
theorem od_Mo_degree_24 : decode prog_11_method_39_code 24 = .ok (.goto (4), 3) := by decide +kernel
theorem od_Mo_degree_27 : decode prog_11_method_39_code 27 = .ok (.iconst (-1), 1) := by decide +kernel
theorem od_Mo_degree_28 : decode prog_11_method_39_code 28 = .ok (.ireturn, 1) := by decide +kernel
theorem od_Mo_ascend_0 : decode prog_11_method_40_code 0 = .ok (.aload_n 0, 1) := by decide +kernel
theorem od_Mo_ascend_1 : decode prog_11_method_40_code 1 = .ok (.invokevirtual 232, 3) := by decide +kernel
theorem od_Mo_ascend_4 : decode prog_11_method_40_code 4 = .ok (.iload_n 1, 1) := by decide +kernel
theorem od_Mo_ascend_5 : decode prog_11_method_40_code 5 = .ok (.iconst 1, 1) := by decide +kernel
theorem od_Mo_ascend_6 : decode prog_11_method_40_code 6 = .ok (.if_icmp .lt (17), 3) := by decide +kernel
theorem od_Mo_ascend_9 : decode prog_11_method_40_code 9 = .ok (.iload_n 1, 1) := by decide +kernel
theorem od_Mo_ascend_10 : decode prog_11_method_40_code 10 = .ok (.sipush (1000), 3) := by decide +kernel
theorem od_Mo_ascend_13 : decode prog_11_method_40_code 13 = .ok (.if_icmp .gt (10), 3) := by decide +kernel
theorem od_Mo_ascend_16 : decode prog_11_method_40_code 16 = .ok (.aload_n 0, 1) := by decide +kernel
theorem od_Mo_ascend_17 : decode prog_11_method_40_code 17 = .ok (.invokevirtual 228, 3) := by decide +kernel
theorem od_Mo_ascend_20 : decode prog_11_method_40_code 20 = .ok (.ifCond .ne (5), 3) := by decide +kernel
theorem od_Mo_ascend_23 : decode prog_11_method_40_code 23 = .ok (.iconst (-1), 1) := by decide +kernel
theorem od_Mo_ascend_24 : decode prog_11_method_40_code 24 = .ok (.ireturn, 1) := by decide +kernel
theorem od_Mo_ascend_25 : decode prog_11_method_40_code 25 = .ok (.iconst 0, 1) := by decide +kernel
theorem od_Mo_ascend_26 : decode prog_11_method_40_code 26 = .ok (.istore_n 2, 1) := by decide +kernel
theorem od_Mo_ascend_27 : decode prog_11_method_40_code 27 = .ok (.iload_n 2, 1) := by decide +kernel
theorem od_Mo_ascend_28 : decode prog_11_method_40_code 28 = .ok (.aload_n 0, 1) := by decide +kernel
theorem od_Mo_ascend_29 : decode prog_11_method_40_code 29 = .ok (.getfield 187, 3) := by decide +kernel
theorem od_Mo_ascend_32 : decode prog_11_method_40_code 32 = .ok (.if_icmp .ge (40), 3) := by decide +kernel
theorem od_Mo_ascend_35 : decode prog_11_method_40_code 35 = .ok (.aload_n 0, 1) := by decide +kernel
theorem od_Mo_ascend_36 : decode prog_11_method_40_code 36 = .ok (.getfield 20, 3) := by decide +kernel
theorem od_Mo_ascend_39 : decode prog_11_method_40_code 39 = .ok (.iload_n 2, 1) := by decide +kernel
theorem od_Mo_ascend_40 : decode prog_11_method_40_code 40 = .ok (.iaload, 1) := by decide +kernel
theorem od_Mo_ascend_41 : decode prog_11_method_40_code 41 = .ok (.iload_n 1, 1) := by decide +kernel
theorem od_Mo_ascend_42 : decode prog_11_method_40_code 42 = .ok (.aload_n 0, 1) := by decide +kernel
theorem od_Mo_ascend_43 : decode prog_11_method_40_code 43 = .ok (.iload_n 2, 1) := by decide +kernel
theorem od_Mo_ascend_44 : decode prog_11_method_40_code 44 = .ok (.invokevirtual 238, 3) := by decide +kernel
theorem od_Mo_ascend_47 : decode prog_11_method_40_code 47 = .ok (.iconst 2, 1) := by decide +kernel
theorem od_Mo_ascend_48 : decode prog_11_method_40_code 48 = .ok (.isub, 1) := by decide +kernel
theorem od_Mo_ascend_49 : decode prog_11_method_40_code 49 = .ok (.imul, 1) := by decide +kernel
theorem od_Mo_ascend_50 : decode prog_11_method_40_code 50 = .ok (.iadd, 1) := by decide +kernel
theorem od_Mo_ascend_51 : decode prog_11_method_40_code 51 = .ok (.istore_n 3, 1) := by decide +kernel
theorem od_Mo_ascend_52 : decode prog_11_method_40_code 52 = .ok (.iload_n 3, 1) := by decide +kernel
theorem od_Mo_ascend_53 : decode prog_11_method_40_code 53 = .ok (.ldc 208, 2) := by decide +kernel
theorem od_Mo_ascend_55 : decode prog_11_method_40_code 55 = .ok (.if_icmp .lt (9), 3) := by decide +kernel
theorem od_Mo_ascend_58 : decode prog_11_method_40_code 58 = .ok (.iload_n 3, 1) := by decide +kernel
theorem od_Mo_ascend_59 : decode prog_11_method_40_code 59 = .ok (.ldc 209, 2) := by decide +kernel
theorem od_Mo_ascend_61 : decode prog_11_method_40_code 61 = .ok (.if_icmp .le (5), 3) := by decide +kernel
theorem od_Mo_ascend_64 : decode prog_11_method_40_code 64 = .ok (.iconst (-1), 1) := by decide +kernel
theorem od_Mo_ascend_65 : decode prog_11_method_40_code 65 = .ok (.ireturn, 1) := by decide +kernel
theorem od_Mo_ascend_66 : decode prog_11_method_40_code 66 = .ok (.iinc 2 (1), 3) := by decide +kernel
theorem od_Mo_ascend_69 : decode prog_11_method_40_code 69 = .ok (.goto (-42), 3) := by decide +kernel
theorem od_Mo_ascend_72 : decode prog_11_method_40_code 72 = .ok (.iconst 0, 1) := by decide +kernel
theorem od_Mo_ascend_73 : decode prog_11_method_40_code 73 = .ok (.istore_n 2, 1) := by decide +kernel
theorem od_Mo_ascend_74 : decode prog_11_method_40_code 74 = .ok (.iload_n 2, 1) := by decide +kernel
theorem od_Mo_ascend_75 : decode prog_11_method_40_code 75 = .ok (.aload_n 0, 1) := by decide +kernel
theorem od_Mo_ascend_76 : decode prog_11_method_40_code 76 = .ok (.getfield 187, 3) := by decide +kernel
theorem od_Mo_ascend_79 : decode prog_11_method_40_code 79 = .ok (.if_icmp .ge (27), 3) := by decide +kernel
theorem od_Mo_ascend_82 : decode prog_11_method_40_code 82 = .ok (.aload_n 0, 1) := by decide +kernel
theorem od_Mo_ascend_83 : decode prog_11_method_40_code 83 = .ok (.getfield 20, 3) := by decide +kernel
theorem od_Mo_ascend_86 : decode prog_11_method_40_code 86 = .ok (.iload_n 2, 1) := by decide +kernel
theorem od_Mo_ascend_87 : decode prog_11_method_40_code 87 = .ok (.dup2, 1) := by decide +kernel
theorem od_Mo_ascend_88 : decode prog_11_method_40_code 88 = .ok (.iaload, 1) := by decide +kernel
theorem od_Mo_ascend_89 : decode prog_11_method_40_code 89 = .ok (.iload_n 1, 1) := by decide +kernel
theorem od_Mo_ascend_90 : decode prog_11_method_40_code 90 = .ok (.aload_n 0, 1) := by decide +kernel
theorem od_Mo_ascend_91 : decode prog_11_method_40_code 91 = .ok (.iload_n 2, 1) := by decide +kernel
theorem od_Mo_ascend_92 : decode prog_11_method_40_code 92 = .ok (.invokevirtual 238, 3) := by decide +kernel
theorem od_Mo_ascend_95 : decode prog_11_method_40_code 95 = .ok (.iconst 2, 1) := by decide +kernel
theorem od_Mo_ascend_96 : decode prog_11_method_40_code 96 = .ok (.isub, 1) := by decide +kernel
theorem od_Mo_ascend_97 : decode prog_11_method_40_code 97 = .ok (.imul, 1) := by decide +kernel
theorem od_Mo_ascend_98 : decode prog_11_method_40_code 98 = .ok (.iadd, 1) := by decide +kernel
theorem od_Mo_ascend_99 : decode prog_11_method_40_code 99 = .ok (.iastore, 1) := by decide +kernel
theorem od_Mo_ascend_100 : decode prog_11_method_40_code 100 = .ok (.iinc 2 (1), 3) := by decide +kernel
theorem od_Mo_ascend_103 : decode prog_11_method_40_code 103 = .ok (.goto (-29), 3) := by decide +kernel
theorem od_Mo_ascend_106 : decode prog_11_method_40_code 106 = .ok (.aload_n 0, 1) := by decide +kernel
theorem od_Mo_ascend_107 : decode prog_11_method_40_code 107 = .ok (.invokevirtual 235, 3) := by decide +kernel
theorem od_Mo_ascend_110 : decode prog_11_method_40_code 110 = .ok (.ireturn, 1) := by decide +kernel
theorem od_Mo_firstTour_0 : decode prog_11_method_41_code 0 = .ok (.iconst 0, 1) := by decide +kernel
theorem od_Mo_firstTour_1 : decode prog_11_method_41_code 1 = .ok (.istore_n 1, 1) := by decide +kernel
theorem od_Mo_firstTour_2 : decode prog_11_method_41_code 2 = .ok (.iload_n 1, 1) := by decide +kernel
theorem od_Mo_firstTour_3 : decode prog_11_method_41_code 3 = .ok (.aload_n 0, 1) := by decide +kernel
theorem od_Mo_firstTour_4 : decode prog_11_method_41_code 4 = .ok (.getfield 187, 3) := by decide +kernel
theorem od_Mo_firstTour_7 : decode prog_11_method_41_code 7 = .ok (.if_icmp .ge (16), 3) := by decide +kernel
theorem od_Mo_firstTour_10 : decode prog_11_method_41_code 10 = .ok (.aload_n 0, 1) := by decide +kernel
theorem od_Mo_firstTour_11 : decode prog_11_method_41_code 11 = .ok (.getfield 51, 3) := by decide +kernel
theorem od_Mo_firstTour_14 : decode prog_11_method_41_code 14 = .ok (.iload_n 1, 1) := by decide +kernel
theorem od_Mo_firstTour_15 : decode prog_11_method_41_code 15 = .ok (.iload_n 1, 1) := by decide +kernel
theorem od_Mo_firstTour_16 : decode prog_11_method_41_code 16 = .ok (.iastore, 1) := by decide +kernel
theorem od_Mo_firstTour_17 : decode prog_11_method_41_code 17 = .ok (.iinc 1 (1), 3) := by decide +kernel
theorem od_Mo_firstTour_20 : decode prog_11_method_41_code 20 = .ok (.goto (-18), 3) := by decide +kernel
theorem od_Mo_firstTour_23 : decode prog_11_method_41_code 23 = .ok (.return_, 1) := by decide +kernel
theorem od_Mo_next_0 : decode prog_11_method_44_code 0 = .ok (.aload_n 0, 1) := by decide +kernel
theorem od_Mo_next_1 : decode prog_11_method_44_code 1 = .ok (.getfield 51, 3) := by decide +kernel
theorem od_Mo_next_4 : decode prog_11_method_44_code 4 = .ok (.iload_n 1, 1) := by decide +kernel
theorem od_Mo_next_5 : decode prog_11_method_44_code 5 = .ok (.iconst 1, 1) := by decide +kernel
theorem od_Mo_next_6 : decode prog_11_method_44_code 6 = .ok (.iadd, 1) := by decide +kernel
theorem od_Mo_next_7 : decode prog_11_method_44_code 7 = .ok (.aload_n 0, 1) := by decide +kernel
theorem od_Mo_next_8 : decode prog_11_method_44_code 8 = .ok (.getfield 187, 3) := by decide +kernel
theorem od_Mo_next_11 : decode prog_11_method_44_code 11 = .ok (.if_icmp .ne (7), 3) := by decide +kernel
theorem od_Mo_next_14 : decode prog_11_method_44_code 14 = .ok (.iconst 0, 1) := by decide +kernel
theorem od_Mo_next_15 : decode prog_11_method_44_code 15 = .ok (.goto (6), 3) := by decide +kernel
theorem od_Mo_next_18 : decode prog_11_method_44_code 18 = .ok (.iload_n 1, 1) := by decide +kernel
theorem od_Mo_next_19 : decode prog_11_method_44_code 19 = .ok (.iconst 1, 1) := by decide +kernel
theorem od_Mo_next_20 : decode prog_11_method_44_code 20 = .ok (.iadd, 1) := by decide +kernel
theorem od_Mo_next_21 : decode prog_11_method_44_code 21 = .ok (.iaload, 1) := by decide +kernel
theorem od_Mo_next_22 : decode prog_11_method_44_code 22 = .ok (.ireturn, 1) := by decide +kernel
theorem od_Mo_has_0 : decode prog_11_method_46_code 0 = .ok (.iconst 0, 1) := by decide +kernel
theorem od_Mo_has_1 : decode prog_11_method_46_code 1 = .ok (.istore_n 3, 1) := by decide +kernel
theorem od_Mo_has_2 : decode prog_11_method_46_code 2 = .ok (.iconst 0, 1) := by decide +kernel
theorem od_Mo_has_3 : decode prog_11_method_46_code 3 = .ok (.istore 4, 2) := by decide +kernel
theorem od_Mo_has_5 : decode prog_11_method_46_code 5 = .ok (.iload 4, 2) := by decide +kernel
theorem od_Mo_has_7 : decode prog_11_method_46_code 7 = .ok (.aload_n 0, 1) := by decide +kernel
theorem od_Mo_has_8 : decode prog_11_method_46_code 8 = .ok (.getfield 187, 3) := by decide +kernel
theorem od_Mo_has_11 : decode prog_11_method_46_code 11 = .ok (.if_icmp .ge (61), 3) := by decide +kernel
theorem od_Mo_has_14 : decode prog_11_method_46_code 14 = .ok (.aload_n 0, 1) := by decide +kernel
theorem od_Mo_has_15 : decode prog_11_method_46_code 15 = .ok (.iload 4, 2) := by decide +kernel
theorem od_Mo_has_17 : decode prog_11_method_46_code 17 = .ok (.invokevirtual 245, 3) := by decide +kernel
theorem od_Mo_has_20 : decode prog_11_method_46_code 20 = .ok (.istore 5, 2) := by decide +kernel
theorem od_Mo_has_22 : decode prog_11_method_46_code 22 = .ok (.iload_n 3, 1) := by decide +kernel
theorem od_Mo_has_23 : decode prog_11_method_46_code 23 = .ok (.ifCond .ne (37), 3) := by decide +kernel
theorem od_Mo_has_26 : decode prog_11_method_46_code 26 = .ok (.aload_n 0, 1) := by decide +kernel
theorem od_Mo_has_27 : decode prog_11_method_46_code 27 = .ok (.getfield 51, 3) := by decide +kernel
theorem od_Mo_has_30 : decode prog_11_method_46_code 30 = .ok (.iload 4, 2) := by decide +kernel
theorem od_Mo_has_32 : decode prog_11_method_46_code 32 = .ok (.iaload, 1) := by decide +kernel
theorem od_Mo_has_33 : decode prog_11_method_46_code 33 = .ok (.iload_n 1, 1) := by decide +kernel
theorem od_Mo_has_34 : decode prog_11_method_46_code 34 = .ok (.if_icmp .ne (9), 3) := by decide +kernel
theorem od_Mo_has_37 : decode prog_11_method_46_code 37 = .ok (.iload 5, 2) := by decide +kernel
theorem od_Mo_has_39 : decode prog_11_method_46_code 39 = .ok (.iload_n 2, 1) := by decide +kernel
theorem od_Mo_has_40 : decode prog_11_method_46_code 40 = .ok (.if_icmp .eq (20), 3) := by decide +kernel
theorem od_Mo_has_43 : decode prog_11_method_46_code 43 = .ok (.aload_n 0, 1) := by decide +kernel
theorem od_Mo_has_44 : decode prog_11_method_46_code 44 = .ok (.getfield 51, 3) := by decide +kernel
theorem od_Mo_has_47 : decode prog_11_method_46_code 47 = .ok (.iload 4, 2) := by decide +kernel
theorem od_Mo_has_49 : decode prog_11_method_46_code 49 = .ok (.iaload, 1) := by decide +kernel
theorem od_Mo_has_50 : decode prog_11_method_46_code 50 = .ok (.iload_n 2, 1) := by decide +kernel
theorem od_Mo_has_51 : decode prog_11_method_46_code 51 = .ok (.if_icmp .ne (13), 3) := by decide +kernel
theorem od_Mo_has_54 : decode prog_11_method_46_code 54 = .ok (.iload 5, 2) := by decide +kernel
theorem od_Mo_has_56 : decode prog_11_method_46_code 56 = .ok (.iload_n 1, 1) := by decide +kernel
theorem od_Mo_has_57 : decode prog_11_method_46_code 57 = .ok (.if_icmp .ne (7), 3) := by decide +kernel
theorem od_Mo_has_60 : decode prog_11_method_46_code 60 = .ok (.iconst 1, 1) := by decide +kernel
theorem od_Mo_has_61 : decode prog_11_method_46_code 61 = .ok (.goto (4), 3) := by decide +kernel
theorem od_Mo_has_64 : decode prog_11_method_46_code 64 = .ok (.iconst 0, 1) := by decide +kernel
theorem od_Mo_has_65 : decode prog_11_method_46_code 65 = .ok (.istore_n 3, 1) := by decide +kernel
theorem od_Mo_has_66 : decode prog_11_method_46_code 66 = .ok (.iinc 4 (1), 3) := by decide +kernel
theorem od_Mo_has_69 : decode prog_11_method_46_code 69 = .ok (.goto (-64), 3) := by decide +kernel
theorem od_Mo_has_72 : decode prog_11_method_46_code 72 = .ok (.iload_n 3, 1) := by decide +kernel
theorem od_Mo_has_73 : decode prog_11_method_46_code 73 = .ok (.ireturn, 1) := by decide +kernel
theorem od_Mo_allowed_0 : decode prog_11_method_47_code 0 = .ok (.aload_n 0, 1) := by decide +kernel
theorem od_Mo_allowed_1 : decode prog_11_method_47_code 1 = .ok (.getfield 51, 3) := by decide +kernel
theorem od_Mo_allowed_4 : decode prog_11_method_47_code 4 = .ok (.iconst 1, 1) := by decide +kernel
theorem od_Mo_allowed_5 : decode prog_11_method_47_code 5 = .ok (.iaload, 1) := by decide +kernel
theorem od_Mo_allowed_6 : decode prog_11_method_47_code 6 = .ok (.aload_n 0, 1) := by decide +kernel
theorem od_Mo_allowed_7 : decode prog_11_method_47_code 7 = .ok (.getfield 51, 3) := by decide +kernel
theorem od_Mo_allowed_10 : decode prog_11_method_47_code 10 = .ok (.aload_n 0, 1) := by decide +kernel
theorem od_Mo_allowed_11 : decode prog_11_method_47_code 11 = .ok (.getfield 187, 3) := by decide +kernel
theorem od_Mo_allowed_14 : decode prog_11_method_47_code 14 = .ok (.iconst 1, 1) := by decide +kernel
theorem od_Mo_allowed_15 : decode prog_11_method_47_code 15 = .ok (.isub, 1) := by decide +kernel
theorem od_Mo_allowed_16 : decode prog_11_method_47_code 16 = .ok (.iaload, 1) := by decide +kernel
theorem od_Mo_allowed_17 : decode prog_11_method_47_code 17 = .ok (.if_icmp .ge (7), 3) := by decide +kernel
theorem od_Mo_allowed_20 : decode prog_11_method_47_code 20 = .ok (.iconst 1, 1) := by decide +kernel
theorem od_Mo_allowed_21 : decode prog_11_method_47_code 21 = .ok (.goto (4), 3) := by decide +kernel
theorem od_Mo_allowed_24 : decode prog_11_method_47_code 24 = .ok (.iconst 0, 1) := by decide +kernel
theorem od_Mo_allowed_25 : decode prog_11_method_47_code 25 = .ok (.istore_n 1, 1) := by decide +kernel
theorem od_Mo_allowed_26 : decode prog_11_method_47_code 26 = .ok (.iconst 0, 1) := by decide +kernel
theorem od_Mo_allowed_27 : decode prog_11_method_47_code 27 = .ok (.istore_n 2, 1) := by decide +kernel
theorem od_Mo_allowed_28 : decode prog_11_method_47_code 28 = .ok (.iload_n 2, 1) := by decide +kernel
theorem od_Mo_allowed_29 : decode prog_11_method_47_code 29 = .ok (.aload_n 0, 1) := by decide +kernel
theorem od_Mo_allowed_30 : decode prog_11_method_47_code 30 = .ok (.getfield 187, 3) := by decide +kernel
theorem od_Mo_allowed_33 : decode prog_11_method_47_code 33 = .ok (.if_icmp .ge (88), 3) := by decide +kernel
theorem od_Mo_allowed_36 : decode prog_11_method_47_code 36 = .ok (.iload_n 1, 1) := by decide +kernel
theorem od_Mo_allowed_37 : decode prog_11_method_47_code 37 = .ok (.ifCond .eq (84), 3) := by decide +kernel
theorem od_Mo_allowed_40 : decode prog_11_method_47_code 40 = .ok (.iload_n 2, 1) := by decide +kernel
theorem od_Mo_allowed_41 : decode prog_11_method_47_code 41 = .ok (.iconst 1, 1) := by decide +kernel
theorem od_Mo_allowed_42 : decode prog_11_method_47_code 42 = .ok (.iadd, 1) := by decide +kernel
theorem od_Mo_allowed_43 : decode prog_11_method_47_code 43 = .ok (.istore_n 3, 1) := by decide +kernel
theorem od_Mo_allowed_44 : decode prog_11_method_47_code 44 = .ok (.iload_n 3, 1) := by decide +kernel
theorem od_Mo_allowed_45 : decode prog_11_method_47_code 45 = .ok (.aload_n 0, 1) := by decide +kernel
theorem od_Mo_allowed_46 : decode prog_11_method_47_code 46 = .ok (.getfield 187, 3) := by decide +kernel
theorem od_Mo_allowed_49 : decode prog_11_method_47_code 49 = .ok (.if_icmp .ge (66), 3) := by decide +kernel
theorem od_Mo_allowed_52 : decode prog_11_method_47_code 52 = .ok (.iload_n 1, 1) := by decide +kernel
theorem od_Mo_allowed_53 : decode prog_11_method_47_code 53 = .ok (.ifCond .eq (62), 3) := by decide +kernel
theorem od_Mo_allowed_56 : decode prog_11_method_47_code 56 = .ok (.aload_n 0, 1) := by decide +kernel
theorem od_Mo_allowed_57 : decode prog_11_method_47_code 57 = .ok (.iload_n 2, 1) := by decide +kernel
theorem od_Mo_allowed_58 : decode prog_11_method_47_code 58 = .ok (.iload_n 3, 1) := by decide +kernel
theorem od_Mo_allowed_59 : decode prog_11_method_47_code 59 = .ok (.invokevirtual 248, 3) := by decide +kernel
theorem od_Mo_allowed_62 : decode prog_11_method_47_code 62 = .ok (.istore 4, 2) := by decide +kernel
theorem od_Mo_allowed_64 : decode prog_11_method_47_code 64 = .ok (.aload_n 0, 1) := by decide +kernel
theorem od_Mo_allowed_65 : decode prog_11_method_47_code 65 = .ok (.getfield 17, 3) := by decide +kernel
theorem od_Mo_allowed_68 : decode prog_11_method_47_code 68 = .ok (.bipush (8), 2) := by decide +kernel
theorem od_Mo_allowed_70 : decode prog_11_method_47_code 70 = .ok (.iload_n 2, 1) := by decide +kernel
theorem od_Mo_allowed_71 : decode prog_11_method_47_code 71 = .ok (.imul, 1) := by decide +kernel
theorem od_Mo_allowed_72 : decode prog_11_method_47_code 72 = .ok (.iload_n 3, 1) := by decide +kernel
theorem od_Mo_allowed_73 : decode prog_11_method_47_code 73 = .ok (.iadd, 1) := by decide +kernel
theorem od_Mo_allowed_74 : decode prog_11_method_47_code 74 = .ok (.iaload, 1) := by decide +kernel
theorem od_Mo_allowed_75 : decode prog_11_method_47_code 75 = .ok (.ifCond .eq (28), 3) := by decide +kernel
theorem od_Mo_allowed_78 : decode prog_11_method_47_code 78 = .ok (.aload_n 0, 1) := by decide +kernel
theorem od_Mo_allowed_79 : decode prog_11_method_47_code 79 = .ok (.getfield 17, 3) := by decide +kernel
theorem od_Mo_allowed_82 : decode prog_11_method_47_code 82 = .ok (.bipush (8), 2) := by decide +kernel
theorem od_Mo_allowed_84 : decode prog_11_method_47_code 84 = .ok (.iload_n 2, 1) := by decide +kernel
theorem od_Mo_allowed_85 : decode prog_11_method_47_code 85 = .ok (.imul, 1) := by decide +kernel
theorem od_Mo_allowed_86 : decode prog_11_method_47_code 86 = .ok (.iload_n 3, 1) := by decide +kernel
theorem od_Mo_allowed_87 : decode prog_11_method_47_code 87 = .ok (.iadd, 1) := by decide +kernel
theorem od_Mo_allowed_88 : decode prog_11_method_47_code 88 = .ok (.iaload, 1) := by decide +kernel
theorem od_Mo_allowed_89 : decode prog_11_method_47_code 89 = .ok (.iconst 1, 1) := by decide +kernel
theorem od_Mo_allowed_90 : decode prog_11_method_47_code 90 = .ok (.if_icmp .ne (7), 3) := by decide +kernel
theorem od_Mo_allowed_93 : decode prog_11_method_47_code 93 = .ok (.iconst 1, 1) := by decide +kernel
theorem od_Mo_allowed_94 : decode prog_11_method_47_code 94 = .ok (.goto (4), 3) := by decide +kernel
theorem od_Mo_allowed_97 : decode prog_11_method_47_code 97 = .ok (.iconst 0, 1) := by decide +kernel
theorem od_Mo_allowed_98 : decode prog_11_method_47_code 98 = .ok (.iload 4, 2) := by decide +kernel
theorem od_Mo_allowed_100 : decode prog_11_method_47_code 100 = .ok (.if_icmp .ne (7), 3) := by decide +kernel
theorem od_Mo_allowed_103 : decode prog_11_method_47_code 103 = .ok (.iconst 1, 1) := by decide +kernel
theorem od_Mo_allowed_104 : decode prog_11_method_47_code 104 = .ok (.goto (4), 3) := by decide +kernel
theorem od_Mo_allowed_107 : decode prog_11_method_47_code 107 = .ok (.iconst 0, 1) := by decide +kernel
theorem od_Mo_allowed_108 : decode prog_11_method_47_code 108 = .ok (.istore_n 1, 1) := by decide +kernel
theorem od_Mo_allowed_109 : decode prog_11_method_47_code 109 = .ok (.iinc 3 (1), 3) := by decide +kernel
theorem od_Mo_allowed_112 : decode prog_11_method_47_code 112 = .ok (.goto (-68), 3) := by decide +kernel
theorem od_Mo_allowed_115 : decode prog_11_method_47_code 115 = .ok (.iinc 2 (1), 3) := by decide +kernel
theorem od_Mo_allowed_118 : decode prog_11_method_47_code 118 = .ok (.goto (-90), 3) := by decide +kernel
theorem od_Mo_allowed_121 : decode prog_11_method_47_code 121 = .ok (.iload_n 1, 1) := by decide +kernel
theorem od_Mo_allowed_122 : decode prog_11_method_47_code 122 = .ok (.ireturn, 1) := by decide +kernel
theorem od_Mo_turn_0 : decode prog_11_method_43_code 0 = .ok (.iload_n 1, 1) := by decide +kernel
theorem od_Mo_turn_1 : decode prog_11_method_43_code 1 = .ok (.istore_n 3, 1) := by decide +kernel
theorem od_Mo_turn_2 : decode prog_11_method_43_code 2 = .ok (.iconst 2, 1) := by decide +kernel
theorem od_Mo_turn_3 : decode prog_11_method_43_code 3 = .ok (.iload_n 3, 1) := by decide +kernel
theorem od_Mo_turn_4 : decode prog_11_method_43_code 4 = .ok (.imul, 1) := by decide +kernel
theorem od_Mo_turn_5 : decode prog_11_method_43_code 5 = .ok (.iload_n 1, 1) := by decide +kernel
theorem od_Mo_turn_6 : decode prog_11_method_43_code 6 = .ok (.iload_n 2, 1) := by decide +kernel
theorem od_Mo_turn_7 : decode prog_11_method_43_code 7 = .ok (.iadd, 1) := by decide +kernel
theorem od_Mo_turn_8 : decode prog_11_method_43_code 8 = .ok (.if_icmp .ge (46), 3) := by decide +kernel
theorem od_Mo_turn_11 : decode prog_11_method_43_code 11 = .ok (.iload_n 1, 1) := by decide +kernel
theorem od_Mo_turn_12 : decode prog_11_method_43_code 12 = .ok (.iload_n 2, 1) := by decide +kernel
theorem od_Mo_turn_13 : decode prog_11_method_43_code 13 = .ok (.iadd, 1) := by decide +kernel
theorem od_Mo_turn_14 : decode prog_11_method_43_code 14 = .ok (.iload_n 3, 1) := by decide +kernel
theorem od_Mo_turn_15 : decode prog_11_method_43_code 15 = .ok (.isub, 1) := by decide +kernel
theorem od_Mo_turn_16 : decode prog_11_method_43_code 16 = .ok (.istore 4, 2) := by decide +kernel
theorem od_Mo_turn_18 : decode prog_11_method_43_code 18 = .ok (.aload_n 0, 1) := by decide +kernel
theorem od_Mo_turn_19 : decode prog_11_method_43_code 19 = .ok (.getfield 51, 3) := by decide +kernel
theorem od_Mo_turn_22 : decode prog_11_method_43_code 22 = .ok (.iload_n 3, 1) := by decide +kernel
theorem od_Mo_turn_23 : decode prog_11_method_43_code 23 = .ok (.iaload, 1) := by decide +kernel
theorem od_Mo_turn_24 : decode prog_11_method_43_code 24 = .ok (.istore 5, 2) := by decide +kernel
theorem od_Mo_turn_26 : decode prog_11_method_43_code 26 = .ok (.aload_n 0, 1) := by decide +kernel
theorem od_Mo_turn_27 : decode prog_11_method_43_code 27 = .ok (.getfield 51, 3) := by decide +kernel
theorem od_Mo_turn_30 : decode prog_11_method_43_code 30 = .ok (.iload_n 3, 1) := by decide +kernel
theorem od_Mo_turn_31 : decode prog_11_method_43_code 31 = .ok (.aload_n 0, 1) := by decide +kernel
theorem od_Mo_turn_32 : decode prog_11_method_43_code 32 = .ok (.getfield 51, 3) := by decide +kernel
theorem od_Mo_turn_35 : decode prog_11_method_43_code 35 = .ok (.iload 4, 2) := by decide +kernel
theorem od_Mo_turn_37 : decode prog_11_method_43_code 37 = .ok (.iaload, 1) := by decide +kernel
theorem od_Mo_turn_38 : decode prog_11_method_43_code 38 = .ok (.iastore, 1) := by decide +kernel
theorem od_Mo_turn_39 : decode prog_11_method_43_code 39 = .ok (.aload_n 0, 1) := by decide +kernel
theorem od_Mo_turn_40 : decode prog_11_method_43_code 40 = .ok (.getfield 51, 3) := by decide +kernel
theorem od_Mo_turn_43 : decode prog_11_method_43_code 43 = .ok (.iload 4, 2) := by decide +kernel
theorem od_Mo_turn_45 : decode prog_11_method_43_code 45 = .ok (.iload 5, 2) := by decide +kernel
theorem od_Mo_turn_47 : decode prog_11_method_43_code 47 = .ok (.iastore, 1) := by decide +kernel
theorem od_Mo_turn_48 : decode prog_11_method_43_code 48 = .ok (.iinc 3 (1), 3) := by decide +kernel
theorem od_Mo_turn_51 : decode prog_11_method_43_code 51 = .ok (.goto (-49), 3) := by decide +kernel
theorem od_Mo_turn_54 : decode prog_11_method_43_code 54 = .ok (.return_, 1) := by decide +kernel
theorem od_Mo_nextTour_0 : decode prog_11_method_42_code 0 = .ok (.aload_n 0, 1) := by decide +kernel
theorem od_Mo_nextTour_1 : decode prog_11_method_42_code 1 = .ok (.getfield 187, 3) := by decide +kernel
theorem od_Mo_nextTour_4 : decode prog_11_method_42_code 4 = .ok (.iconst 2, 1) := by decide +kernel
theorem od_Mo_nextTour_5 : decode prog_11_method_42_code 5 = .ok (.isub, 1) := by decide +kernel
theorem od_Mo_nextTour_6 : decode prog_11_method_42_code 6 = .ok (.istore_n 1, 1) := by decide +kernel
theorem od_Mo_nextTour_7 : decode prog_11_method_42_code 7 = .ok (.iload_n 1, 1) := by decide +kernel
theorem od_Mo_nextTour_8 : decode prog_11_method_42_code 8 = .ok (.ifCond .le (26), 3) := by decide +kernel
theorem od_Mo_nextTour_11 : decode prog_11_method_42_code 11 = .ok (.aload_n 0, 1) := by decide +kernel
theorem od_Mo_nextTour_12 : decode prog_11_method_42_code 12 = .ok (.getfield 51, 3) := by decide +kernel
theorem od_Mo_nextTour_15 : decode prog_11_method_42_code 15 = .ok (.iload_n 1, 1) := by decide +kernel
theorem od_Mo_nextTour_16 : decode prog_11_method_42_code 16 = .ok (.iaload, 1) := by decide +kernel
theorem od_Mo_nextTour_17 : decode prog_11_method_42_code 17 = .ok (.aload_n 0, 1) := by decide +kernel
theorem od_Mo_nextTour_18 : decode prog_11_method_42_code 18 = .ok (.getfield 51, 3) := by decide +kernel
theorem od_Mo_nextTour_21 : decode prog_11_method_42_code 21 = .ok (.iload_n 1, 1) := by decide +kernel
theorem od_Mo_nextTour_22 : decode prog_11_method_42_code 22 = .ok (.iconst 1, 1) := by decide +kernel
theorem od_Mo_nextTour_23 : decode prog_11_method_42_code 23 = .ok (.iadd, 1) := by decide +kernel
theorem od_Mo_nextTour_24 : decode prog_11_method_42_code 24 = .ok (.iaload, 1) := by decide +kernel
theorem od_Mo_nextTour_25 : decode prog_11_method_42_code 25 = .ok (.if_icmp .le (9), 3) := by decide +kernel
theorem od_Mo_nextTour_28 : decode prog_11_method_42_code 28 = .ok (.iinc 1 (-1), 3) := by decide +kernel
theorem od_Mo_nextTour_31 : decode prog_11_method_42_code 31 = .ok (.goto (-24), 3) := by decide +kernel
theorem od_Mo_nextTour_34 : decode prog_11_method_42_code 34 = .ok (.iload_n 1, 1) := by decide +kernel
theorem od_Mo_nextTour_35 : decode prog_11_method_42_code 35 = .ok (.ifCond .gt (5), 3) := by decide +kernel
theorem od_Mo_nextTour_38 : decode prog_11_method_42_code 38 = .ok (.iconst 0, 1) := by decide +kernel
theorem od_Mo_nextTour_39 : decode prog_11_method_42_code 39 = .ok (.ireturn, 1) := by decide +kernel
theorem od_Mo_nextTour_40 : decode prog_11_method_42_code 40 = .ok (.aload_n 0, 1) := by decide +kernel
theorem od_Mo_nextTour_41 : decode prog_11_method_42_code 41 = .ok (.getfield 187, 3) := by decide +kernel
theorem od_Mo_nextTour_44 : decode prog_11_method_42_code 44 = .ok (.iconst 1, 1) := by decide +kernel
theorem od_Mo_nextTour_45 : decode prog_11_method_42_code 45 = .ok (.isub, 1) := by decide +kernel
theorem od_Mo_nextTour_46 : decode prog_11_method_42_code 46 = .ok (.istore_n 2, 1) := by decide +kernel
theorem od_Mo_nextTour_47 : decode prog_11_method_42_code 47 = .ok (.aload_n 0, 1) := by decide +kernel
theorem od_Mo_nextTour_48 : decode prog_11_method_42_code 48 = .ok (.getfield 51, 3) := by decide +kernel
theorem od_Mo_nextTour_51 : decode prog_11_method_42_code 51 = .ok (.iload_n 2, 1) := by decide +kernel
theorem od_Mo_nextTour_52 : decode prog_11_method_42_code 52 = .ok (.iaload, 1) := by decide +kernel
theorem od_Mo_nextTour_53 : decode prog_11_method_42_code 53 = .ok (.aload_n 0, 1) := by decide +kernel
theorem od_Mo_nextTour_54 : decode prog_11_method_42_code 54 = .ok (.getfield 51, 3) := by decide +kernel
theorem od_Mo_nextTour_57 : decode prog_11_method_42_code 57 = .ok (.iload_n 1, 1) := by decide +kernel
theorem od_Mo_nextTour_58 : decode prog_11_method_42_code 58 = .ok (.iaload, 1) := by decide +kernel
theorem od_Mo_nextTour_59 : decode prog_11_method_42_code 59 = .ok (.if_icmp .ge (9), 3) := by decide +kernel
theorem od_Mo_nextTour_62 : decode prog_11_method_42_code 62 = .ok (.iinc 2 (-1), 3) := by decide +kernel
theorem od_Mo_nextTour_65 : decode prog_11_method_42_code 65 = .ok (.goto (-18), 3) := by decide +kernel
theorem od_Mo_nextTour_68 : decode prog_11_method_42_code 68 = .ok (.aload_n 0, 1) := by decide +kernel
theorem od_Mo_nextTour_69 : decode prog_11_method_42_code 69 = .ok (.getfield 51, 3) := by decide +kernel
theorem od_Mo_nextTour_72 : decode prog_11_method_42_code 72 = .ok (.iload_n 1, 1) := by decide +kernel
theorem od_Mo_nextTour_73 : decode prog_11_method_42_code 73 = .ok (.iaload, 1) := by decide +kernel
theorem od_Mo_nextTour_74 : decode prog_11_method_42_code 74 = .ok (.istore_n 3, 1) := by decide +kernel
theorem od_Mo_nextTour_75 : decode prog_11_method_42_code 75 = .ok (.aload_n 0, 1) := by decide +kernel
theorem od_Mo_nextTour_76 : decode prog_11_method_42_code 76 = .ok (.getfield 51, 3) := by decide +kernel
theorem od_Mo_nextTour_79 : decode prog_11_method_42_code 79 = .ok (.iload_n 1, 1) := by decide +kernel
theorem od_Mo_nextTour_80 : decode prog_11_method_42_code 80 = .ok (.aload_n 0, 1) := by decide +kernel
theorem od_Mo_nextTour_81 : decode prog_11_method_42_code 81 = .ok (.getfield 51, 3) := by decide +kernel
theorem od_Mo_nextTour_84 : decode prog_11_method_42_code 84 = .ok (.iload_n 2, 1) := by decide +kernel
theorem od_Mo_nextTour_85 : decode prog_11_method_42_code 85 = .ok (.iaload, 1) := by decide +kernel
theorem od_Mo_nextTour_86 : decode prog_11_method_42_code 86 = .ok (.iastore, 1) := by decide +kernel
theorem od_Mo_nextTour_87 : decode prog_11_method_42_code 87 = .ok (.aload_n 0, 1) := by decide +kernel
theorem od_Mo_nextTour_88 : decode prog_11_method_42_code 88 = .ok (.getfield 51, 3) := by decide +kernel
theorem od_Mo_nextTour_91 : decode prog_11_method_42_code 91 = .ok (.iload_n 2, 1) := by decide +kernel
theorem od_Mo_nextTour_92 : decode prog_11_method_42_code 92 = .ok (.iload_n 3, 1) := by decide +kernel
theorem od_Mo_nextTour_93 : decode prog_11_method_42_code 93 = .ok (.iastore, 1) := by decide +kernel
theorem od_Mo_nextTour_94 : decode prog_11_method_42_code 94 = .ok (.aload_n 0, 1) := by decide +kernel
theorem od_Mo_nextTour_95 : decode prog_11_method_42_code 95 = .ok (.iload_n 1, 1) := by decide +kernel
theorem od_Mo_nextTour_96 : decode prog_11_method_42_code 96 = .ok (.iconst 1, 1) := by decide +kernel
theorem od_Mo_nextTour_97 : decode prog_11_method_42_code 97 = .ok (.iadd, 1) := by decide +kernel
theorem od_Mo_nextTour_98 : decode prog_11_method_42_code 98 = .ok (.aload_n 0, 1) := by decide +kernel
theorem od_Mo_nextTour_99 : decode prog_11_method_42_code 99 = .ok (.getfield 187, 3) := by decide +kernel
theorem od_Mo_nextTour_102 : decode prog_11_method_42_code 102 = .ok (.iconst 1, 1) := by decide +kernel
theorem od_Mo_nextTour_103 : decode prog_11_method_42_code 103 = .ok (.isub, 1) := by decide +kernel
theorem od_Mo_nextTour_104 : decode prog_11_method_42_code 104 = .ok (.invokevirtual 241, 3) := by decide +kernel
theorem od_Mo_nextTour_107 : decode prog_11_method_42_code 107 = .ok (.iconst 1, 1) := by decide +kernel
theorem od_Mo_nextTour_108 : decode prog_11_method_42_code 108 = .ok (.ireturn, 1) := by decide +kernel
theorem od_Mo_length_0 : decode prog_11_method_45_code 0 = .ok (.iconst 0, 1) := by decide +kernel
theorem od_Mo_length_1 : decode prog_11_method_45_code 1 = .ok (.istore_n 1, 1) := by decide +kernel
theorem od_Mo_length_2 : decode prog_11_method_45_code 2 = .ok (.iconst 0, 1) := by decide +kernel
theorem od_Mo_length_3 : decode prog_11_method_45_code 3 = .ok (.istore_n 2, 1) := by decide +kernel
theorem od_Mo_length_4 : decode prog_11_method_45_code 4 = .ok (.iload_n 2, 1) := by decide +kernel
theorem od_Mo_length_5 : decode prog_11_method_45_code 5 = .ok (.aload_n 0, 1) := by decide +kernel
theorem od_Mo_length_6 : decode prog_11_method_45_code 6 = .ok (.getfield 187, 3) := by decide +kernel
theorem od_Mo_length_9 : decode prog_11_method_45_code 9 = .ok (.if_icmp .ge (34), 3) := by decide +kernel
theorem od_Mo_length_12 : decode prog_11_method_45_code 12 = .ok (.aload_n 0, 1) := by decide +kernel
theorem od_Mo_length_13 : decode prog_11_method_45_code 13 = .ok (.iload_n 2, 1) := by decide +kernel
theorem od_Mo_length_14 : decode prog_11_method_45_code 14 = .ok (.invokevirtual 245, 3) := by decide +kernel
theorem od_Mo_length_17 : decode prog_11_method_45_code 17 = .ok (.istore_n 3, 1) := by decide +kernel
theorem od_Mo_length_18 : decode prog_11_method_45_code 18 = .ok (.iload_n 1, 1) := by decide +kernel
theorem od_Mo_length_19 : decode prog_11_method_45_code 19 = .ok (.aload_n 0, 1) := by decide +kernel
theorem od_Mo_length_20 : decode prog_11_method_45_code 20 = .ok (.getfield 13, 3) := by decide +kernel
theorem od_Mo_length_23 : decode prog_11_method_45_code 23 = .ok (.bipush (8), 2) := by decide +kernel
theorem od_Mo_length_25 : decode prog_11_method_45_code 25 = .ok (.aload_n 0, 1) := by decide +kernel
theorem od_Mo_length_26 : decode prog_11_method_45_code 26 = .ok (.getfield 51, 3) := by decide +kernel
theorem od_Mo_length_29 : decode prog_11_method_45_code 29 = .ok (.iload_n 2, 1) := by decide +kernel
theorem od_Mo_length_30 : decode prog_11_method_45_code 30 = .ok (.iaload, 1) := by decide +kernel
theorem od_Mo_length_31 : decode prog_11_method_45_code 31 = .ok (.imul, 1) := by decide +kernel
theorem od_Mo_length_32 : decode prog_11_method_45_code 32 = .ok (.iload_n 3, 1) := by decide +kernel
theorem od_Mo_length_33 : decode prog_11_method_45_code 33 = .ok (.iadd, 1) := by decide +kernel
theorem od_Mo_length_34 : decode prog_11_method_45_code 34 = .ok (.iaload, 1) := by decide +kernel
theorem od_Mo_length_35 : decode prog_11_method_45_code 35 = .ok (.iadd, 1) := by decide +kernel
theorem od_Mo_length_36 : decode prog_11_method_45_code 36 = .ok (.istore_n 1, 1) := by decide +kernel
theorem od_Mo_length_37 : decode prog_11_method_45_code 37 = .ok (.iinc 2 (1), 3) := by decide +kernel
theorem od_Mo_length_40 : decode prog_11_method_45_code 40 = .ok (.goto (-36), 3) := by decide +kernel
theorem od_Mo_length_43 : decode prog_11_method_45_code 43 = .ok (.iload_n 1, 1) := by decide +kernel
theorem od_Mo_length_44 : decode prog_11_method_45_code 44 = .ok (.ireturn, 1) := by decide +kernel
theorem od_Mo_keep_0 : decode prog_11_method_48_code 0 = .ok (.iconst 0, 1) := by decide +kernel
theorem od_Mo_keep_1 : decode prog_11_method_48_code 1 = .ok (.istore_n 1, 1) := by decide +kernel
theorem od_Mo_keep_2 : decode prog_11_method_48_code 2 = .ok (.iload_n 1, 1) := by decide +kernel
theorem od_Mo_keep_3 : decode prog_11_method_48_code 3 = .ok (.aload_n 0, 1) := by decide +kernel
theorem od_Mo_keep_4 : decode prog_11_method_48_code 4 = .ok (.getfield 187, 3) := by decide +kernel
theorem od_Mo_keep_7 : decode prog_11_method_48_code 7 = .ok (.if_icmp .ge (21), 3) := by decide +kernel
theorem od_Mo_keep_10 : decode prog_11_method_48_code 10 = .ok (.aload_n 0, 1) := by decide +kernel
theorem od_Mo_keep_11 : decode prog_11_method_48_code 11 = .ok (.getfield 23, 3) := by decide +kernel
theorem od_Mo_keep_14 : decode prog_11_method_48_code 14 = .ok (.iload_n 1, 1) := by decide +kernel
theorem od_Mo_keep_15 : decode prog_11_method_48_code 15 = .ok (.aload_n 0, 1) := by decide +kernel
theorem od_Mo_keep_16 : decode prog_11_method_48_code 16 = .ok (.getfield 51, 3) := by decide +kernel
theorem od_Mo_keep_19 : decode prog_11_method_48_code 19 = .ok (.iload_n 1, 1) := by decide +kernel
theorem od_Mo_keep_20 : decode prog_11_method_48_code 20 = .ok (.iaload, 1) := by decide +kernel
theorem od_Mo_keep_21 : decode prog_11_method_48_code 21 = .ok (.iastore, 1) := by decide +kernel
theorem od_Mo_keep_22 : decode prog_11_method_48_code 22 = .ok (.iinc 1 (1), 3) := by decide +kernel
theorem od_Mo_keep_25 : decode prog_11_method_48_code 25 = .ok (.goto (-23), 3) := by decide +kernel
theorem od_Mo_keep_28 : decode prog_11_method_48_code 28 = .ok (.aload_n 0, 1) := by decide +kernel
theorem od_Mo_keep_29 : decode prog_11_method_48_code 29 = .ok (.iconst 1, 1) := by decide +kernel
theorem od_Mo_keep_30 : decode prog_11_method_48_code 30 = .ok (.putfield 193, 3) := by decide +kernel
theorem od_Mo_keep_33 : decode prog_11_method_48_code 33 = .ok (.return_, 1) := by decide +kernel
theorem od_Mo_solve_0 : decode prog_11_method_49_code 0 = .ok (.iconst (-1), 1) := by decide +kernel
theorem od_Mo_solve_1 : decode prog_11_method_49_code 1 = .ok (.istore_n 1, 1) := by decide +kernel
theorem od_Mo_solve_2 : decode prog_11_method_49_code 2 = .ok (.aload_n 0, 1) := by decide +kernel
theorem od_Mo_solve_3 : decode prog_11_method_49_code 3 = .ok (.getfield 187, 3) := by decide +kernel
theorem od_Mo_solve_6 : decode prog_11_method_49_code 6 = .ok (.ifCond .le (7), 3) := by decide +kernel
theorem od_Mo_solve_9 : decode prog_11_method_49_code 9 = .ok (.iconst 1, 1) := by decide +kernel
theorem od_Mo_solve_10 : decode prog_11_method_49_code 10 = .ok (.goto (4), 3) := by decide +kernel
theorem od_Mo_solve_13 : decode prog_11_method_49_code 13 = .ok (.iconst 0, 1) := by decide +kernel
theorem od_Mo_solve_14 : decode prog_11_method_49_code 14 = .ok (.istore_n 2, 1) := by decide +kernel
theorem od_Mo_solve_15 : decode prog_11_method_49_code 15 = .ok (.aload_n 0, 1) := by decide +kernel
theorem od_Mo_solve_16 : decode prog_11_method_49_code 16 = .ok (.invokevirtual 251, 3) := by decide +kernel
theorem od_Mo_solve_19 : decode prog_11_method_49_code 19 = .ok (.iload_n 2, 1) := by decide +kernel
theorem od_Mo_solve_20 : decode prog_11_method_49_code 20 = .ok (.ifCond .eq (38), 3) := by decide +kernel
theorem od_Mo_solve_23 : decode prog_11_method_49_code 23 = .ok (.aload_n 0, 1) := by decide +kernel
theorem od_Mo_solve_24 : decode prog_11_method_49_code 24 = .ok (.invokevirtual 254, 3) := by decide +kernel
theorem od_Mo_solve_27 : decode prog_11_method_49_code 27 = .ok (.ifCond .eq (23), 3) := by decide +kernel
theorem od_Mo_solve_30 : decode prog_11_method_49_code 30 = .ok (.aload_n 0, 1) := by decide +kernel
theorem od_Mo_solve_31 : decode prog_11_method_49_code 31 = .ok (.invokevirtual 257, 3) := by decide +kernel
theorem od_Mo_solve_34 : decode prog_11_method_49_code 34 = .ok (.istore_n 3, 1) := by decide +kernel
theorem od_Mo_solve_35 : decode prog_11_method_49_code 35 = .ok (.iload_n 1, 1) := by decide +kernel
theorem od_Mo_solve_36 : decode prog_11_method_49_code 36 = .ok (.ifCond .lt (8), 3) := by decide +kernel
theorem od_Mo_solve_39 : decode prog_11_method_49_code 39 = .ok (.iload_n 3, 1) := by decide +kernel
theorem od_Mo_solve_40 : decode prog_11_method_49_code 40 = .ok (.iload_n 1, 1) := by decide +kernel
theorem od_Mo_solve_41 : decode prog_11_method_49_code 41 = .ok (.if_icmp .ge (9), 3) := by decide +kernel
theorem od_Mo_solve_44 : decode prog_11_method_49_code 44 = .ok (.iload_n 3, 1) := by decide +kernel
theorem od_Mo_solve_45 : decode prog_11_method_49_code 45 = .ok (.istore_n 1, 1) := by decide +kernel
theorem od_Mo_solve_46 : decode prog_11_method_49_code 46 = .ok (.aload_n 0, 1) := by decide +kernel
theorem od_Mo_solve_47 : decode prog_11_method_49_code 47 = .ok (.invokevirtual 260, 3) := by decide +kernel
theorem od_Mo_solve_50 : decode prog_11_method_49_code 50 = .ok (.aload_n 0, 1) := by decide +kernel
theorem od_Mo_solve_51 : decode prog_11_method_49_code 51 = .ok (.invokevirtual 263, 3) := by decide +kernel
theorem od_Mo_solve_54 : decode prog_11_method_49_code 54 = .ok (.istore_n 2, 1) := by decide +kernel
theorem od_Mo_solve_55 : decode prog_11_method_49_code 55 = .ok (.goto (-36), 3) := by decide +kernel
theorem od_Mo_solve_58 : decode prog_11_method_49_code 58 = .ok (.iload_n 1, 1) := by decide +kernel
theorem od_Mo_solve_59 : decode prog_11_method_49_code 59 = .ok (.ifCond .ge (8), 3) := by decide +kernel
theorem od_Mo_solve_62 : decode prog_11_method_49_code 62 = .ok (.ldc 231, 2) := by decide +kernel
theorem od_Mo_solve_64 : decode prog_11_method_49_code 64 = .ok (.goto (4), 3) := by decide +kernel
theorem od_Mo_solve_67 : decode prog_11_method_49_code 67 = .ok (.iload_n 1, 1) := by decide +kernel
theorem od_Mo_solve_68 : decode prog_11_method_49_code 68 = .ok (.ireturn, 1) := by decide +kernel
theorem od_Mo_ties_0 : decode prog_11_method_50_code 0 = .ok (.iconst (-1), 1) := by decide +kernel
theorem od_Mo_ties_1 : decode prog_11_method_50_code 1 = .ok (.istore_n 1, 1) := by decide +kernel
theorem od_Mo_ties_2 : decode prog_11_method_50_code 2 = .ok (.iconst 0, 1) := by decide +kernel
theorem od_Mo_ties_3 : decode prog_11_method_50_code 3 = .ok (.istore_n 2, 1) := by decide +kernel
theorem od_Mo_ties_4 : decode prog_11_method_50_code 4 = .ok (.aload_n 0, 1) := by decide +kernel
theorem od_Mo_ties_5 : decode prog_11_method_50_code 5 = .ok (.getfield 187, 3) := by decide +kernel
theorem od_Mo_ties_8 : decode prog_11_method_50_code 8 = .ok (.ifCond .le (7), 3) := by decide +kernel
theorem od_Mo_ties_11 : decode prog_11_method_50_code 11 = .ok (.iconst 1, 1) := by decide +kernel
theorem od_Mo_ties_12 : decode prog_11_method_50_code 12 = .ok (.goto (4), 3) := by decide +kernel
theorem od_Mo_ties_15 : decode prog_11_method_50_code 15 = .ok (.iconst 0, 1) := by decide +kernel
theorem od_Mo_ties_16 : decode prog_11_method_50_code 16 = .ok (.istore_n 3, 1) := by decide +kernel
theorem od_Mo_ties_17 : decode prog_11_method_50_code 17 = .ok (.aload_n 0, 1) := by decide +kernel
theorem od_Mo_ties_18 : decode prog_11_method_50_code 18 = .ok (.invokevirtual 251, 3) := by decide +kernel
theorem od_Mo_ties_21 : decode prog_11_method_50_code 21 = .ok (.iload_n 3, 1) := by decide +kernel
theorem od_Mo_ties_22 : decode prog_11_method_50_code 22 = .ok (.ifCond .eq (69), 3) := by decide +kernel
theorem od_Mo_ties_25 : decode prog_11_method_50_code 25 = .ok (.aload_n 0, 1) := by decide +kernel
theorem od_Mo_ties_26 : decode prog_11_method_50_code 26 = .ok (.invokevirtual 254, 3) := by decide +kernel
theorem od_Mo_ties_29 : decode prog_11_method_50_code 29 = .ok (.ifCond .eq (54), 3) := by decide +kernel
theorem od_Mo_ties_32 : decode prog_11_method_50_code 32 = .ok (.aload_n 0, 1) := by decide +kernel
theorem od_Mo_ties_33 : decode prog_11_method_50_code 33 = .ok (.invokevirtual 257, 3) := by decide +kernel
theorem od_Mo_ties_36 : decode prog_11_method_50_code 36 = .ok (.istore 4, 2) := by decide +kernel
theorem od_Mo_ties_38 : decode prog_11_method_50_code 38 = .ok (.iload_n 1, 1) := by decide +kernel
theorem od_Mo_ties_39 : decode prog_11_method_50_code 39 = .ok (.ifCond .lt (9), 3) := by decide +kernel
theorem od_Mo_ties_42 : decode prog_11_method_50_code 42 = .ok (.iload 4, 2) := by decide +kernel
theorem od_Mo_ties_44 : decode prog_11_method_50_code 44 = .ok (.iload_n 1, 1) := by decide +kernel
theorem od_Mo_ties_45 : decode prog_11_method_50_code 45 = .ok (.if_icmp .ge (7), 3) := by decide +kernel
theorem od_Mo_ties_48 : decode prog_11_method_50_code 48 = .ok (.iconst 1, 1) := by decide +kernel
theorem od_Mo_ties_49 : decode prog_11_method_50_code 49 = .ok (.goto (16), 3) := by decide +kernel
theorem od_Mo_ties_52 : decode prog_11_method_50_code 52 = .ok (.iload 4, 2) := by decide +kernel
theorem od_Mo_ties_54 : decode prog_11_method_50_code 54 = .ok (.iload_n 1, 1) := by decide +kernel
theorem od_Mo_ties_55 : decode prog_11_method_50_code 55 = .ok (.if_icmp .ne (9), 3) := by decide +kernel
theorem od_Mo_ties_58 : decode prog_11_method_50_code 58 = .ok (.iload_n 2, 1) := by decide +kernel
theorem od_Mo_ties_59 : decode prog_11_method_50_code 59 = .ok (.iconst 1, 1) := by decide +kernel
theorem od_Mo_ties_60 : decode prog_11_method_50_code 60 = .ok (.iadd, 1) := by decide +kernel
theorem od_Mo_ties_61 : decode prog_11_method_50_code 61 = .ok (.goto (4), 3) := by decide +kernel
theorem od_Mo_ties_64 : decode prog_11_method_50_code 64 = .ok (.iload_n 2, 1) := by decide +kernel
theorem od_Mo_ties_65 : decode prog_11_method_50_code 65 = .ok (.istore_n 2, 1) := by decide +kernel
theorem od_Mo_ties_66 : decode prog_11_method_50_code 66 = .ok (.iload_n 1, 1) := by decide +kernel
theorem od_Mo_ties_67 : decode prog_11_method_50_code 67 = .ok (.ifCond .lt (9), 3) := by decide +kernel
theorem od_Mo_ties_70 : decode prog_11_method_50_code 70 = .ok (.iload 4, 2) := by decide +kernel
theorem od_Mo_ties_72 : decode prog_11_method_50_code 72 = .ok (.iload_n 1, 1) := by decide +kernel
theorem od_Mo_ties_73 : decode prog_11_method_50_code 73 = .ok (.if_icmp .ge (8), 3) := by decide +kernel
theorem od_Mo_ties_76 : decode prog_11_method_50_code 76 = .ok (.iload 4, 2) := by decide +kernel
theorem od_Mo_ties_78 : decode prog_11_method_50_code 78 = .ok (.goto (4), 3) := by decide +kernel
theorem od_Mo_ties_81 : decode prog_11_method_50_code 81 = .ok (.iload_n 1, 1) := by decide +kernel
theorem od_Mo_ties_82 : decode prog_11_method_50_code 82 = .ok (.istore_n 1, 1) := by decide +kernel
theorem od_Mo_ties_83 : decode prog_11_method_50_code 83 = .ok (.aload_n 0, 1) := by decide +kernel
theorem od_Mo_ties_84 : decode prog_11_method_50_code 84 = .ok (.invokevirtual 263, 3) := by decide +kernel
theorem od_Mo_ties_87 : decode prog_11_method_50_code 87 = .ok (.istore_n 3, 1) := by decide +kernel
theorem od_Mo_ties_88 : decode prog_11_method_50_code 88 = .ok (.goto (-67), 3) := by decide +kernel
theorem od_Mo_ties_91 : decode prog_11_method_50_code 91 = .ok (.iload_n 2, 1) := by decide +kernel
theorem od_Mo_ties_92 : decode prog_11_method_50_code 92 = .ok (.ireturn, 1) := by decide +kernel
theorem od_Mo_nearest_0 : decode prog_11_method_51_code 0 = .ok (.aload_n 0, 1) := by decide +kernel
theorem od_Mo_nearest_1 : decode prog_11_method_51_code 1 = .ok (.getfield 51, 3) := by decide +kernel
theorem od_Mo_nearest_4 : decode prog_11_method_51_code 4 = .ok (.iconst 0, 1) := by decide +kernel
theorem od_Mo_nearest_5 : decode prog_11_method_51_code 5 = .ok (.iconst 0, 1) := by decide +kernel
theorem od_Mo_nearest_6 : decode prog_11_method_51_code 6 = .ok (.iastore, 1) := by decide +kernel
theorem od_Mo_nearest_7 : decode prog_11_method_51_code 7 = .ok (.iconst 1, 1) := by decide +kernel
theorem od_Mo_nearest_8 : decode prog_11_method_51_code 8 = .ok (.istore_n 1, 1) := by decide +kernel
theorem od_Mo_nearest_9 : decode prog_11_method_51_code 9 = .ok (.iload_n 1, 1) := by decide +kernel
theorem od_Mo_nearest_10 : decode prog_11_method_51_code 10 = .ok (.aload_n 0, 1) := by decide +kernel
theorem od_Mo_nearest_11 : decode prog_11_method_51_code 11 = .ok (.getfield 187, 3) := by decide +kernel
theorem od_Mo_nearest_14 : decode prog_11_method_51_code 14 = .ok (.if_icmp .ge (127), 3) := by decide +kernel
theorem od_Mo_nearest_17 : decode prog_11_method_51_code 17 = .ok (.iconst (-1), 1) := by decide +kernel
theorem od_Mo_nearest_18 : decode prog_11_method_51_code 18 = .ok (.istore_n 2, 1) := by decide +kernel
theorem od_Mo_nearest_19 : decode prog_11_method_51_code 19 = .ok (.iconst 1, 1) := by decide +kernel
theorem od_Mo_nearest_20 : decode prog_11_method_51_code 20 = .ok (.istore_n 3, 1) := by decide +kernel
theorem od_Mo_nearest_21 : decode prog_11_method_51_code 21 = .ok (.iload_n 3, 1) := by decide +kernel
theorem od_Mo_nearest_22 : decode prog_11_method_51_code 22 = .ok (.aload_n 0, 1) := by decide +kernel
theorem od_Mo_nearest_23 : decode prog_11_method_51_code 23 = .ok (.getfield 187, 3) := by decide +kernel
theorem od_Mo_nearest_26 : decode prog_11_method_51_code 26 = .ok (.if_icmp .ge (102), 3) := by decide +kernel
theorem od_Mo_nearest_29 : decode prog_11_method_51_code 29 = .ok (.iconst 0, 1) := by decide +kernel
theorem od_Mo_nearest_30 : decode prog_11_method_51_code 30 = .ok (.istore 4, 2) := by decide +kernel
theorem od_Mo_nearest_32 : decode prog_11_method_51_code 32 = .ok (.iconst 0, 1) := by decide +kernel
theorem od_Mo_nearest_33 : decode prog_11_method_51_code 33 = .ok (.istore 5, 2) := by decide +kernel
theorem od_Mo_nearest_35 : decode prog_11_method_51_code 35 = .ok (.iload 5, 2) := by decide +kernel
theorem od_Mo_nearest_37 : decode prog_11_method_51_code 37 = .ok (.iload_n 1, 1) := by decide +kernel
theorem od_Mo_nearest_38 : decode prog_11_method_51_code 38 = .ok (.if_icmp .ge (32), 3) := by decide +kernel
theorem od_Mo_nearest_41 : decode prog_11_method_51_code 41 = .ok (.iload 4, 2) := by decide +kernel
theorem od_Mo_nearest_43 : decode prog_11_method_51_code 43 = .ok (.ifCond .ne (14), 3) := by decide +kernel
theorem od_Mo_nearest_46 : decode prog_11_method_51_code 46 = .ok (.aload_n 0, 1) := by decide +kernel
theorem od_Mo_nearest_47 : decode prog_11_method_51_code 47 = .ok (.getfield 51, 3) := by decide +kernel
theorem od_Mo_nearest_50 : decode prog_11_method_51_code 50 = .ok (.iload 5, 2) := by decide +kernel
theorem od_Mo_nearest_52 : decode prog_11_method_51_code 52 = .ok (.iaload, 1) := by decide +kernel
theorem od_Mo_nearest_53 : decode prog_11_method_51_code 53 = .ok (.iload_n 3, 1) := by decide +kernel
theorem od_Mo_nearest_54 : decode prog_11_method_51_code 54 = .ok (.if_icmp .ne (7), 3) := by decide +kernel
theorem od_Mo_nearest_57 : decode prog_11_method_51_code 57 = .ok (.iconst 1, 1) := by decide +kernel
theorem od_Mo_nearest_58 : decode prog_11_method_51_code 58 = .ok (.goto (4), 3) := by decide +kernel
theorem od_Mo_nearest_61 : decode prog_11_method_51_code 61 = .ok (.iconst 0, 1) := by decide +kernel
theorem od_Mo_nearest_62 : decode prog_11_method_51_code 62 = .ok (.istore 4, 2) := by decide +kernel
theorem od_Mo_nearest_64 : decode prog_11_method_51_code 64 = .ok (.iinc 5 (1), 3) := by decide +kernel
theorem od_Mo_nearest_67 : decode prog_11_method_51_code 67 = .ok (.goto (-32), 3) := by decide +kernel
theorem od_Mo_nearest_70 : decode prog_11_method_51_code 70 = .ok (.aload_n 0, 1) := by decide +kernel
theorem od_Mo_nearest_71 : decode prog_11_method_51_code 71 = .ok (.getfield 51, 3) := by decide +kernel
theorem od_Mo_nearest_74 : decode prog_11_method_51_code 74 = .ok (.iload_n 1, 1) := by decide +kernel
theorem od_Mo_nearest_75 : decode prog_11_method_51_code 75 = .ok (.iconst 1, 1) := by decide +kernel
theorem od_Mo_nearest_76 : decode prog_11_method_51_code 76 = .ok (.isub, 1) := by decide +kernel
theorem od_Mo_nearest_77 : decode prog_11_method_51_code 77 = .ok (.iaload, 1) := by decide +kernel
theorem od_Mo_nearest_78 : decode prog_11_method_51_code 78 = .ok (.istore 5, 2) := by decide +kernel
theorem od_Mo_nearest_80 : decode prog_11_method_51_code 80 = .ok (.iload 4, 2) := by decide +kernel
theorem od_Mo_nearest_82 : decode prog_11_method_51_code 82 = .ok (.ifCond .ne (38), 3) := by decide +kernel
theorem od_Mo_nearest_85 : decode prog_11_method_51_code 85 = .ok (.iload_n 2, 1) := by decide +kernel
theorem od_Mo_nearest_86 : decode prog_11_method_51_code 86 = .ok (.ifCond .lt (30), 3) := by decide +kernel
theorem od_Mo_nearest_89 : decode prog_11_method_51_code 89 = .ok (.aload_n 0, 1) := by decide +kernel
theorem od_Mo_nearest_90 : decode prog_11_method_51_code 90 = .ok (.getfield 13, 3) := by decide +kernel
theorem od_Mo_nearest_93 : decode prog_11_method_51_code 93 = .ok (.bipush (8), 2) := by decide +kernel
theorem od_Mo_nearest_95 : decode prog_11_method_51_code 95 = .ok (.iload 5, 2) := by decide +kernel
theorem od_Mo_nearest_97 : decode prog_11_method_51_code 97 = .ok (.imul, 1) := by decide +kernel
theorem od_Mo_nearest_98 : decode prog_11_method_51_code 98 = .ok (.iload_n 3, 1) := by decide +kernel
theorem od_Mo_nearest_99 : decode prog_11_method_51_code 99 = .ok (.iadd, 1) := by decide +kernel
theorem od_Mo_nearest_100 : decode prog_11_method_51_code 100 = .ok (.iaload, 1) := by decide +kernel
theorem od_Mo_nearest_101 : decode prog_11_method_51_code 101 = .ok (.aload_n 0, 1) := by decide +kernel
theorem od_Mo_nearest_102 : decode prog_11_method_51_code 102 = .ok (.getfield 13, 3) := by decide +kernel
theorem od_Mo_nearest_105 : decode prog_11_method_51_code 105 = .ok (.bipush (8), 2) := by decide +kernel
theorem od_Mo_nearest_107 : decode prog_11_method_51_code 107 = .ok (.iload 5, 2) := by decide +kernel
theorem od_Mo_nearest_109 : decode prog_11_method_51_code 109 = .ok (.imul, 1) := by decide +kernel
theorem od_Mo_nearest_110 : decode prog_11_method_51_code 110 = .ok (.iload_n 2, 1) := by decide +kernel
theorem od_Mo_nearest_111 : decode prog_11_method_51_code 111 = .ok (.iadd, 1) := by decide +kernel
theorem od_Mo_nearest_112 : decode prog_11_method_51_code 112 = .ok (.iaload, 1) := by decide +kernel
theorem od_Mo_nearest_113 : decode prog_11_method_51_code 113 = .ok (.if_icmp .ge (7), 3) := by decide +kernel
theorem od_Mo_nearest_116 : decode prog_11_method_51_code 116 = .ok (.iload_n 3, 1) := by decide +kernel
theorem od_Mo_nearest_117 : decode prog_11_method_51_code 117 = .ok (.goto (4), 3) := by decide +kernel
theorem od_Mo_nearest_120 : decode prog_11_method_51_code 120 = .ok (.iload_n 2, 1) := by decide +kernel
theorem od_Mo_nearest_121 : decode prog_11_method_51_code 121 = .ok (.istore_n 2, 1) := by decide +kernel
theorem od_Mo_nearest_122 : decode prog_11_method_51_code 122 = .ok (.iinc 3 (1), 3) := by decide +kernel
theorem od_Mo_nearest_125 : decode prog_11_method_51_code 125 = .ok (.goto (-104), 3) := by decide +kernel
theorem od_Mo_nearest_128 : decode prog_11_method_51_code 128 = .ok (.aload_n 0, 1) := by decide +kernel
theorem od_Mo_nearest_129 : decode prog_11_method_51_code 129 = .ok (.getfield 51, 3) := by decide +kernel
theorem od_Mo_nearest_132 : decode prog_11_method_51_code 132 = .ok (.iload_n 1, 1) := by decide +kernel
theorem od_Mo_nearest_133 : decode prog_11_method_51_code 133 = .ok (.iload_n 2, 1) := by decide +kernel
theorem od_Mo_nearest_134 : decode prog_11_method_51_code 134 = .ok (.iastore, 1) := by decide +kernel
theorem od_Mo_nearest_135 : decode prog_11_method_51_code 135 = .ok (.iinc 1 (1), 3) := by decide +kernel
theorem od_Mo_nearest_138 : decode prog_11_method_51_code 138 = .ok (.goto (-129), 3) := by decide +kernel
theorem od_Mo_nearest_141 : decode prog_11_method_51_code 141 = .ok (.return_, 1) := by decide +kernel
theorem od_Mo_better_0 : decode prog_11_method_52_code 0 = .ok (.aload_n 0, 1) := by decide +kernel
theorem od_Mo_better_1 : decode prog_11_method_52_code 1 = .ok (.invokevirtual 257, 3) := by decide +kernel
theorem od_Mo_better_4 : decode prog_11_method_52_code 4 = .ok (.istore_n 1, 1) := by decide +kernel
theorem od_Mo_better_5 : decode prog_11_method_52_code 5 = .ok (.iconst 1, 1) := by decide +kernel
theorem od_Mo_better_6 : decode prog_11_method_52_code 6 = .ok (.istore_n 2, 1) := by decide +kernel
theorem od_Mo_better_7 : decode prog_11_method_52_code 7 = .ok (.iload_n 2, 1) := by decide +kernel
theorem od_Mo_better_8 : decode prog_11_method_52_code 8 = .ok (.aload_n 0, 1) := by decide +kernel
theorem od_Mo_better_9 : decode prog_11_method_52_code 9 = .ok (.getfield 187, 3) := by decide +kernel
theorem od_Mo_better_12 : decode prog_11_method_52_code 12 = .ok (.if_icmp .ge (53), 3) := by decide +kernel
theorem od_Mo_better_15 : decode prog_11_method_52_code 15 = .ok (.iload_n 2, 1) := by decide +kernel
theorem od_Mo_better_16 : decode prog_11_method_52_code 16 = .ok (.iconst 1, 1) := by decide +kernel
theorem od_Mo_better_17 : decode prog_11_method_52_code 17 = .ok (.iadd, 1) := by decide +kernel
theorem od_Mo_better_18 : decode prog_11_method_52_code 18 = .ok (.istore_n 3, 1) := by decide +kernel
theorem od_Mo_better_19 : decode prog_11_method_52_code 19 = .ok (.iload_n 3, 1) := by decide +kernel
theorem od_Mo_better_20 : decode prog_11_method_52_code 20 = .ok (.aload_n 0, 1) := by decide +kernel
theorem od_Mo_better_21 : decode prog_11_method_52_code 21 = .ok (.getfield 187, 3) := by decide +kernel
theorem od_Mo_better_24 : decode prog_11_method_52_code 24 = .ok (.if_icmp .ge (35), 3) := by decide +kernel
theorem od_Mo_better_27 : decode prog_11_method_52_code 27 = .ok (.aload_n 0, 1) := by decide +kernel
theorem od_Mo_better_28 : decode prog_11_method_52_code 28 = .ok (.iload_n 2, 1) := by decide +kernel
theorem od_Mo_better_29 : decode prog_11_method_52_code 29 = .ok (.iload_n 3, 1) := by decide +kernel
theorem od_Mo_better_30 : decode prog_11_method_52_code 30 = .ok (.invokevirtual 241, 3) := by decide +kernel
theorem od_Mo_better_33 : decode prog_11_method_52_code 33 = .ok (.aload_n 0, 1) := by decide +kernel
theorem od_Mo_better_34 : decode prog_11_method_52_code 34 = .ok (.invokevirtual 257, 3) := by decide +kernel
theorem od_Mo_better_37 : decode prog_11_method_52_code 37 = .ok (.istore 4, 2) := by decide +kernel
theorem od_Mo_better_39 : decode prog_11_method_52_code 39 = .ok (.iload 4, 2) := by decide +kernel
theorem od_Mo_better_41 : decode prog_11_method_52_code 41 = .ok (.iload_n 1, 1) := by decide +kernel
theorem od_Mo_better_42 : decode prog_11_method_52_code 42 = .ok (.if_icmp .ge (5), 3) := by decide +kernel
theorem od_Mo_better_45 : decode prog_11_method_52_code 45 = .ok (.iconst 1, 1) := by decide +kernel
theorem od_Mo_better_46 : decode prog_11_method_52_code 46 = .ok (.ireturn, 1) := by decide +kernel
theorem od_Mo_better_47 : decode prog_11_method_52_code 47 = .ok (.aload_n 0, 1) := by decide +kernel
theorem od_Mo_better_48 : decode prog_11_method_52_code 48 = .ok (.iload_n 2, 1) := by decide +kernel
theorem od_Mo_better_49 : decode prog_11_method_52_code 49 = .ok (.iload_n 3, 1) := by decide +kernel
theorem od_Mo_better_50 : decode prog_11_method_52_code 50 = .ok (.invokevirtual 241, 3) := by decide +kernel
theorem od_Mo_better_53 : decode prog_11_method_52_code 53 = .ok (.iinc 3 (1), 3) := by decide +kernel
theorem od_Mo_better_56 : decode prog_11_method_52_code 56 = .ok (.goto (-37), 3) := by decide +kernel
theorem od_Mo_better_59 : decode prog_11_method_52_code 59 = .ok (.iinc 2 (1), 3) := by decide +kernel
theorem od_Mo_better_62 : decode prog_11_method_52_code 62 = .ok (.goto (-55), 3) := by decide +kernel
theorem od_Mo_better_65 : decode prog_11_method_52_code 65 = .ok (.iconst 0, 1) := by decide +kernel
theorem od_Mo_better_66 : decode prog_11_method_52_code 66 = .ok (.ireturn, 1) := by decide +kernel
theorem od_Mo_improve_0 : decode prog_11_method_53_code 0 = .ok (.aload_n 0, 1) := by decide +kernel
theorem od_Mo_improve_1 : decode prog_11_method_53_code 1 = .ok (.getfield 187, 3) := by decide +kernel
theorem od_Mo_improve_4 : decode prog_11_method_53_code 4 = .ok (.ifCond .ne (6), 3) := by decide +kernel
theorem od_Mo_improve_7 : decode prog_11_method_53_code 7 = .ok (.ldc 231, 2) := by decide +kernel
theorem od_Mo_improve_9 : decode prog_11_method_53_code 9 = .ok (.ireturn, 1) := by decide +kernel
theorem od_Mo_improve_10 : decode prog_11_method_53_code 10 = .ok (.aload_n 0, 1) := by decide +kernel
theorem od_Mo_improve_11 : decode prog_11_method_53_code 11 = .ok (.invokevirtual 266, 3) := by decide +kernel
theorem od_Mo_improve_14 : decode prog_11_method_53_code 14 = .ok (.iconst 1, 1) := by decide +kernel
theorem od_Mo_improve_15 : decode prog_11_method_53_code 15 = .ok (.istore_n 1, 1) := by decide +kernel
theorem od_Mo_improve_16 : decode prog_11_method_53_code 16 = .ok (.iload_n 1, 1) := by decide +kernel
theorem od_Mo_improve_17 : decode prog_11_method_53_code 17 = .ok (.ifCond .eq (11), 3) := by decide +kernel
theorem od_Mo_improve_20 : decode prog_11_method_53_code 20 = .ok (.aload_n 0, 1) := by decide +kernel
theorem od_Mo_improve_21 : decode prog_11_method_53_code 21 = .ok (.invokevirtual 269, 3) := by decide +kernel
theorem od_Mo_improve_24 : decode prog_11_method_53_code 24 = .ok (.istore_n 1, 1) := by decide +kernel
theorem od_Mo_improve_25 : decode prog_11_method_53_code 25 = .ok (.goto (-9), 3) := by decide +kernel
theorem od_Mo_improve_28 : decode prog_11_method_53_code 28 = .ok (.aload_n 0, 1) := by decide +kernel
theorem od_Mo_improve_29 : decode prog_11_method_53_code 29 = .ok (.getfield 51, 3) := by decide +kernel
theorem od_Mo_improve_32 : decode prog_11_method_53_code 32 = .ok (.iconst 1, 1) := by decide +kernel
theorem od_Mo_improve_33 : decode prog_11_method_53_code 33 = .ok (.iaload, 1) := by decide +kernel
theorem od_Mo_improve_34 : decode prog_11_method_53_code 34 = .ok (.aload_n 0, 1) := by decide +kernel
theorem od_Mo_improve_35 : decode prog_11_method_53_code 35 = .ok (.getfield 51, 3) := by decide +kernel
theorem od_Mo_improve_38 : decode prog_11_method_53_code 38 = .ok (.aload_n 0, 1) := by decide +kernel
theorem od_Mo_improve_39 : decode prog_11_method_53_code 39 = .ok (.getfield 187, 3) := by decide +kernel
theorem od_Mo_improve_42 : decode prog_11_method_53_code 42 = .ok (.iconst 1, 1) := by decide +kernel
theorem od_Mo_improve_43 : decode prog_11_method_53_code 43 = .ok (.isub, 1) := by decide +kernel
theorem od_Mo_improve_44 : decode prog_11_method_53_code 44 = .ok (.iaload, 1) := by decide +kernel
theorem od_Mo_improve_45 : decode prog_11_method_53_code 45 = .ok (.if_icmp .le (14), 3) := by decide +kernel
theorem od_Mo_improve_48 : decode prog_11_method_53_code 48 = .ok (.aload_n 0, 1) := by decide +kernel
theorem od_Mo_improve_49 : decode prog_11_method_53_code 49 = .ok (.iconst 1, 1) := by decide +kernel
theorem od_Mo_improve_50 : decode prog_11_method_53_code 50 = .ok (.aload_n 0, 1) := by decide +kernel
theorem od_Mo_improve_51 : decode prog_11_method_53_code 51 = .ok (.getfield 187, 3) := by decide +kernel
theorem od_Mo_improve_54 : decode prog_11_method_53_code 54 = .ok (.iconst 1, 1) := by decide +kernel
theorem od_Mo_improve_55 : decode prog_11_method_53_code 55 = .ok (.isub, 1) := by decide +kernel
theorem od_Mo_improve_56 : decode prog_11_method_53_code 56 = .ok (.invokevirtual 241, 3) := by decide +kernel
theorem od_Mo_improve_59 : decode prog_11_method_53_code 59 = .ok (.aload_n 0, 1) := by decide +kernel
theorem od_Mo_improve_60 : decode prog_11_method_53_code 60 = .ok (.invokevirtual 260, 3) := by decide +kernel
theorem od_Mo_improve_63 : decode prog_11_method_53_code 63 = .ok (.aload_n 0, 1) := by decide +kernel
theorem od_Mo_improve_64 : decode prog_11_method_53_code 64 = .ok (.invokevirtual 257, 3) := by decide +kernel
theorem od_Mo_improve_67 : decode prog_11_method_53_code 67 = .ok (.ireturn, 1) := by decide +kernel
theorem od_Mo_tour_0 : decode prog_11_method_54_code 0 = .ok (.aload_n 0, 1) := by decide +kernel
theorem od_Mo_tour_1 : decode prog_11_method_54_code 1 = .ok (.getfield 193, 3) := by decide +kernel
theorem od_Mo_tour_4 : decode prog_11_method_54_code 4 = .ok (.ifCond .eq (24), 3) := by decide +kernel
theorem od_Mo_tour_7 : decode prog_11_method_54_code 7 = .ok (.iload_n 1, 1) := by decide +kernel
theorem od_Mo_tour_8 : decode prog_11_method_54_code 8 = .ok (.ifCond .lt (20), 3) := by decide +kernel
theorem od_Mo_tour_11 : decode prog_11_method_54_code 11 = .ok (.iload_n 1, 1) := by decide +kernel
theorem od_Mo_tour_12 : decode prog_11_method_54_code 12 = .ok (.aload_n 0, 1) := by decide +kernel
theorem od_Mo_tour_13 : decode prog_11_method_54_code 13 = .ok (.getfield 187, 3) := by decide +kernel
theorem od_Mo_tour_16 : decode prog_11_method_54_code 16 = .ok (.if_icmp .ge (12), 3) := by decide +kernel
theorem od_Mo_tour_19 : decode prog_11_method_54_code 19 = .ok (.aload_n 0, 1) := by decide +kernel
theorem od_Mo_tour_20 : decode prog_11_method_54_code 20 = .ok (.getfield 23, 3) := by decide +kernel
theorem od_Mo_tour_23 : decode prog_11_method_54_code 23 = .ok (.iload_n 1, 1) := by decide +kernel
theorem od_Mo_tour_24 : decode prog_11_method_54_code 24 = .ok (.iaload, 1) := by decide +kernel
theorem od_Mo_tour_25 : decode prog_11_method_54_code 25 = .ok (.goto (4), 3) := by decide +kernel
theorem od_Mo_tour_28 : decode prog_11_method_54_code 28 = .ok (.iconst (-1), 1) := by decide +kernel
theorem od_Mo_tour_29 : decode prog_11_method_54_code 29 = .ok (.ireturn, 1) := by decide +kernel
theorem od_Mo_add_0 : decode prog_11_method_56_code 0 = .ok (.aload_n 0, 1) := by decide +kernel
theorem od_Mo_add_1 : decode prog_11_method_56_code 1 = .ok (.getfield 187, 3) := by decide +kernel
theorem od_Mo_add_4 : decode prog_11_method_56_code 4 = .ok (.aload_n 0, 1) := by decide +kernel
theorem od_Mo_add_5 : decode prog_11_method_56_code 5 = .ok (.getfield 187, 3) := by decide +kernel
theorem od_Mo_add_8 : decode prog_11_method_56_code 8 = .ok (.iconst 1, 1) := by decide +kernel
theorem od_Mo_add_9 : decode prog_11_method_56_code 9 = .ok (.isub, 1) := by decide +kernel
theorem od_Mo_add_10 : decode prog_11_method_56_code 10 = .ok (.imul, 1) := by decide +kernel
theorem od_Mo_add_11 : decode prog_11_method_56_code 11 = .ok (.iconst 2, 1) := by decide +kernel
theorem od_Mo_add_12 : decode prog_11_method_56_code 12 = .ok (.idiv, 1) := by decide +kernel
theorem od_Mo_add_13 : decode prog_11_method_56_code 13 = .ok (.istore_n 3, 1) := by decide +kernel
theorem od_Mo_add_14 : decode prog_11_method_56_code 14 = .ok (.aload_n 0, 1) := by decide +kernel
theorem od_Mo_add_15 : decode prog_11_method_56_code 15 = .ok (.getfield 187, 3) := by decide +kernel
theorem od_Mo_add_18 : decode prog_11_method_56_code 18 = .ok (.ifCond .eq (21), 3) := by decide +kernel
theorem od_Mo_add_21 : decode prog_11_method_56_code 21 = .ok (.iload_n 1, 1) := by decide +kernel
theorem od_Mo_add_22 : decode prog_11_method_56_code 22 = .ok (.iload_n 3, 1) := by decide +kernel
theorem od_Mo_add_23 : decode prog_11_method_56_code 23 = .ok (.ishr, 1) := by decide +kernel
theorem od_Mo_add_24 : decode prog_11_method_56_code 24 = .ok (.ifCond .ne (15), 3) := by decide +kernel
theorem od_Mo_add_27 : decode prog_11_method_56_code 27 = .ok (.iload_n 2, 1) := by decide +kernel
theorem od_Mo_add_28 : decode prog_11_method_56_code 28 = .ok (.iload_n 3, 1) := by decide +kernel
theorem od_Mo_add_29 : decode prog_11_method_56_code 29 = .ok (.ishr, 1) := by decide +kernel
theorem od_Mo_add_30 : decode prog_11_method_56_code 30 = .ok (.ifCond .ne (9), 3) := by decide +kernel
theorem od_Mo_add_33 : decode prog_11_method_56_code 33 = .ok (.iload_n 1, 1) := by decide +kernel
theorem od_Mo_add_34 : decode prog_11_method_56_code 34 = .ok (.iload_n 2, 1) := by decide +kernel
theorem od_Mo_add_35 : decode prog_11_method_56_code 35 = .ok (.iand, 1) := by decide +kernel
theorem od_Mo_add_36 : decode prog_11_method_56_code 36 = .ok (.ifCond .eq (5), 3) := by decide +kernel
theorem od_Mo_add_39 : decode prog_11_method_56_code 39 = .ok (.iconst (-1), 1) := by decide +kernel
theorem od_Mo_add_40 : decode prog_11_method_56_code 40 = .ok (.ireturn, 1) := by decide +kernel
theorem od_Mo_add_41 : decode prog_11_method_56_code 41 = .ok (.aload_n 0, 1) := by decide +kernel
theorem od_Mo_add_42 : decode prog_11_method_56_code 42 = .ok (.getfield 196, 3) := by decide +kernel
theorem od_Mo_add_45 : decode prog_11_method_56_code 45 = .ok (.bipush (10), 2) := by decide +kernel
theorem od_Mo_add_47 : decode prog_11_method_56_code 47 = .ok (.if_icmp .ne (6), 3) := by decide +kernel
theorem od_Mo_add_50 : decode prog_11_method_56_code 50 = .ok (.ldc 231, 2) := by decide +kernel
theorem od_Mo_add_52 : decode prog_11_method_56_code 52 = .ok (.ireturn, 1) := by decide +kernel
theorem od_Mo_add_53 : decode prog_11_method_56_code 53 = .ok (.aload_n 0, 1) := by decide +kernel
theorem od_Mo_add_54 : decode prog_11_method_56_code 54 = .ok (.getfield 26, 3) := by decide +kernel
theorem od_Mo_add_57 : decode prog_11_method_56_code 57 = .ok (.aload_n 0, 1) := by decide +kernel
theorem od_Mo_add_58 : decode prog_11_method_56_code 58 = .ok (.getfield 196, 3) := by decide +kernel
theorem od_Mo_add_61 : decode prog_11_method_56_code 61 = .ok (.iload_n 1, 1) := by decide +kernel
theorem od_Mo_add_62 : decode prog_11_method_56_code 62 = .ok (.iastore, 1) := by decide +kernel
theorem od_Mo_add_63 : decode prog_11_method_56_code 63 = .ok (.aload_n 0, 1) := by decide +kernel
theorem od_Mo_add_64 : decode prog_11_method_56_code 64 = .ok (.getfield 29, 3) := by decide +kernel
theorem od_Mo_add_67 : decode prog_11_method_56_code 67 = .ok (.aload_n 0, 1) := by decide +kernel
theorem od_Mo_add_68 : decode prog_11_method_56_code 68 = .ok (.getfield 196, 3) := by decide +kernel
theorem od_Mo_add_71 : decode prog_11_method_56_code 71 = .ok (.iload_n 2, 1) := by decide +kernel
theorem od_Mo_add_72 : decode prog_11_method_56_code 72 = .ok (.iastore, 1) := by decide +kernel
theorem od_Mo_add_73 : decode prog_11_method_56_code 73 = .ok (.aload_n 0, 1) := by decide +kernel
theorem od_Mo_add_74 : decode prog_11_method_56_code 74 = .ok (.dup, 1) := by decide +kernel
theorem od_Mo_add_75 : decode prog_11_method_56_code 75 = .ok (.getfield 196, 3) := by decide +kernel
theorem od_Mo_add_78 : decode prog_11_method_56_code 78 = .ok (.iconst 1, 1) := by decide +kernel
theorem od_Mo_add_79 : decode prog_11_method_56_code 79 = .ok (.iadd, 1) := by decide +kernel
theorem od_Mo_add_80 : decode prog_11_method_56_code 80 = .ok (.putfield 196, 3) := by decide +kernel
theorem od_Mo_add_83 : decode prog_11_method_56_code 83 = .ok (.aload_n 0, 1) := by decide +kernel
theorem od_Mo_add_84 : decode prog_11_method_56_code 84 = .ok (.getfield 196, 3) := by decide +kernel
theorem od_Mo_add_87 : decode prog_11_method_56_code 87 = .ok (.ireturn, 1) := by decide +kernel
theorem od_Mo_drop_0 : decode prog_11_method_57_code 0 = .ok (.aload_n 0, 1) := by decide +kernel
theorem od_Mo_drop_1 : decode prog_11_method_57_code 1 = .ok (.iconst 0, 1) := by decide +kernel
theorem od_Mo_drop_2 : decode prog_11_method_57_code 2 = .ok (.putfield 196, 3) := by decide +kernel
theorem od_Mo_drop_5 : decode prog_11_method_57_code 5 = .ok (.return_, 1) := by decide +kernel
theorem od_Mo_bit_0 : decode prog_11_method_55_code 0 = .ok (.iload_n 0, 1) := by decide +kernel
theorem od_Mo_bit_1 : decode prog_11_method_55_code 1 = .ok (.iload_n 1, 1) := by decide +kernel
theorem od_Mo_bit_2 : decode prog_11_method_55_code 2 = .ok (.ishr, 1) := by decide +kernel
theorem od_Mo_bit_3 : decode prog_11_method_55_code 3 = .ok (.iconst 1, 1) := by decide +kernel
theorem od_Mo_bit_4 : decode prog_11_method_55_code 4 = .ok (.iand, 1) := by decide +kernel
theorem od_Mo_bit_5 : decode prog_11_method_55_code 5 = .ok (.ireturn, 1) := by decide +kernel
theorem od_Mo_inCase_0 : decode prog_11_method_58_code 0 = .ok (.iconst 1, 1) := by decide +kernel
theorem od_Mo_inCase_1 : decode prog_11_method_58_code 1 = .ok (.istore_n 2, 1) := by decide +kernel
theorem od_Mo_inCase_2 : decode prog_11_method_58_code 2 = .ok (.iconst 0, 1) := by decide +kernel
theorem od_Mo_inCase_3 : decode prog_11_method_58_code 3 = .ok (.istore_n 3, 1) := by decide +kernel
theorem od_Mo_inCase_4 : decode prog_11_method_58_code 4 = .ok (.iconst 0, 1) := by decide +kernel
theorem od_Mo_inCase_5 : decode prog_11_method_58_code 5 = .ok (.istore 4, 2) := by decide +kernel
theorem od_Mo_inCase_7 : decode prog_11_method_58_code 7 = .ok (.iload 4, 2) := by decide +kernel
theorem od_Mo_inCase_9 : decode prog_11_method_58_code 9 = .ok (.aload_n 0, 1) := by decide +kernel
theorem od_Mo_inCase_10 : decode prog_11_method_58_code 10 = .ok (.getfield 187, 3) := by decide +kernel
theorem od_Mo_inCase_13 : decode prog_11_method_58_code 13 = .ok (.if_icmp .ge (89), 3) := by decide +kernel
theorem od_Mo_inCase_16 : decode prog_11_method_58_code 16 = .ok (.iload 4, 2) := by decide +kernel
theorem od_Mo_inCase_18 : decode prog_11_method_58_code 18 = .ok (.iconst 1, 1) := by decide +kernel
theorem od_Mo_inCase_19 : decode prog_11_method_58_code 19 = .ok (.iadd, 1) := by decide +kernel
theorem od_Mo_inCase_20 : decode prog_11_method_58_code 20 = .ok (.istore 5, 2) := by decide +kernel
theorem od_Mo_inCase_22 : decode prog_11_method_58_code 22 = .ok (.iload 5, 2) := by decide +kernel
theorem od_Mo_inCase_24 : decode prog_11_method_58_code 24 = .ok (.aload_n 0, 1) := by decide +kernel
theorem od_Mo_inCase_25 : decode prog_11_method_58_code 25 = .ok (.getfield 187, 3) := by decide +kernel
theorem od_Mo_inCase_28 : decode prog_11_method_58_code 28 = .ok (.if_icmp .ge (68), 3) := by decide +kernel
theorem od_Mo_inCase_31 : decode prog_11_method_58_code 31 = .ok (.aload_n 0, 1) := by decide +kernel
theorem od_Mo_inCase_32 : decode prog_11_method_58_code 32 = .ok (.iload 4, 2) := by decide +kernel
theorem od_Mo_inCase_34 : decode prog_11_method_58_code 34 = .ok (.iload 5, 2) := by decide +kernel
theorem od_Mo_inCase_36 : decode prog_11_method_58_code 36 = .ok (.invokevirtual 248, 3) := by decide +kernel
theorem od_Mo_inCase_39 : decode prog_11_method_58_code 39 = .ok (.istore 6, 2) := by decide +kernel
theorem od_Mo_inCase_41 : decode prog_11_method_58_code 41 = .ok (.iload_n 2, 1) := by decide +kernel
theorem od_Mo_inCase_42 : decode prog_11_method_58_code 42 = .ok (.ifCond .eq (43), 3) := by decide +kernel
theorem od_Mo_inCase_45 : decode prog_11_method_58_code 45 = .ok (.aload_n 0, 1) := by decide +kernel
theorem od_Mo_inCase_46 : decode prog_11_method_58_code 46 = .ok (.getfield 26, 3) := by decide +kernel
theorem od_Mo_inCase_49 : decode prog_11_method_58_code 49 = .ok (.iload_n 1, 1) := by decide +kernel
theorem od_Mo_inCase_50 : decode prog_11_method_58_code 50 = .ok (.iaload, 1) := by decide +kernel
theorem od_Mo_inCase_51 : decode prog_11_method_58_code 51 = .ok (.iload_n 3, 1) := by decide +kernel
theorem od_Mo_inCase_52 : decode prog_11_method_58_code 52 = .ok (.invokestatic 272, 3) := by decide +kernel
theorem od_Mo_inCase_55 : decode prog_11_method_58_code 55 = .ok (.ifCond .eq (8), 3) := by decide +kernel
theorem od_Mo_inCase_58 : decode prog_11_method_58_code 58 = .ok (.iload 6, 2) := by decide +kernel
theorem od_Mo_inCase_60 : decode prog_11_method_58_code 60 = .ok (.ifCond .eq (25), 3) := by decide +kernel
theorem od_Mo_inCase_63 : decode prog_11_method_58_code 63 = .ok (.aload_n 0, 1) := by decide +kernel
theorem od_Mo_inCase_64 : decode prog_11_method_58_code 64 = .ok (.getfield 29, 3) := by decide +kernel
theorem od_Mo_inCase_67 : decode prog_11_method_58_code 67 = .ok (.iload_n 1, 1) := by decide +kernel
theorem od_Mo_inCase_68 : decode prog_11_method_58_code 68 = .ok (.iaload, 1) := by decide +kernel
theorem od_Mo_inCase_69 : decode prog_11_method_58_code 69 = .ok (.iload_n 3, 1) := by decide +kernel
theorem od_Mo_inCase_70 : decode prog_11_method_58_code 70 = .ok (.invokestatic 272, 3) := by decide +kernel
theorem od_Mo_inCase_73 : decode prog_11_method_58_code 73 = .ok (.ifCond .eq (8), 3) := by decide +kernel
theorem od_Mo_inCase_76 : decode prog_11_method_58_code 76 = .ok (.iload 6, 2) := by decide +kernel
theorem od_Mo_inCase_78 : decode prog_11_method_58_code 78 = .ok (.ifCond .ne (7), 3) := by decide +kernel
theorem od_Mo_inCase_81 : decode prog_11_method_58_code 81 = .ok (.iconst 1, 1) := by decide +kernel
theorem od_Mo_inCase_82 : decode prog_11_method_58_code 82 = .ok (.goto (4), 3) := by decide +kernel
theorem od_Mo_inCase_85 : decode prog_11_method_58_code 85 = .ok (.iconst 0, 1) := by decide +kernel
theorem od_Mo_inCase_86 : decode prog_11_method_58_code 86 = .ok (.istore_n 2, 1) := by decide +kernel
theorem od_Mo_inCase_87 : decode prog_11_method_58_code 87 = .ok (.iinc 3 (1), 3) := by decide +kernel
theorem od_Mo_inCase_90 : decode prog_11_method_58_code 90 = .ok (.iinc 5 (1), 3) := by decide +kernel
theorem od_Mo_inCase_93 : decode prog_11_method_58_code 93 = .ok (.goto (-71), 3) := by decide +kernel
theorem od_Mo_inCase_96 : decode prog_11_method_58_code 96 = .ok (.iinc 4 (1), 3) := by decide +kernel
theorem od_Mo_inCase_99 : decode prog_11_method_58_code 99 = .ok (.goto (-92), 3) := by decide +kernel
theorem od_Mo_inCase_102 : decode prog_11_method_58_code 102 = .ok (.iload_n 2, 1) := by decide +kernel
theorem od_Mo_inCase_103 : decode prog_11_method_58_code 103 = .ok (.ireturn, 1) := by decide +kernel
theorem od_Mo_covers_0 : decode prog_11_method_59_code 0 = .ok (.aload_n 0, 1) := by decide +kernel
theorem od_Mo_covers_1 : decode prog_11_method_59_code 1 = .ok (.getfield 187, 3) := by decide +kernel
theorem od_Mo_covers_4 : decode prog_11_method_59_code 4 = .ok (.ifCond .le (7), 3) := by decide +kernel
theorem od_Mo_covers_7 : decode prog_11_method_59_code 7 = .ok (.iconst 1, 1) := by decide +kernel
theorem od_Mo_covers_8 : decode prog_11_method_59_code 8 = .ok (.goto (4), 3) := by decide +kernel
theorem od_Mo_covers_11 : decode prog_11_method_59_code 11 = .ok (.iconst 0, 1) := by decide +kernel
theorem od_Mo_covers_12 : decode prog_11_method_59_code 12 = .ok (.istore_n 1, 1) := by decide +kernel
theorem od_Mo_covers_13 : decode prog_11_method_59_code 13 = .ok (.aload_n 0, 1) := by decide +kernel
theorem od_Mo_covers_14 : decode prog_11_method_59_code 14 = .ok (.getfield 187, 3) := by decide +kernel
theorem od_Mo_covers_17 : decode prog_11_method_59_code 17 = .ok (.ifCond .le (7), 3) := by decide +kernel
theorem od_Mo_covers_20 : decode prog_11_method_59_code 20 = .ok (.iconst 1, 1) := by decide +kernel
theorem od_Mo_covers_21 : decode prog_11_method_59_code 21 = .ok (.goto (4), 3) := by decide +kernel
theorem od_Mo_covers_24 : decode prog_11_method_59_code 24 = .ok (.iconst 0, 1) := by decide +kernel
theorem od_Mo_covers_25 : decode prog_11_method_59_code 25 = .ok (.istore_n 2, 1) := by decide +kernel
theorem od_Mo_covers_26 : decode prog_11_method_59_code 26 = .ok (.aload_n 0, 1) := by decide +kernel
theorem od_Mo_covers_27 : decode prog_11_method_59_code 27 = .ok (.invokevirtual 251, 3) := by decide +kernel
theorem od_Mo_covers_30 : decode prog_11_method_59_code 30 = .ok (.iload_n 1, 1) := by decide +kernel
theorem od_Mo_covers_31 : decode prog_11_method_59_code 31 = .ok (.ifCond .eq (58), 3) := by decide +kernel
theorem od_Mo_covers_34 : decode prog_11_method_59_code 34 = .ok (.iload_n 2, 1) := by decide +kernel
theorem od_Mo_covers_35 : decode prog_11_method_59_code 35 = .ok (.ifCond .eq (54), 3) := by decide +kernel
theorem od_Mo_covers_38 : decode prog_11_method_59_code 38 = .ok (.aload_n 0, 1) := by decide +kernel
theorem od_Mo_covers_39 : decode prog_11_method_59_code 39 = .ok (.invokevirtual 254, 3) := by decide +kernel
theorem od_Mo_covers_42 : decode prog_11_method_59_code 42 = .ok (.ifCond .eq (39), 3) := by decide +kernel
theorem od_Mo_covers_45 : decode prog_11_method_59_code 45 = .ok (.iconst 0, 1) := by decide +kernel
theorem od_Mo_covers_46 : decode prog_11_method_59_code 46 = .ok (.istore_n 2, 1) := by decide +kernel
theorem od_Mo_covers_47 : decode prog_11_method_59_code 47 = .ok (.iconst 0, 1) := by decide +kernel
theorem od_Mo_covers_48 : decode prog_11_method_59_code 48 = .ok (.istore_n 3, 1) := by decide +kernel
theorem od_Mo_covers_49 : decode prog_11_method_59_code 49 = .ok (.iload_n 3, 1) := by decide +kernel
theorem od_Mo_covers_50 : decode prog_11_method_59_code 50 = .ok (.aload_n 0, 1) := by decide +kernel
theorem od_Mo_covers_51 : decode prog_11_method_59_code 51 = .ok (.getfield 196, 3) := by decide +kernel
theorem od_Mo_covers_54 : decode prog_11_method_59_code 54 = .ok (.if_icmp .ge (27), 3) := by decide +kernel
theorem od_Mo_covers_57 : decode prog_11_method_59_code 57 = .ok (.iload_n 2, 1) := by decide +kernel
theorem od_Mo_covers_58 : decode prog_11_method_59_code 58 = .ok (.ifCond .ne (11), 3) := by decide +kernel
theorem od_Mo_covers_61 : decode prog_11_method_59_code 61 = .ok (.aload_n 0, 1) := by decide +kernel
theorem od_Mo_covers_62 : decode prog_11_method_59_code 62 = .ok (.iload_n 3, 1) := by decide +kernel
theorem od_Mo_covers_63 : decode prog_11_method_59_code 63 = .ok (.invokevirtual 275, 3) := by decide +kernel
theorem od_Mo_covers_66 : decode prog_11_method_59_code 66 = .ok (.ifCond .eq (7), 3) := by decide +kernel
theorem od_Mo_covers_69 : decode prog_11_method_59_code 69 = .ok (.iconst 1, 1) := by decide +kernel
theorem od_Mo_covers_70 : decode prog_11_method_59_code 70 = .ok (.goto (4), 3) := by decide +kernel
theorem od_Mo_covers_73 : decode prog_11_method_59_code 73 = .ok (.iconst 0, 1) := by decide +kernel
theorem od_Mo_covers_74 : decode prog_11_method_59_code 74 = .ok (.istore_n 2, 1) := by decide +kernel
theorem od_Mo_covers_75 : decode prog_11_method_59_code 75 = .ok (.iinc 3 (1), 3) := by decide +kernel
theorem od_Mo_covers_78 : decode prog_11_method_59_code 78 = .ok (.goto (-29), 3) := by decide +kernel
theorem od_Mo_covers_81 : decode prog_11_method_59_code 81 = .ok (.aload_n 0, 1) := by decide +kernel
theorem od_Mo_covers_82 : decode prog_11_method_59_code 82 = .ok (.invokevirtual 263, 3) := by decide +kernel
theorem od_Mo_covers_85 : decode prog_11_method_59_code 85 = .ok (.istore_n 1, 1) := by decide +kernel
theorem od_Mo_covers_86 : decode prog_11_method_59_code 86 = .ok (.goto (-56), 3) := by decide +kernel
theorem od_Mo_covers_89 : decode prog_11_method_59_code 89 = .ok (.iload_n 2, 1) := by decide +kernel
theorem od_Mo_covers_90 : decode prog_11_method_59_code 90 = .ok (.ireturn, 1) := by decide +kernel
theorem od_Mo_caseBound_0 : decode prog_11_method_60_code 0 = .ok (.iload_n 1, 1) := by decide +kernel
theorem od_Mo_caseBound_1 : decode prog_11_method_60_code 1 = .ok (.ifCond .lt (11), 3) := by decide +kernel
theorem od_Mo_caseBound_4 : decode prog_11_method_60_code 4 = .ok (.iload_n 1, 1) := by decide +kernel
theorem od_Mo_caseBound_5 : decode prog_11_method_60_code 5 = .ok (.aload_n 0, 1) := by decide +kernel
theorem od_Mo_caseBound_6 : decode prog_11_method_60_code 6 = .ok (.getfield 196, 3) := by decide +kernel
theorem od_Mo_caseBound_9 : decode prog_11_method_60_code 9 = .ok (.if_icmp .lt (5), 3) := by decide +kernel
theorem od_Mo_caseBound_12 : decode prog_11_method_60_code 12 = .ok (.iconst (-1), 1) := by decide +kernel
theorem od_Mo_caseBound_13 : decode prog_11_method_60_code 13 = .ok (.ireturn, 1) := by decide +kernel
theorem od_Mo_caseBound_14 : decode prog_11_method_60_code 14 = .ok (.iconst 0, 1) := by decide +kernel
theorem od_Mo_caseBound_15 : decode prog_11_method_60_code 15 = .ok (.istore_n 2, 1) := by decide +kernel
theorem od_Mo_caseBound_16 : decode prog_11_method_60_code 16 = .ok (.iconst 0, 1) := by decide +kernel
theorem od_Mo_caseBound_17 : decode prog_11_method_60_code 17 = .ok (.istore_n 3, 1) := by decide +kernel
theorem od_Mo_caseBound_18 : decode prog_11_method_60_code 18 = .ok (.iload_n 3, 1) := by decide +kernel
theorem od_Mo_caseBound_19 : decode prog_11_method_60_code 19 = .ok (.aload_n 0, 1) := by decide +kernel
theorem od_Mo_caseBound_20 : decode prog_11_method_60_code 20 = .ok (.getfield 187, 3) := by decide +kernel
theorem od_Mo_caseBound_23 : decode prog_11_method_60_code 23 = .ok (.if_icmp .ge (81), 3) := by decide +kernel
theorem od_Mo_caseBound_26 : decode prog_11_method_60_code 26 = .ok (.iload_n 3, 1) := by decide +kernel
theorem od_Mo_caseBound_27 : decode prog_11_method_60_code 27 = .ok (.iconst 1, 1) := by decide +kernel
