theorem od_T_degree_4 : decode prog_1_method_11_code 4 = .ok (.iload_n 1, 1) := by decide +kernel
theorem od_T_degree_5 : decode prog_1_method_11_code 5 = .ok (.invokevirtual 98, 3) := by decide +kernel
theorem od_T_degree_8 : decode prog_1_method_11_code 8 = .ok (.ifCond .eq (27), 3) := by decide +kernel
theorem od_T_degree_11 : decode prog_1_method_11_code 11 = .ok (.aload_n 0, 1) := by decide +kernel
theorem od_T_degree_12 : decode prog_1_method_11_code 12 = .ok (.getfield 37, 3) := by decide +kernel
theorem od_T_degree_15 : decode prog_1_method_11_code 15 = .ok (.aload_n 0, 1) := by decide +kernel
theorem od_T_degree_16 : decode prog_1_method_11_code 16 = .ok (.getfield 28, 3) := by decide +kernel
theorem od_T_degree_19 : decode prog_1_method_11_code 19 = .ok (.getfield 119, 3) := by decide +kernel
theorem od_T_degree_22 : decode prog_1_method_11_code 22 = .ok (.aload_n 0, 1) := by decide +kernel
theorem od_T_degree_23 : decode prog_1_method_11_code 23 = .ok (.getfield 28, 3) := by decide +kernel
theorem od_T_degree_26 : decode prog_1_method_11_code 26 = .ok (.getfield 122, 3) := by decide +kernel
theorem od_T_degree_29 : decode prog_1_method_11_code 29 = .ok (.invokevirtual 128, 3) := by decide +kernel
theorem od_T_degree_32 : decode prog_1_method_11_code 32 = .ok (.ifCond .ne (5), 3) := by decide +kernel
theorem od_T_degree_35 : decode prog_1_method_11_code 35 = .ok (.iconst (-1), 1) := by decide +kernel
theorem od_T_degree_36 : decode prog_1_method_11_code 36 = .ok (.ireturn, 1) := by decide +kernel
theorem od_T_degree_37 : decode prog_1_method_11_code 37 = .ok (.aload_n 0, 1) := by decide +kernel
theorem od_T_degree_38 : decode prog_1_method_11_code 38 = .ok (.getfield 37, 3) := by decide +kernel
theorem od_T_degree_41 : decode prog_1_method_11_code 41 = .ok (.getfield 132, 3) := by decide +kernel
theorem od_T_degree_44 : decode prog_1_method_11_code 44 = .ok (.iload_n 1, 1) := by decide +kernel
theorem od_T_degree_45 : decode prog_1_method_11_code 45 = .ok (.iaload, 1) := by decide +kernel
theorem od_T_degree_46 : decode prog_1_method_11_code 46 = .ok (.ireturn, 1) := by decide +kernel
theorem od_T_ascended_0 : decode prog_1_method_23_code 0 = .ok (.aload_n 0, 1) := by decide +kernel
theorem od_T_ascended_1 : decode prog_1_method_23_code 1 = .ok (.getfield 28, 3) := by decide +kernel
theorem od_T_ascended_4 : decode prog_1_method_23_code 4 = .ok (.getfield 116, 3) := by decide +kernel
theorem od_T_ascended_7 : decode prog_1_method_23_code 7 = .ok (.iload_n 1, 1) := by decide +kernel
theorem od_T_ascended_8 : decode prog_1_method_23_code 8 = .ok (.iaload, 1) := by decide +kernel
theorem od_T_ascended_9 : decode prog_1_method_23_code 9 = .ok (.iload_n 2, 1) := by decide +kernel
theorem od_T_ascended_10 : decode prog_1_method_23_code 10 = .ok (.aload_n 0, 1) := by decide +kernel
theorem od_T_ascended_11 : decode prog_1_method_23_code 11 = .ok (.getfield 37, 3) := by decide +kernel
theorem od_T_ascended_14 : decode prog_1_method_23_code 14 = .ok (.getfield 132, 3) := by decide +kernel
theorem od_T_ascended_17 : decode prog_1_method_23_code 17 = .ok (.iload_n 1, 1) := by decide +kernel
theorem od_T_ascended_18 : decode prog_1_method_23_code 18 = .ok (.iaload, 1) := by decide +kernel
theorem od_T_ascended_19 : decode prog_1_method_23_code 19 = .ok (.iconst 2, 1) := by decide +kernel
theorem od_T_ascended_20 : decode prog_1_method_23_code 20 = .ok (.isub, 1) := by decide +kernel
theorem od_T_ascended_21 : decode prog_1_method_23_code 21 = .ok (.imul, 1) := by decide +kernel
theorem od_T_ascended_22 : decode prog_1_method_23_code 22 = .ok (.iadd, 1) := by decide +kernel
theorem od_T_ascended_23 : decode prog_1_method_23_code 23 = .ok (.ireturn, 1) := by decide +kernel
theorem od_T_ascend_0 : decode prog_1_method_12_code 0 = .ok (.iload_n 1, 1) := by decide +kernel
theorem od_T_ascend_1 : decode prog_1_method_12_code 1 = .ok (.iconst 1, 1) := by decide +kernel
theorem od_T_ascend_2 : decode prog_1_method_12_code 2 = .ok (.if_icmp .lt (34), 3) := by decide +kernel
theorem od_T_ascend_5 : decode prog_1_method_12_code 5 = .ok (.iload_n 1, 1) := by decide +kernel
theorem od_T_ascend_6 : decode prog_1_method_12_code 6 = .ok (.sipush (1000), 3) := by decide +kernel
theorem od_T_ascend_9 : decode prog_1_method_12_code 9 = .ok (.if_icmp .gt (27), 3) := by decide +kernel
theorem od_T_ascend_12 : decode prog_1_method_12_code 12 = .ok (.aload_n 0, 1) := by decide +kernel
theorem od_T_ascend_13 : decode prog_1_method_12_code 13 = .ok (.getfield 37, 3) := by decide +kernel
theorem od_T_ascend_16 : decode prog_1_method_12_code 16 = .ok (.aload_n 0, 1) := by decide +kernel
theorem od_T_ascend_17 : decode prog_1_method_12_code 17 = .ok (.getfield 28, 3) := by decide +kernel
theorem od_T_ascend_20 : decode prog_1_method_12_code 20 = .ok (.getfield 119, 3) := by decide +kernel
theorem od_T_ascend_23 : decode prog_1_method_12_code 23 = .ok (.aload_n 0, 1) := by decide +kernel
theorem od_T_ascend_24 : decode prog_1_method_12_code 24 = .ok (.getfield 28, 3) := by decide +kernel
theorem od_T_ascend_27 : decode prog_1_method_12_code 27 = .ok (.getfield 122, 3) := by decide +kernel
theorem od_T_ascend_30 : decode prog_1_method_12_code 30 = .ok (.invokevirtual 128, 3) := by decide +kernel
theorem od_T_ascend_33 : decode prog_1_method_12_code 33 = .ok (.ifCond .ne (5), 3) := by decide +kernel
theorem od_T_ascend_36 : decode prog_1_method_12_code 36 = .ok (.iconst (-1), 1) := by decide +kernel
theorem od_T_ascend_37 : decode prog_1_method_12_code 37 = .ok (.ireturn, 1) := by decide +kernel
theorem od_T_ascend_38 : decode prog_1_method_12_code 38 = .ok (.iconst 0, 1) := by decide +kernel
theorem od_T_ascend_39 : decode prog_1_method_12_code 39 = .ok (.istore_n 2, 1) := by decide +kernel
theorem od_T_ascend_40 : decode prog_1_method_12_code 40 = .ok (.iload_n 2, 1) := by decide +kernel
theorem od_T_ascend_41 : decode prog_1_method_12_code 41 = .ok (.aload_n 0, 1) := by decide +kernel
theorem od_T_ascend_42 : decode prog_1_method_12_code 42 = .ok (.getfield 28, 3) := by decide +kernel
theorem od_T_ascend_45 : decode prog_1_method_12_code 45 = .ok (.getfield 95, 3) := by decide +kernel
theorem od_T_ascend_48 : decode prog_1_method_12_code 48 = .ok (.if_icmp .ge (23), 3) := by decide +kernel
theorem od_T_ascend_51 : decode prog_1_method_12_code 51 = .ok (.aload_n 0, 1) := by decide +kernel
theorem od_T_ascend_52 : decode prog_1_method_12_code 52 = .ok (.iload_n 2, 1) := by decide +kernel
theorem od_T_ascend_53 : decode prog_1_method_12_code 53 = .ok (.iload_n 1, 1) := by decide +kernel
theorem od_T_ascend_54 : decode prog_1_method_12_code 54 = .ok (.invokevirtual 135, 3) := by decide +kernel
theorem od_T_ascend_57 : decode prog_1_method_12_code 57 = .ok (.invokestatic 113, 3) := by decide +kernel
theorem od_T_ascend_60 : decode prog_1_method_12_code 60 = .ok (.ifCond .ne (5), 3) := by decide +kernel
theorem od_T_ascend_63 : decode prog_1_method_12_code 63 = .ok (.iconst (-1), 1) := by decide +kernel
theorem od_T_ascend_64 : decode prog_1_method_12_code 64 = .ok (.ireturn, 1) := by decide +kernel
theorem od_T_ascend_65 : decode prog_1_method_12_code 65 = .ok (.iinc 2 (1), 3) := by decide +kernel
theorem od_T_ascend_68 : decode prog_1_method_12_code 68 = .ok (.goto (-28), 3) := by decide +kernel
theorem od_T_ascend_71 : decode prog_1_method_12_code 71 = .ok (.iconst 0, 1) := by decide +kernel
theorem od_T_ascend_72 : decode prog_1_method_12_code 72 = .ok (.istore_n 2, 1) := by decide +kernel
theorem od_T_ascend_73 : decode prog_1_method_12_code 73 = .ok (.iload_n 2, 1) := by decide +kernel
theorem od_T_ascend_74 : decode prog_1_method_12_code 74 = .ok (.aload_n 0, 1) := by decide +kernel
theorem od_T_ascend_75 : decode prog_1_method_12_code 75 = .ok (.getfield 28, 3) := by decide +kernel
theorem od_T_ascend_78 : decode prog_1_method_12_code 78 = .ok (.getfield 95, 3) := by decide +kernel
theorem od_T_ascend_81 : decode prog_1_method_12_code 81 = .ok (.if_icmp .ge (24), 3) := by decide +kernel
theorem od_T_ascend_84 : decode prog_1_method_12_code 84 = .ok (.aload_n 0, 1) := by decide +kernel
theorem od_T_ascend_85 : decode prog_1_method_12_code 85 = .ok (.getfield 28, 3) := by decide +kernel
theorem od_T_ascend_88 : decode prog_1_method_12_code 88 = .ok (.getfield 116, 3) := by decide +kernel
theorem od_T_ascend_91 : decode prog_1_method_12_code 91 = .ok (.iload_n 2, 1) := by decide +kernel
theorem od_T_ascend_92 : decode prog_1_method_12_code 92 = .ok (.aload_n 0, 1) := by decide +kernel
theorem od_T_ascend_93 : decode prog_1_method_12_code 93 = .ok (.iload_n 2, 1) := by decide +kernel
theorem od_T_ascend_94 : decode prog_1_method_12_code 94 = .ok (.iload_n 1, 1) := by decide +kernel
theorem od_T_ascend_95 : decode prog_1_method_12_code 95 = .ok (.invokevirtual 135, 3) := by decide +kernel
theorem od_T_ascend_98 : decode prog_1_method_12_code 98 = .ok (.iastore, 1) := by decide +kernel
theorem od_T_ascend_99 : decode prog_1_method_12_code 99 = .ok (.iinc 2 (1), 3) := by decide +kernel
theorem od_T_ascend_102 : decode prog_1_method_12_code 102 = .ok (.goto (-29), 3) := by decide +kernel
theorem od_T_ascend_105 : decode prog_1_method_12_code 105 = .ok (.aload_n 0, 1) := by decide +kernel
theorem od_T_ascend_106 : decode prog_1_method_12_code 106 = .ok (.invokevirtual 138, 3) := by decide +kernel
theorem od_T_ascend_109 : decode prog_1_method_12_code 109 = .ok (.ireturn, 1) := by decide +kernel
theorem od_T_keepsTo_0 : decode prog_1_method_24_code 0 = .ok (.iload_n 0, 1) := by decide +kernel
theorem od_T_keepsTo_1 : decode prog_1_method_24_code 1 = .ok (.iload_n 1, 1) := by decide +kernel
theorem od_T_keepsTo_2 : decode prog_1_method_24_code 2 = .ok (.iand, 1) := by decide +kernel
theorem od_T_keepsTo_3 : decode prog_1_method_24_code 3 = .ok (.iload_n 1, 1) := by decide +kernel
theorem od_T_keepsTo_4 : decode prog_1_method_24_code 4 = .ok (.if_icmp .ne (13), 3) := by decide +kernel
theorem od_T_keepsTo_7 : decode prog_1_method_24_code 7 = .ok (.iload_n 0, 1) := by decide +kernel
theorem od_T_keepsTo_8 : decode prog_1_method_24_code 8 = .ok (.iload_n 2, 1) := by decide +kernel
theorem od_T_keepsTo_9 : decode prog_1_method_24_code 9 = .ok (.iand, 1) := by decide +kernel
theorem od_T_keepsTo_10 : decode prog_1_method_24_code 10 = .ok (.ifCond .ne (7), 3) := by decide +kernel
theorem od_T_keepsTo_13 : decode prog_1_method_24_code 13 = .ok (.iconst 1, 1) := by decide +kernel
theorem od_T_keepsTo_14 : decode prog_1_method_24_code 14 = .ok (.goto (4), 3) := by decide +kernel
theorem od_T_keepsTo_17 : decode prog_1_method_24_code 17 = .ok (.iconst 0, 1) := by decide +kernel
theorem od_T_keepsTo_18 : decode prog_1_method_24_code 18 = .ok (.ireturn, 1) := by decide +kernel
theorem od_TourList_isAllowed_0 : decode prog_9_method_5_code 0 = .ok (.aload_n 0, 1) := by decide +kernel
theorem od_TourList_isAllowed_1 : decode prog_9_method_5_code 1 = .ok (.getfield 15, 3) := by decide +kernel
theorem od_TourList_isAllowed_4 : decode prog_9_method_5_code 4 = .ok (.iload_n 1, 1) := by decide +kernel
theorem od_TourList_isAllowed_5 : decode prog_9_method_5_code 5 = .ok (.iaload, 1) := by decide +kernel
theorem od_TourList_isAllowed_6 : decode prog_9_method_5_code 6 = .ok (.aload_n 0, 1) := by decide +kernel
theorem od_TourList_isAllowed_7 : decode prog_9_method_5_code 7 = .ok (.getfield 25, 3) := by decide +kernel
theorem od_TourList_isAllowed_10 : decode prog_9_method_5_code 10 = .ok (.getfield 49, 3) := by decide +kernel
theorem od_TourList_isAllowed_13 : decode prog_9_method_5_code 13 = .ok (.aload_n 0, 1) := by decide +kernel
theorem od_TourList_isAllowed_14 : decode prog_9_method_5_code 14 = .ok (.getfield 25, 3) := by decide +kernel
theorem od_TourList_isAllowed_17 : decode prog_9_method_5_code 17 = .ok (.getfield 52, 3) := by decide +kernel
theorem od_TourList_isAllowed_20 : decode prog_9_method_5_code 20 = .ok (.invokestatic 55, 3) := by decide +kernel
theorem od_TourList_isAllowed_23 : decode prog_9_method_5_code 23 = .ok (.ireturn, 1) := by decide +kernel
theorem od_TourList_firstLeast_0 : decode prog_9_method_3_code 0 = .ok (.iconst (-1), 1) := by decide +kernel
theorem od_TourList_firstLeast_1 : decode prog_9_method_3_code 1 = .ok (.istore_n 1, 1) := by decide +kernel
theorem od_TourList_firstLeast_2 : decode prog_9_method_3_code 2 = .ok (.iconst 0, 1) := by decide +kernel
theorem od_TourList_firstLeast_3 : decode prog_9_method_3_code 3 = .ok (.istore_n 2, 1) := by decide +kernel
theorem od_TourList_firstLeast_4 : decode prog_9_method_3_code 4 = .ok (.iload_n 2, 1) := by decide +kernel
theorem od_TourList_firstLeast_5 : decode prog_9_method_3_code 5 = .ok (.aload_n 0, 1) := by decide +kernel
theorem od_TourList_firstLeast_6 : decode prog_9_method_3_code 6 = .ok (.getfield 21, 3) := by decide +kernel
theorem od_TourList_firstLeast_9 : decode prog_9_method_3_code 9 = .ok (.if_icmp .ge (38), 3) := by decide +kernel
theorem od_TourList_firstLeast_12 : decode prog_9_method_3_code 12 = .ok (.aload_n 0, 1) := by decide +kernel
theorem od_TourList_firstLeast_13 : decode prog_9_method_3_code 13 = .ok (.iload_n 2, 1) := by decide +kernel
theorem od_TourList_firstLeast_14 : decode prog_9_method_3_code 14 = .ok (.invokevirtual 41, 3) := by decide +kernel
theorem od_TourList_firstLeast_17 : decode prog_9_method_3_code 17 = .ok (.ifCond .eq (24), 3) := by decide +kernel
theorem od_TourList_firstLeast_20 : decode prog_9_method_3_code 20 = .ok (.iload_n 1, 1) := by decide +kernel
theorem od_TourList_firstLeast_21 : decode prog_9_method_3_code 21 = .ok (.ifCond .lt (18), 3) := by decide +kernel
theorem od_TourList_firstLeast_24 : decode prog_9_method_3_code 24 = .ok (.aload_n 0, 1) := by decide +kernel
theorem od_TourList_firstLeast_25 : decode prog_9_method_3_code 25 = .ok (.getfield 18, 3) := by decide +kernel
theorem od_TourList_firstLeast_28 : decode prog_9_method_3_code 28 = .ok (.iload_n 2, 1) := by decide +kernel
theorem od_TourList_firstLeast_29 : decode prog_9_method_3_code 29 = .ok (.iaload, 1) := by decide +kernel
theorem od_TourList_firstLeast_30 : decode prog_9_method_3_code 30 = .ok (.aload_n 0, 1) := by decide +kernel
theorem od_TourList_firstLeast_31 : decode prog_9_method_3_code 31 = .ok (.getfield 18, 3) := by decide +kernel
theorem od_TourList_firstLeast_34 : decode prog_9_method_3_code 34 = .ok (.iload_n 1, 1) := by decide +kernel
theorem od_TourList_firstLeast_35 : decode prog_9_method_3_code 35 = .ok (.iaload, 1) := by decide +kernel
theorem od_TourList_firstLeast_36 : decode prog_9_method_3_code 36 = .ok (.if_icmp .ge (5), 3) := by decide +kernel
theorem od_TourList_firstLeast_39 : decode prog_9_method_3_code 39 = .ok (.iload_n 2, 1) := by decide +kernel
theorem od_TourList_firstLeast_40 : decode prog_9_method_3_code 40 = .ok (.istore_n 1, 1) := by decide +kernel
theorem od_TourList_firstLeast_41 : decode prog_9_method_3_code 41 = .ok (.iinc 2 (1), 3) := by decide +kernel
theorem od_TourList_firstLeast_44 : decode prog_9_method_3_code 44 = .ok (.goto (-40), 3) := by decide +kernel
theorem od_TourList_firstLeast_47 : decode prog_9_method_3_code 47 = .ok (.iload_n 1, 1) := by decide +kernel
theorem od_TourList_firstLeast_48 : decode prog_9_method_3_code 48 = .ok (.ireturn, 1) := by decide +kernel
theorem od_Round_follow_0 : decode prog_7_method_2_code 0 = .ok (.iconst 1, 1) := by decide +kernel
theorem od_Round_follow_1 : decode prog_7_method_2_code 1 = .ok (.istore_n 2, 1) := by decide +kernel
theorem od_Round_follow_2 : decode prog_7_method_2_code 2 = .ok (.aload_n 0, 1) := by decide +kernel
theorem od_Round_follow_3 : decode prog_7_method_2_code 3 = .ok (.getfield 9, 3) := by decide +kernel
theorem od_Round_follow_6 : decode prog_7_method_2_code 6 = .ok (.iconst 0, 1) := by decide +kernel
theorem od_Round_follow_7 : decode prog_7_method_2_code 7 = .ok (.iconst 0, 1) := by decide +kernel
theorem od_Round_follow_8 : decode prog_7_method_2_code 8 = .ok (.iastore, 1) := by decide +kernel
theorem od_Round_follow_9 : decode prog_7_method_2_code 9 = .ok (.iconst 1, 1) := by decide +kernel
theorem od_Round_follow_10 : decode prog_7_method_2_code 10 = .ok (.istore_n 3, 1) := by decide +kernel
theorem od_Round_follow_11 : decode prog_7_method_2_code 11 = .ok (.iload_n 3, 1) := by decide +kernel
theorem od_Round_follow_12 : decode prog_7_method_2_code 12 = .ok (.aload_n 0, 1) := by decide +kernel
theorem od_Round_follow_13 : decode prog_7_method_2_code 13 = .ok (.getfield 19, 3) := by decide +kernel
theorem od_Round_follow_16 : decode prog_7_method_2_code 16 = .ok (.getfield 23, 3) := by decide +kernel
theorem od_Round_follow_19 : decode prog_7_method_2_code 19 = .ok (.if_icmp .ge (93), 3) := by decide +kernel
theorem od_Round_follow_22 : decode prog_7_method_2_code 22 = .ok (.aload_n 0, 1) := by decide +kernel
theorem od_Round_follow_23 : decode prog_7_method_2_code 23 = .ok (.getfield 19, 3) := by decide +kernel
theorem od_Round_follow_26 : decode prog_7_method_2_code 26 = .ok (.getfield 23, 3) := by decide +kernel
theorem od_Round_follow_29 : decode prog_7_method_2_code 29 = .ok (.iconst 1, 1) := by decide +kernel
theorem od_Round_follow_30 : decode prog_7_method_2_code 30 = .ok (.isub, 1) := by decide +kernel
theorem od_Round_follow_31 : decode prog_7_method_2_code 31 = .ok (.istore 4, 2) := by decide +kernel
theorem od_Round_follow_33 : decode prog_7_method_2_code 33 = .ok (.iload 4, 2) := by decide +kernel
theorem od_Round_follow_35 : decode prog_7_method_2_code 35 = .ok (.ifCond .le (60), 3) := by decide +kernel
theorem od_Round_follow_38 : decode prog_7_method_2_code 38 = .ok (.iload_n 1, 1) := by decide +kernel
theorem od_Round_follow_39 : decode prog_7_method_2_code 39 = .ok (.aload_n 0, 1) := by decide +kernel
theorem od_Round_follow_40 : decode prog_7_method_2_code 40 = .ok (.getfield 19, 3) := by decide +kernel
theorem od_Round_follow_43 : decode prog_7_method_2_code 43 = .ok (.aload_n 0, 1) := by decide +kernel
theorem od_Round_follow_44 : decode prog_7_method_2_code 44 = .ok (.getfield 9, 3) := by decide +kernel
theorem od_Round_follow_47 : decode prog_7_method_2_code 47 = .ok (.iload_n 3, 1) := by decide +kernel
theorem od_Round_follow_48 : decode prog_7_method_2_code 48 = .ok (.iconst 1, 1) := by decide +kernel
theorem od_Round_follow_49 : decode prog_7_method_2_code 49 = .ok (.isub, 1) := by decide +kernel
theorem od_Round_follow_50 : decode prog_7_method_2_code 50 = .ok (.iaload, 1) := by decide +kernel
theorem od_Round_follow_51 : decode prog_7_method_2_code 51 = .ok (.iload 4, 2) := by decide +kernel
theorem od_Round_follow_53 : decode prog_7_method_2_code 53 = .ok (.invokevirtual 29, 3) := by decide +kernel
theorem od_Round_follow_56 : decode prog_7_method_2_code 56 = .ok (.iand, 1) := by decide +kernel
theorem od_Round_follow_57 : decode prog_7_method_2_code 57 = .ok (.ifCond .eq (7), 3) := by decide +kernel
theorem od_Round_follow_60 : decode prog_7_method_2_code 60 = .ok (.iconst 1, 1) := by decide +kernel
theorem od_Round_follow_61 : decode prog_7_method_2_code 61 = .ok (.goto (4), 3) := by decide +kernel
theorem od_Round_follow_64 : decode prog_7_method_2_code 64 = .ok (.iconst 0, 1) := by decide +kernel
theorem od_Round_follow_65 : decode prog_7_method_2_code 65 = .ok (.istore 5, 2) := by decide +kernel
theorem od_Round_follow_67 : decode prog_7_method_2_code 67 = .ok (.iload_n 2, 1) := by decide +kernel
theorem od_Round_follow_68 : decode prog_7_method_2_code 68 = .ok (.iload 4, 2) := by decide +kernel
theorem od_Round_follow_70 : decode prog_7_method_2_code 70 = .ok (.ishr, 1) := by decide +kernel
theorem od_Round_follow_71 : decode prog_7_method_2_code 71 = .ok (.iconst 1, 1) := by decide +kernel
theorem od_Round_follow_72 : decode prog_7_method_2_code 72 = .ok (.iand, 1) := by decide +kernel
theorem od_Round_follow_73 : decode prog_7_method_2_code 73 = .ok (.ifCond .ne (16), 3) := by decide +kernel
theorem od_Round_follow_76 : decode prog_7_method_2_code 76 = .ok (.iload 5, 2) := by decide +kernel
theorem od_Round_follow_78 : decode prog_7_method_2_code 78 = .ok (.ifCond .eq (11), 3) := by decide +kernel
theorem od_Round_follow_81 : decode prog_7_method_2_code 81 = .ok (.aload_n 0, 1) := by decide +kernel
theorem od_Round_follow_82 : decode prog_7_method_2_code 82 = .ok (.getfield 9, 3) := by decide +kernel
theorem od_Round_follow_85 : decode prog_7_method_2_code 85 = .ok (.iload_n 3, 1) := by decide +kernel
theorem od_Round_follow_86 : decode prog_7_method_2_code 86 = .ok (.iload 4, 2) := by decide +kernel
theorem od_Round_follow_88 : decode prog_7_method_2_code 88 = .ok (.iastore, 1) := by decide +kernel
theorem od_Round_follow_89 : decode prog_7_method_2_code 89 = .ok (.iinc 4 (-1), 3) := by decide +kernel
theorem od_Round_follow_92 : decode prog_7_method_2_code 92 = .ok (.goto (-59), 3) := by decide +kernel
theorem od_Round_follow_95 : decode prog_7_method_2_code 95 = .ok (.iload_n 2, 1) := by decide +kernel
theorem od_Round_follow_96 : decode prog_7_method_2_code 96 = .ok (.iconst 1, 1) := by decide +kernel
theorem od_Round_follow_97 : decode prog_7_method_2_code 97 = .ok (.aload_n 0, 1) := by decide +kernel
theorem od_Round_follow_98 : decode prog_7_method_2_code 98 = .ok (.getfield 9, 3) := by decide +kernel
theorem od_Round_follow_101 : decode prog_7_method_2_code 101 = .ok (.iload_n 3, 1) := by decide +kernel
theorem od_Round_follow_102 : decode prog_7_method_2_code 102 = .ok (.iaload, 1) := by decide +kernel
theorem od_Round_follow_103 : decode prog_7_method_2_code 103 = .ok (.ishl, 1) := by decide +kernel
theorem od_Round_follow_104 : decode prog_7_method_2_code 104 = .ok (.ior, 1) := by decide +kernel
theorem od_Round_follow_105 : decode prog_7_method_2_code 105 = .ok (.istore_n 2, 1) := by decide +kernel
theorem od_Round_follow_106 : decode prog_7_method_2_code 106 = .ok (.iinc 3 (1), 3) := by decide +kernel
theorem od_Round_follow_109 : decode prog_7_method_2_code 109 = .ok (.goto (-98), 3) := by decide +kernel
theorem od_Round_follow_112 : decode prog_7_method_2_code 112 = .ok (.aload_n 0, 1) := by decide +kernel
theorem od_Round_follow_113 : decode prog_7_method_2_code 113 = .ok (.iconst 1, 1) := by decide +kernel
theorem od_Round_follow_114 : decode prog_7_method_2_code 114 = .ok (.putfield 15, 3) := by decide +kernel
theorem od_Round_follow_117 : decode prog_7_method_2_code 117 = .ok (.return_, 1) := by decide +kernel
theorem od_T_solve_0 : decode prog_1_method_13_code 0 = .ok (.aload_n 0, 1) := by decide +kernel
theorem od_T_solve_1 : decode prog_1_method_13_code 1 = .ok (.getfield 44, 3) := by decide +kernel
theorem od_T_solve_4 : decode prog_1_method_13_code 4 = .ok (.invokevirtual 141, 3) := by decide +kernel
theorem od_T_solve_7 : decode prog_1_method_13_code 7 = .ok (.istore_n 1, 1) := by decide +kernel
theorem od_T_solve_8 : decode prog_1_method_13_code 8 = .ok (.iload_n 1, 1) := by decide +kernel
theorem od_T_solve_9 : decode prog_1_method_13_code 9 = .ok (.ifCond .ge (6), 3) := by decide +kernel
theorem od_T_solve_12 : decode prog_1_method_13_code 12 = .ok (.ldc 144, 2) := by decide +kernel
theorem od_T_solve_14 : decode prog_1_method_13_code 14 = .ok (.ireturn, 1) := by decide +kernel
theorem od_T_solve_15 : decode prog_1_method_13_code 15 = .ok (.aload_n 0, 1) := by decide +kernel
theorem od_T_solve_16 : decode prog_1_method_13_code 16 = .ok (.getfield 51, 3) := by decide +kernel
theorem od_T_solve_19 : decode prog_1_method_13_code 19 = .ok (.aload_n 0, 1) := by decide +kernel
theorem od_T_solve_20 : decode prog_1_method_13_code 20 = .ok (.getfield 44, 3) := by decide +kernel
theorem od_T_solve_23 : decode prog_1_method_13_code 23 = .ok (.getfield 145, 3) := by decide +kernel
theorem od_T_solve_26 : decode prog_1_method_13_code 26 = .ok (.iload_n 1, 1) := by decide +kernel
theorem od_T_solve_27 : decode prog_1_method_13_code 27 = .ok (.iaload, 1) := by decide +kernel
theorem od_T_solve_28 : decode prog_1_method_13_code 28 = .ok (.invokevirtual 148, 3) := by decide +kernel
theorem od_T_solve_31 : decode prog_1_method_13_code 31 = .ok (.aload_n 0, 1) := by decide +kernel
theorem od_T_solve_32 : decode prog_1_method_13_code 32 = .ok (.getfield 44, 3) := by decide +kernel
theorem od_T_solve_35 : decode prog_1_method_13_code 35 = .ok (.getfield 152, 3) := by decide +kernel
theorem od_T_solve_38 : decode prog_1_method_13_code 38 = .ok (.iload_n 1, 1) := by decide +kernel
theorem od_T_solve_39 : decode prog_1_method_13_code 39 = .ok (.iaload, 1) := by decide +kernel
theorem od_T_solve_40 : decode prog_1_method_13_code 40 = .ok (.ireturn, 1) := by decide +kernel
theorem od_TourList_countLeast_0 : decode prog_9_method_4_code 0 = .ok (.aload_n 0, 1) := by decide +kernel
theorem od_TourList_countLeast_1 : decode prog_9_method_4_code 1 = .ok (.invokevirtual 45, 3) := by decide +kernel
theorem od_TourList_countLeast_4 : decode prog_9_method_4_code 4 = .ok (.istore_n 1, 1) := by decide +kernel
theorem od_TourList_countLeast_5 : decode prog_9_method_4_code 5 = .ok (.iload_n 1, 1) := by decide +kernel
theorem od_TourList_countLeast_6 : decode prog_9_method_4_code 6 = .ok (.ifCond .ge (5), 3) := by decide +kernel
theorem od_TourList_countLeast_9 : decode prog_9_method_4_code 9 = .ok (.iconst 0, 1) := by decide +kernel
theorem od_TourList_countLeast_10 : decode prog_9_method_4_code 10 = .ok (.ireturn, 1) := by decide +kernel
theorem od_TourList_countLeast_11 : decode prog_9_method_4_code 11 = .ok (.iconst 0, 1) := by decide +kernel
theorem od_TourList_countLeast_12 : decode prog_9_method_4_code 12 = .ok (.istore_n 2, 1) := by decide +kernel
theorem od_TourList_countLeast_13 : decode prog_9_method_4_code 13 = .ok (.iload_n 1, 1) := by decide +kernel
theorem od_TourList_countLeast_14 : decode prog_9_method_4_code 14 = .ok (.istore_n 3, 1) := by decide +kernel
theorem od_TourList_countLeast_15 : decode prog_9_method_4_code 15 = .ok (.iload_n 3, 1) := by decide +kernel
theorem od_TourList_countLeast_16 : decode prog_9_method_4_code 16 = .ok (.aload_n 0, 1) := by decide +kernel
theorem od_TourList_countLeast_17 : decode prog_9_method_4_code 17 = .ok (.getfield 21, 3) := by decide +kernel
theorem od_TourList_countLeast_20 : decode prog_9_method_4_code 20 = .ok (.if_icmp .ge (35), 3) := by decide +kernel
theorem od_TourList_countLeast_23 : decode prog_9_method_4_code 23 = .ok (.aload_n 0, 1) := by decide +kernel
theorem od_TourList_countLeast_24 : decode prog_9_method_4_code 24 = .ok (.getfield 18, 3) := by decide +kernel
theorem od_TourList_countLeast_27 : decode prog_9_method_4_code 27 = .ok (.iload_n 3, 1) := by decide +kernel
theorem od_TourList_countLeast_28 : decode prog_9_method_4_code 28 = .ok (.iaload, 1) := by decide +kernel
theorem od_TourList_countLeast_29 : decode prog_9_method_4_code 29 = .ok (.aload_n 0, 1) := by decide +kernel
theorem od_TourList_countLeast_30 : decode prog_9_method_4_code 30 = .ok (.getfield 18, 3) := by decide +kernel
theorem od_TourList_countLeast_33 : decode prog_9_method_4_code 33 = .ok (.iload_n 1, 1) := by decide +kernel
theorem od_TourList_countLeast_34 : decode prog_9_method_4_code 34 = .ok (.iaload, 1) := by decide +kernel
theorem od_TourList_countLeast_35 : decode prog_9_method_4_code 35 = .ok (.if_icmp .ne (14), 3) := by decide +kernel
theorem od_TourList_countLeast_38 : decode prog_9_method_4_code 38 = .ok (.aload_n 0, 1) := by decide +kernel
theorem od_TourList_countLeast_39 : decode prog_9_method_4_code 39 = .ok (.iload_n 3, 1) := by decide +kernel
theorem od_TourList_countLeast_40 : decode prog_9_method_4_code 40 = .ok (.invokevirtual 41, 3) := by decide +kernel
theorem od_TourList_countLeast_43 : decode prog_9_method_4_code 43 = .ok (.ifCond .eq (6), 3) := by decide +kernel
theorem od_TourList_countLeast_46 : decode prog_9_method_4_code 46 = .ok (.iinc 2 (1), 3) := by decide +kernel
theorem od_TourList_countLeast_49 : decode prog_9_method_4_code 49 = .ok (.iinc 3 (1), 3) := by decide +kernel
theorem od_TourList_countLeast_52 : decode prog_9_method_4_code 52 = .ok (.goto (-37), 3) := by decide +kernel
theorem od_TourList_countLeast_55 : decode prog_9_method_4_code 55 = .ok (.iload_n 2, 1) := by decide +kernel
theorem od_TourList_countLeast_56 : decode prog_9_method_4_code 56 = .ok (.ireturn, 1) := by decide +kernel
theorem od_T_ties_0 : decode prog_1_method_14_code 0 = .ok (.aload_n 0, 1) := by decide +kernel
theorem od_T_ties_1 : decode prog_1_method_14_code 1 = .ok (.getfield 44, 3) := by decide +kernel
theorem od_T_ties_4 : decode prog_1_method_14_code 4 = .ok (.invokevirtual 155, 3) := by decide +kernel
theorem od_T_ties_7 : decode prog_1_method_14_code 7 = .ok (.ireturn, 1) := by decide +kernel
theorem od_Round_nearest_0 : decode prog_7_method_4_code 0 = .ok (.iconst 0, 1) := by decide +kernel
theorem od_Round_nearest_1 : decode prog_7_method_4_code 1 = .ok (.istore_n 3, 1) := by decide +kernel
theorem od_Round_nearest_2 : decode prog_7_method_4_code 2 = .ok (.iconst 1, 1) := by decide +kernel
theorem od_Round_nearest_3 : decode prog_7_method_4_code 3 = .ok (.istore 4, 2) := by decide +kernel
theorem od_Round_nearest_5 : decode prog_7_method_4_code 5 = .ok (.iload 4, 2) := by decide +kernel
theorem od_Round_nearest_7 : decode prog_7_method_4_code 7 = .ok (.aload_n 0, 1) := by decide +kernel
theorem od_Round_nearest_8 : decode prog_7_method_4_code 8 = .ok (.getfield 19, 3) := by decide +kernel
theorem od_Round_nearest_11 : decode prog_7_method_4_code 11 = .ok (.getfield 23, 3) := by decide +kernel
theorem od_Round_nearest_14 : decode prog_7_method_4_code 14 = .ok (.if_icmp .ge (59), 3) := by decide +kernel
theorem od_Round_nearest_17 : decode prog_7_method_4_code 17 = .ok (.iload_n 2, 1) := by decide +kernel
theorem od_Round_nearest_18 : decode prog_7_method_4_code 18 = .ok (.iload 4, 2) := by decide +kernel
theorem od_Round_nearest_20 : decode prog_7_method_4_code 20 = .ok (.ishr, 1) := by decide +kernel
theorem od_Round_nearest_21 : decode prog_7_method_4_code 21 = .ok (.iconst 1, 1) := by decide +kernel
theorem od_Round_nearest_22 : decode prog_7_method_4_code 22 = .ok (.iand, 1) := by decide +kernel
theorem od_Round_nearest_23 : decode prog_7_method_4_code 23 = .ok (.ifCond .ne (7), 3) := by decide +kernel
theorem od_Round_nearest_26 : decode prog_7_method_4_code 26 = .ok (.iconst 1, 1) := by decide +kernel
theorem od_Round_nearest_27 : decode prog_7_method_4_code 27 = .ok (.goto (4), 3) := by decide +kernel
theorem od_Round_nearest_30 : decode prog_7_method_4_code 30 = .ok (.iconst 0, 1) := by decide +kernel
theorem od_Round_nearest_31 : decode prog_7_method_4_code 31 = .ok (.istore 5, 2) := by decide +kernel
theorem od_Round_nearest_33 : decode prog_7_method_4_code 33 = .ok (.iload 5, 2) := by decide +kernel
theorem od_Round_nearest_35 : decode prog_7_method_4_code 35 = .ok (.ifCond .eq (32), 3) := by decide +kernel
theorem od_Round_nearest_38 : decode prog_7_method_4_code 38 = .ok (.iload_n 3, 1) := by decide +kernel
theorem od_Round_nearest_39 : decode prog_7_method_4_code 39 = .ok (.ifCond .eq (25), 3) := by decide +kernel
theorem od_Round_nearest_42 : decode prog_7_method_4_code 42 = .ok (.aload_n 0, 1) := by decide +kernel
theorem od_Round_nearest_43 : decode prog_7_method_4_code 43 = .ok (.getfield 19, 3) := by decide +kernel
theorem od_Round_nearest_46 : decode prog_7_method_4_code 46 = .ok (.iload_n 1, 1) := by decide +kernel
theorem od_Round_nearest_47 : decode prog_7_method_4_code 47 = .ok (.iload 4, 2) := by decide +kernel
theorem od_Round_nearest_49 : decode prog_7_method_4_code 49 = .ok (.invokevirtual 36, 3) := by decide +kernel
theorem od_Round_nearest_52 : decode prog_7_method_4_code 52 = .ok (.aload_n 0, 1) := by decide +kernel
theorem od_Round_nearest_53 : decode prog_7_method_4_code 53 = .ok (.getfield 19, 3) := by decide +kernel
theorem od_Round_nearest_56 : decode prog_7_method_4_code 56 = .ok (.iload_n 1, 1) := by decide +kernel
theorem od_Round_nearest_57 : decode prog_7_method_4_code 57 = .ok (.iload_n 3, 1) := by decide +kernel
theorem od_Round_nearest_58 : decode prog_7_method_4_code 58 = .ok (.invokevirtual 36, 3) := by decide +kernel
theorem od_Round_nearest_61 : decode prog_7_method_4_code 61 = .ok (.if_icmp .ge (6), 3) := by decide +kernel
theorem od_Round_nearest_64 : decode prog_7_method_4_code 64 = .ok (.iload 4, 2) := by decide +kernel
theorem od_Round_nearest_66 : decode prog_7_method_4_code 66 = .ok (.istore_n 3, 1) := by decide +kernel
theorem od_Round_nearest_67 : decode prog_7_method_4_code 67 = .ok (.iinc 4 (1), 3) := by decide +kernel
theorem od_Round_nearest_70 : decode prog_7_method_4_code 70 = .ok (.goto (-65), 3) := by decide +kernel
theorem od_Round_nearest_73 : decode prog_7_method_4_code 73 = .ok (.iload_n 3, 1) := by decide +kernel
theorem od_Round_nearest_74 : decode prog_7_method_4_code 74 = .ok (.ireturn, 1) := by decide +kernel
theorem od_Round_goToNearest_0 : decode prog_7_method_3_code 0 = .ok (.iconst 1, 1) := by decide +kernel
theorem od_Round_goToNearest_1 : decode prog_7_method_3_code 1 = .ok (.istore_n 1, 1) := by decide +kernel
theorem od_Round_goToNearest_2 : decode prog_7_method_3_code 2 = .ok (.aload_n 0, 1) := by decide +kernel
theorem od_Round_goToNearest_3 : decode prog_7_method_3_code 3 = .ok (.getfield 9, 3) := by decide +kernel
theorem od_Round_goToNearest_6 : decode prog_7_method_3_code 6 = .ok (.iconst 0, 1) := by decide +kernel
theorem od_Round_goToNearest_7 : decode prog_7_method_3_code 7 = .ok (.iconst 0, 1) := by decide +kernel
theorem od_Round_goToNearest_8 : decode prog_7_method_3_code 8 = .ok (.iastore, 1) := by decide +kernel
theorem od_Round_goToNearest_9 : decode prog_7_method_3_code 9 = .ok (.iconst 1, 1) := by decide +kernel
theorem od_Round_goToNearest_10 : decode prog_7_method_3_code 10 = .ok (.istore_n 2, 1) := by decide +kernel
theorem od_Round_goToNearest_11 : decode prog_7_method_3_code 11 = .ok (.iload_n 2, 1) := by decide +kernel
theorem od_Round_goToNearest_12 : decode prog_7_method_3_code 12 = .ok (.aload_n 0, 1) := by decide +kernel
theorem od_Round_goToNearest_13 : decode prog_7_method_3_code 13 = .ok (.getfield 19, 3) := by decide +kernel
theorem od_Round_goToNearest_16 : decode prog_7_method_3_code 16 = .ok (.getfield 23, 3) := by decide +kernel
theorem od_Round_goToNearest_19 : decode prog_7_method_3_code 19 = .ok (.if_icmp .ge (39), 3) := by decide +kernel
theorem od_Round_goToNearest_22 : decode prog_7_method_3_code 22 = .ok (.aload_n 0, 1) := by decide +kernel
theorem od_Round_goToNearest_23 : decode prog_7_method_3_code 23 = .ok (.getfield 9, 3) := by decide +kernel
theorem od_Round_goToNearest_26 : decode prog_7_method_3_code 26 = .ok (.iload_n 2, 1) := by decide +kernel
theorem od_Round_goToNearest_27 : decode prog_7_method_3_code 27 = .ok (.aload_n 0, 1) := by decide +kernel
theorem od_Round_goToNearest_28 : decode prog_7_method_3_code 28 = .ok (.aload_n 0, 1) := by decide +kernel
theorem od_Round_goToNearest_29 : decode prog_7_method_3_code 29 = .ok (.getfield 9, 3) := by decide +kernel
theorem od_Round_goToNearest_32 : decode prog_7_method_3_code 32 = .ok (.iload_n 2, 1) := by decide +kernel
theorem od_Round_goToNearest_33 : decode prog_7_method_3_code 33 = .ok (.iconst 1, 1) := by decide +kernel
theorem od_Round_goToNearest_34 : decode prog_7_method_3_code 34 = .ok (.isub, 1) := by decide +kernel
theorem od_Round_goToNearest_35 : decode prog_7_method_3_code 35 = .ok (.iaload, 1) := by decide +kernel
theorem od_Round_goToNearest_36 : decode prog_7_method_3_code 36 = .ok (.iload_n 1, 1) := by decide +kernel
theorem od_Round_goToNearest_37 : decode prog_7_method_3_code 37 = .ok (.invokevirtual 33, 3) := by decide +kernel
theorem od_Round_goToNearest_40 : decode prog_7_method_3_code 40 = .ok (.iastore, 1) := by decide +kernel
theorem od_Round_goToNearest_41 : decode prog_7_method_3_code 41 = .ok (.iload_n 1, 1) := by decide +kernel
theorem od_Round_goToNearest_42 : decode prog_7_method_3_code 42 = .ok (.iconst 1, 1) := by decide +kernel
theorem od_Round_goToNearest_43 : decode prog_7_method_3_code 43 = .ok (.aload_n 0, 1) := by decide +kernel
theorem od_Round_goToNearest_44 : decode prog_7_method_3_code 44 = .ok (.getfield 9, 3) := by decide +kernel
theorem od_Round_goToNearest_47 : decode prog_7_method_3_code 47 = .ok (.iload_n 2, 1) := by decide +kernel
theorem od_Round_goToNearest_48 : decode prog_7_method_3_code 48 = .ok (.iaload, 1) := by decide +kernel
theorem od_Round_goToNearest_49 : decode prog_7_method_3_code 49 = .ok (.ishl, 1) := by decide +kernel
theorem od_Round_goToNearest_50 : decode prog_7_method_3_code 50 = .ok (.ior, 1) := by decide +kernel
theorem od_Round_goToNearest_51 : decode prog_7_method_3_code 51 = .ok (.istore_n 1, 1) := by decide +kernel
theorem od_Round_goToNearest_52 : decode prog_7_method_3_code 52 = .ok (.iinc 2 (1), 3) := by decide +kernel
theorem od_Round_goToNearest_55 : decode prog_7_method_3_code 55 = .ok (.goto (-44), 3) := by decide +kernel
theorem od_Round_goToNearest_58 : decode prog_7_method_3_code 58 = .ok (.aload_n 0, 1) := by decide +kernel
theorem od_Round_goToNearest_59 : decode prog_7_method_3_code 59 = .ok (.iconst 1, 1) := by decide +kernel
theorem od_Round_goToNearest_60 : decode prog_7_method_3_code 60 = .ok (.putfield 15, 3) := by decide +kernel
theorem od_Round_goToNearest_63 : decode prog_7_method_3_code 63 = .ok (.return_, 1) := by decide +kernel
theorem od_Round_gain_0 : decode prog_7_method_7_code 0 = .ok (.aload_n 0, 1) := by decide +kernel
theorem od_Round_gain_1 : decode prog_7_method_7_code 1 = .ok (.getfield 9, 3) := by decide +kernel
theorem od_Round_gain_4 : decode prog_7_method_7_code 4 = .ok (.iload_n 1, 1) := by decide +kernel
theorem od_Round_gain_5 : decode prog_7_method_7_code 5 = .ok (.iconst 1, 1) := by decide +kernel
theorem od_Round_gain_6 : decode prog_7_method_7_code 6 = .ok (.isub, 1) := by decide +kernel
theorem od_Round_gain_7 : decode prog_7_method_7_code 7 = .ok (.iaload, 1) := by decide +kernel
theorem od_Round_gain_8 : decode prog_7_method_7_code 8 = .ok (.istore_n 3, 1) := by decide +kernel
theorem od_Round_gain_9 : decode prog_7_method_7_code 9 = .ok (.iload_n 2, 1) := by decide +kernel
theorem od_Round_gain_10 : decode prog_7_method_7_code 10 = .ok (.iconst 1, 1) := by decide +kernel
theorem od_Round_gain_11 : decode prog_7_method_7_code 11 = .ok (.iadd, 1) := by decide +kernel
theorem od_Round_gain_12 : decode prog_7_method_7_code 12 = .ok (.aload_n 0, 1) := by decide +kernel
theorem od_Round_gain_13 : decode prog_7_method_7_code 13 = .ok (.getfield 19, 3) := by decide +kernel
theorem od_Round_gain_16 : decode prog_7_method_7_code 16 = .ok (.getfield 23, 3) := by decide +kernel
theorem od_Round_gain_19 : decode prog_7_method_7_code 19 = .ok (.if_icmp .ge (14), 3) := by decide +kernel
theorem od_Round_gain_22 : decode prog_7_method_7_code 22 = .ok (.aload_n 0, 1) := by decide +kernel
theorem od_Round_gain_23 : decode prog_7_method_7_code 23 = .ok (.getfield 9, 3) := by decide +kernel
theorem od_Round_gain_26 : decode prog_7_method_7_code 26 = .ok (.iload_n 2, 1) := by decide +kernel
theorem od_Round_gain_27 : decode prog_7_method_7_code 27 = .ok (.iconst 1, 1) := by decide +kernel
theorem od_Round_gain_28 : decode prog_7_method_7_code 28 = .ok (.iadd, 1) := by decide +kernel
theorem od_Round_gain_29 : decode prog_7_method_7_code 29 = .ok (.iaload, 1) := by decide +kernel
theorem od_Round_gain_30 : decode prog_7_method_7_code 30 = .ok (.goto (9), 3) := by decide +kernel
theorem od_Round_gain_33 : decode prog_7_method_7_code 33 = .ok (.aload_n 0, 1) := by decide +kernel
theorem od_Round_gain_34 : decode prog_7_method_7_code 34 = .ok (.getfield 9, 3) := by decide +kernel
theorem od_Round_gain_37 : decode prog_7_method_7_code 37 = .ok (.iconst 0, 1) := by decide +kernel
theorem od_Round_gain_38 : decode prog_7_method_7_code 38 = .ok (.iaload, 1) := by decide +kernel
theorem od_Round_gain_39 : decode prog_7_method_7_code 39 = .ok (.istore 4, 2) := by decide +kernel
theorem od_Round_gain_41 : decode prog_7_method_7_code 41 = .ok (.aload_n 0, 1) := by decide +kernel
theorem od_Round_gain_42 : decode prog_7_method_7_code 42 = .ok (.getfield 19, 3) := by decide +kernel
theorem od_Round_gain_45 : decode prog_7_method_7_code 45 = .ok (.iload_n 3, 1) := by decide +kernel
theorem od_Round_gain_46 : decode prog_7_method_7_code 46 = .ok (.aload_n 0, 1) := by decide +kernel
theorem od_Round_gain_47 : decode prog_7_method_7_code 47 = .ok (.getfield 9, 3) := by decide +kernel
theorem od_Round_gain_50 : decode prog_7_method_7_code 50 = .ok (.iload_n 1, 1) := by decide +kernel
theorem od_Round_gain_51 : decode prog_7_method_7_code 51 = .ok (.iaload, 1) := by decide +kernel
theorem od_Round_gain_52 : decode prog_7_method_7_code 52 = .ok (.invokevirtual 36, 3) := by decide +kernel
theorem od_Round_gain_55 : decode prog_7_method_7_code 55 = .ok (.aload_n 0, 1) := by decide +kernel
theorem od_Round_gain_56 : decode prog_7_method_7_code 56 = .ok (.getfield 19, 3) := by decide +kernel
theorem od_Round_gain_59 : decode prog_7_method_7_code 59 = .ok (.aload_n 0, 1) := by decide +kernel
theorem od_Round_gain_60 : decode prog_7_method_7_code 60 = .ok (.getfield 9, 3) := by decide +kernel
theorem od_Round_gain_63 : decode prog_7_method_7_code 63 = .ok (.iload_n 2, 1) := by decide +kernel
theorem od_Round_gain_64 : decode prog_7_method_7_code 64 = .ok (.iaload, 1) := by decide +kernel
theorem od_Round_gain_65 : decode prog_7_method_7_code 65 = .ok (.iload 4, 2) := by decide +kernel
theorem od_Round_gain_67 : decode prog_7_method_7_code 67 = .ok (.invokevirtual 36, 3) := by decide +kernel
theorem od_Round_gain_70 : decode prog_7_method_7_code 70 = .ok (.iadd, 1) := by decide +kernel
theorem od_Round_gain_71 : decode prog_7_method_7_code 71 = .ok (.istore 5, 2) := by decide +kernel
theorem od_Round_gain_73 : decode prog_7_method_7_code 73 = .ok (.aload_n 0, 1) := by decide +kernel
theorem od_Round_gain_74 : decode prog_7_method_7_code 74 = .ok (.getfield 19, 3) := by decide +kernel
theorem od_Round_gain_77 : decode prog_7_method_7_code 77 = .ok (.iload_n 3, 1) := by decide +kernel
theorem od_Round_gain_78 : decode prog_7_method_7_code 78 = .ok (.aload_n 0, 1) := by decide +kernel
theorem od_Round_gain_79 : decode prog_7_method_7_code 79 = .ok (.getfield 9, 3) := by decide +kernel
theorem od_Round_gain_82 : decode prog_7_method_7_code 82 = .ok (.iload_n 2, 1) := by decide +kernel
theorem od_Round_gain_83 : decode prog_7_method_7_code 83 = .ok (.iaload, 1) := by decide +kernel
theorem od_Round_gain_84 : decode prog_7_method_7_code 84 = .ok (.invokevirtual 36, 3) := by decide +kernel
theorem od_Round_gain_87 : decode prog_7_method_7_code 87 = .ok (.aload_n 0, 1) := by decide +kernel
theorem od_Round_gain_88 : decode prog_7_method_7_code 88 = .ok (.getfield 19, 3) := by decide +kernel
theorem od_Round_gain_91 : decode prog_7_method_7_code 91 = .ok (.aload_n 0, 1) := by decide +kernel
theorem od_Round_gain_92 : decode prog_7_method_7_code 92 = .ok (.getfield 9, 3) := by decide +kernel
theorem od_Round_gain_95 : decode prog_7_method_7_code 95 = .ok (.iload_n 1, 1) := by decide +kernel
theorem od_Round_gain_96 : decode prog_7_method_7_code 96 = .ok (.iaload, 1) := by decide +kernel
theorem od_Round_gain_97 : decode prog_7_method_7_code 97 = .ok (.iload 4, 2) := by decide +kernel
theorem od_Round_gain_99 : decode prog_7_method_7_code 99 = .ok (.invokevirtual 36, 3) := by decide +kernel
theorem od_Round_gain_102 : decode prog_7_method_7_code 102 = .ok (.iadd, 1) := by decide +kernel
theorem od_Round_gain_103 : decode prog_7_method_7_code 103 = .ok (.istore 6, 2) := by decide +kernel
theorem od_Round_gain_105 : decode prog_7_method_7_code 105 = .ok (.iload 5, 2) := by decide +kernel
theorem od_Round_gain_107 : decode prog_7_method_7_code 107 = .ok (.iload 6, 2) := by decide +kernel
theorem od_Round_gain_109 : decode prog_7_method_7_code 109 = .ok (.isub, 1) := by decide +kernel
theorem od_Round_gain_110 : decode prog_7_method_7_code 110 = .ok (.ireturn, 1) := by decide +kernel
theorem od_Round_turnOnce_0 : decode prog_7_method_6_code 0 = .ok (.iconst 1, 1) := by decide +kernel
theorem od_Round_turnOnce_1 : decode prog_7_method_6_code 1 = .ok (.istore_n 1, 1) := by decide +kernel
theorem od_Round_turnOnce_2 : decode prog_7_method_6_code 2 = .ok (.iload_n 1, 1) := by decide +kernel
theorem od_Round_turnOnce_3 : decode prog_7_method_6_code 3 = .ok (.aload_n 0, 1) := by decide +kernel
theorem od_Round_turnOnce_4 : decode prog_7_method_6_code 4 = .ok (.getfield 19, 3) := by decide +kernel
theorem od_Round_turnOnce_7 : decode prog_7_method_6_code 7 = .ok (.getfield 23, 3) := by decide +kernel
theorem od_Round_turnOnce_10 : decode prog_7_method_6_code 10 = .ok (.if_icmp .ge (50), 3) := by decide +kernel
theorem od_Round_turnOnce_13 : decode prog_7_method_6_code 13 = .ok (.iload_n 1, 1) := by decide +kernel
theorem od_Round_turnOnce_14 : decode prog_7_method_6_code 14 = .ok (.iconst 1, 1) := by decide +kernel
theorem od_Round_turnOnce_15 : decode prog_7_method_6_code 15 = .ok (.iadd, 1) := by decide +kernel
theorem od_Round_turnOnce_16 : decode prog_7_method_6_code 16 = .ok (.istore_n 2, 1) := by decide +kernel
theorem od_Round_turnOnce_17 : decode prog_7_method_6_code 17 = .ok (.iload_n 2, 1) := by decide +kernel
theorem od_Round_turnOnce_18 : decode prog_7_method_6_code 18 = .ok (.aload_n 0, 1) := by decide +kernel
theorem od_Round_turnOnce_19 : decode prog_7_method_6_code 19 = .ok (.getfield 19, 3) := by decide +kernel
theorem od_Round_turnOnce_22 : decode prog_7_method_6_code 22 = .ok (.getfield 23, 3) := by decide +kernel
theorem od_Round_turnOnce_25 : decode prog_7_method_6_code 25 = .ok (.if_icmp .ge (29), 3) := by decide +kernel
theorem od_Round_turnOnce_28 : decode prog_7_method_6_code 28 = .ok (.aload_n 0, 1) := by decide +kernel
theorem od_Round_turnOnce_29 : decode prog_7_method_6_code 29 = .ok (.iload_n 1, 1) := by decide +kernel
theorem od_Round_turnOnce_30 : decode prog_7_method_6_code 30 = .ok (.iload_n 2, 1) := by decide +kernel
theorem od_Round_turnOnce_31 : decode prog_7_method_6_code 31 = .ok (.invokevirtual 44, 3) := by decide +kernel
theorem od_Round_turnOnce_34 : decode prog_7_method_6_code 34 = .ok (.ifCond .le (14), 3) := by decide +kernel
theorem od_Round_turnOnce_37 : decode prog_7_method_6_code 37 = .ok (.aload_n 0, 1) := by decide +kernel
theorem od_Round_turnOnce_38 : decode prog_7_method_6_code 38 = .ok (.getfield 9, 3) := by decide +kernel
theorem od_Round_turnOnce_41 : decode prog_7_method_6_code 41 = .ok (.iload_n 1, 1) := by decide +kernel
theorem od_Round_turnOnce_42 : decode prog_7_method_6_code 42 = .ok (.iload_n 2, 1) := by decide +kernel
theorem od_Round_turnOnce_43 : decode prog_7_method_6_code 43 = .ok (.invokestatic 47, 3) := by decide +kernel
theorem od_Round_turnOnce_46 : decode prog_7_method_6_code 46 = .ok (.iconst 1, 1) := by decide +kernel
theorem od_Round_turnOnce_47 : decode prog_7_method_6_code 47 = .ok (.ireturn, 1) := by decide +kernel
theorem od_Round_turnOnce_48 : decode prog_7_method_6_code 48 = .ok (.iinc 2 (1), 3) := by decide +kernel
theorem od_Round_turnOnce_51 : decode prog_7_method_6_code 51 = .ok (.goto (-34), 3) := by decide +kernel
theorem od_Round_turnOnce_54 : decode prog_7_method_6_code 54 = .ok (.iinc 1 (1), 3) := by decide +kernel
theorem od_Round_turnOnce_57 : decode prog_7_method_6_code 57 = .ok (.goto (-55), 3) := by decide +kernel
theorem od_Round_turnOnce_60 : decode prog_7_method_6_code 60 = .ok (.iconst 0, 1) := by decide +kernel
theorem od_Round_turnOnce_61 : decode prog_7_method_6_code 61 = .ok (.ireturn, 1) := by decide +kernel
theorem od_Round_shorten_0 : decode prog_7_method_5_code 0 = .ok (.iconst 1, 1) := by decide +kernel
theorem od_Round_shorten_1 : decode prog_7_method_5_code 1 = .ok (.istore_n 1, 1) := by decide +kernel
theorem od_Round_shorten_2 : decode prog_7_method_5_code 2 = .ok (.iconst 0, 1) := by decide +kernel
theorem od_Round_shorten_3 : decode prog_7_method_5_code 3 = .ok (.istore_n 2, 1) := by decide +kernel
theorem od_Round_shorten_4 : decode prog_7_method_5_code 4 = .ok (.iload_n 2, 1) := by decide +kernel
theorem od_Round_shorten_5 : decode prog_7_method_5_code 5 = .ok (.ldc 39, 2) := by decide +kernel
theorem od_Round_shorten_7 : decode prog_7_method_5_code 7 = .ok (.if_icmp .ge (18), 3) := by decide +kernel
theorem od_Round_shorten_10 : decode prog_7_method_5_code 10 = .ok (.iload_n 1, 1) := by decide +kernel
theorem od_Round_shorten_11 : decode prog_7_method_5_code 11 = .ok (.ifCond .eq (14), 3) := by decide +kernel
theorem od_Round_shorten_14 : decode prog_7_method_5_code 14 = .ok (.aload_n 0, 1) := by decide +kernel
theorem od_Round_shorten_15 : decode prog_7_method_5_code 15 = .ok (.invokevirtual 40, 3) := by decide +kernel
theorem od_Round_shorten_18 : decode prog_7_method_5_code 18 = .ok (.istore_n 1, 1) := by decide +kernel
theorem od_Round_shorten_19 : decode prog_7_method_5_code 19 = .ok (.iinc 2 (1), 3) := by decide +kernel
theorem od_Round_shorten_22 : decode prog_7_method_5_code 22 = .ok (.goto (-18), 3) := by decide +kernel
theorem od_Round_shorten_25 : decode prog_7_method_5_code 25 = .ok (.return_, 1) := by decide +kernel
theorem od_Round_turnToOrder_0 : decode prog_7_method_8_code 0 = .ok (.aload_n 0, 1) := by decide +kernel
theorem od_Round_turnToOrder_1 : decode prog_7_method_8_code 1 = .ok (.getfield 19, 3) := by decide +kernel
theorem od_Round_turnToOrder_4 : decode prog_7_method_8_code 4 = .ok (.getfield 23, 3) := by decide +kernel
theorem od_Round_turnToOrder_7 : decode prog_7_method_8_code 7 = .ok (.iconst 1, 1) := by decide +kernel
theorem od_Round_turnToOrder_8 : decode prog_7_method_8_code 8 = .ok (.isub, 1) := by decide +kernel
theorem od_Round_turnToOrder_9 : decode prog_7_method_8_code 9 = .ok (.istore_n 1, 1) := by decide +kernel
theorem od_Round_turnToOrder_10 : decode prog_7_method_8_code 10 = .ok (.iload_n 1, 1) := by decide +kernel
theorem od_Round_turnToOrder_11 : decode prog_7_method_8_code 11 = .ok (.iconst 1, 1) := by decide +kernel
theorem od_Round_turnToOrder_12 : decode prog_7_method_8_code 12 = .ok (.if_icmp .le (27), 3) := by decide +kernel
theorem od_Round_turnToOrder_15 : decode prog_7_method_8_code 15 = .ok (.aload_n 0, 1) := by decide +kernel
theorem od_Round_turnToOrder_16 : decode prog_7_method_8_code 16 = .ok (.getfield 9, 3) := by decide +kernel
theorem od_Round_turnToOrder_19 : decode prog_7_method_8_code 19 = .ok (.iconst 1, 1) := by decide +kernel
theorem od_Round_turnToOrder_20 : decode prog_7_method_8_code 20 = .ok (.iaload, 1) := by decide +kernel
theorem od_Round_turnToOrder_21 : decode prog_7_method_8_code 21 = .ok (.aload_n 0, 1) := by decide +kernel
theorem od_Round_turnToOrder_22 : decode prog_7_method_8_code 22 = .ok (.getfield 9, 3) := by decide +kernel
theorem od_Round_turnToOrder_25 : decode prog_7_method_8_code 25 = .ok (.iload_n 1, 1) := by decide +kernel
theorem od_Round_turnToOrder_26 : decode prog_7_method_8_code 26 = .ok (.iaload, 1) := by decide +kernel
theorem od_Round_turnToOrder_27 : decode prog_7_method_8_code 27 = .ok (.if_icmp .le (12), 3) := by decide +kernel
theorem od_Round_turnToOrder_30 : decode prog_7_method_8_code 30 = .ok (.aload_n 0, 1) := by decide +kernel
theorem od_Round_turnToOrder_31 : decode prog_7_method_8_code 31 = .ok (.getfield 9, 3) := by decide +kernel
theorem od_Round_turnToOrder_34 : decode prog_7_method_8_code 34 = .ok (.iconst 1, 1) := by decide +kernel
theorem od_Round_turnToOrder_35 : decode prog_7_method_8_code 35 = .ok (.iload_n 1, 1) := by decide +kernel
theorem od_Round_turnToOrder_36 : decode prog_7_method_8_code 36 = .ok (.invokestatic 47, 3) := by decide +kernel
theorem od_Round_turnToOrder_39 : decode prog_7_method_8_code 39 = .ok (.return_, 1) := by decide +kernel
theorem od_Round_measure_0 : decode prog_7_method_9_code 0 = .ok (.iconst 0, 1) := by decide +kernel
theorem od_Round_measure_1 : decode prog_7_method_9_code 1 = .ok (.istore_n 1, 1) := by decide +kernel
theorem od_Round_measure_2 : decode prog_7_method_9_code 2 = .ok (.iconst 0, 1) := by decide +kernel
theorem od_Round_measure_3 : decode prog_7_method_9_code 3 = .ok (.istore_n 2, 1) := by decide +kernel
theorem od_Round_measure_4 : decode prog_7_method_9_code 4 = .ok (.iload_n 2, 1) := by decide +kernel
theorem od_Round_measure_5 : decode prog_7_method_9_code 5 = .ok (.aload_n 0, 1) := by decide +kernel
theorem od_Round_measure_6 : decode prog_7_method_9_code 6 = .ok (.getfield 19, 3) := by decide +kernel
theorem od_Round_measure_9 : decode prog_7_method_9_code 9 = .ok (.getfield 23, 3) := by decide +kernel
theorem od_Round_measure_12 : decode prog_7_method_9_code 12 = .ok (.if_icmp .ge (57), 3) := by decide +kernel
theorem od_Round_measure_15 : decode prog_7_method_9_code 15 = .ok (.iload_n 2, 1) := by decide +kernel
theorem od_Round_measure_16 : decode prog_7_method_9_code 16 = .ok (.iconst 1, 1) := by decide +kernel
theorem od_Round_measure_17 : decode prog_7_method_9_code 17 = .ok (.iadd, 1) := by decide +kernel
theorem od_Round_measure_18 : decode prog_7_method_9_code 18 = .ok (.aload_n 0, 1) := by decide +kernel
theorem od_Round_measure_19 : decode prog_7_method_9_code 19 = .ok (.getfield 19, 3) := by decide +kernel
theorem od_Round_measure_22 : decode prog_7_method_9_code 22 = .ok (.getfield 23, 3) := by decide +kernel
theorem od_Round_measure_25 : decode prog_7_method_9_code 25 = .ok (.if_icmp .ge (14), 3) := by decide +kernel
theorem od_Round_measure_28 : decode prog_7_method_9_code 28 = .ok (.aload_n 0, 1) := by decide +kernel
theorem od_Round_measure_29 : decode prog_7_method_9_code 29 = .ok (.getfield 9, 3) := by decide +kernel
theorem od_Round_measure_32 : decode prog_7_method_9_code 32 = .ok (.iload_n 2, 1) := by decide +kernel
theorem od_Round_measure_33 : decode prog_7_method_9_code 33 = .ok (.iconst 1, 1) := by decide +kernel
theorem od_Round_measure_34 : decode prog_7_method_9_code 34 = .ok (.iadd, 1) := by decide +kernel
theorem od_Round_measure_35 : decode prog_7_method_9_code 35 = .ok (.iaload, 1) := by decide +kernel
theorem od_Round_measure_36 : decode prog_7_method_9_code 36 = .ok (.goto (9), 3) := by decide +kernel
theorem od_Round_measure_39 : decode prog_7_method_9_code 39 = .ok (.aload_n 0, 1) := by decide +kernel
theorem od_Round_measure_40 : decode prog_7_method_9_code 40 = .ok (.getfield 9, 3) := by decide +kernel
theorem od_Round_measure_43 : decode prog_7_method_9_code 43 = .ok (.iconst 0, 1) := by decide +kernel
theorem od_Round_measure_44 : decode prog_7_method_9_code 44 = .ok (.iaload, 1) := by decide +kernel
theorem od_Round_measure_45 : decode prog_7_method_9_code 45 = .ok (.istore_n 3, 1) := by decide +kernel
theorem od_Round_measure_46 : decode prog_7_method_9_code 46 = .ok (.iload_n 1, 1) := by decide +kernel
theorem od_Round_measure_47 : decode prog_7_method_9_code 47 = .ok (.aload_n 0, 1) := by decide +kernel
theorem od_Round_measure_48 : decode prog_7_method_9_code 48 = .ok (.getfield 19, 3) := by decide +kernel
theorem od_Round_measure_51 : decode prog_7_method_9_code 51 = .ok (.aload_n 0, 1) := by decide +kernel
theorem od_Round_measure_52 : decode prog_7_method_9_code 52 = .ok (.getfield 9, 3) := by decide +kernel
theorem od_Round_measure_55 : decode prog_7_method_9_code 55 = .ok (.iload_n 2, 1) := by decide +kernel
theorem od_Round_measure_56 : decode prog_7_method_9_code 56 = .ok (.iaload, 1) := by decide +kernel
theorem od_Round_measure_57 : decode prog_7_method_9_code 57 = .ok (.iload_n 3, 1) := by decide +kernel
theorem od_Round_measure_58 : decode prog_7_method_9_code 58 = .ok (.invokevirtual 36, 3) := by decide +kernel
theorem od_Round_measure_61 : decode prog_7_method_9_code 61 = .ok (.iadd, 1) := by decide +kernel
theorem od_Round_measure_62 : decode prog_7_method_9_code 62 = .ok (.istore_n 1, 1) := by decide +kernel
theorem od_Round_measure_63 : decode prog_7_method_9_code 63 = .ok (.iinc 2 (1), 3) := by decide +kernel
theorem od_Round_measure_66 : decode prog_7_method_9_code 66 = .ok (.goto (-62), 3) := by decide +kernel
theorem od_Round_measure_69 : decode prog_7_method_9_code 69 = .ok (.iload_n 1, 1) := by decide +kernel
theorem od_Round_measure_70 : decode prog_7_method_9_code 70 = .ok (.ireturn, 1) := by decide +kernel
theorem od_T_improve_0 : decode prog_1_method_15_code 0 = .ok (.aload_n 0, 1) := by decide +kernel
theorem od_T_improve_1 : decode prog_1_method_15_code 1 = .ok (.getfield 28, 3) := by decide +kernel
theorem od_T_improve_4 : decode prog_1_method_15_code 4 = .ok (.getfield 95, 3) := by decide +kernel
theorem od_T_improve_7 : decode prog_1_method_15_code 7 = .ok (.ifCond .ne (6), 3) := by decide +kernel
theorem od_T_improve_10 : decode prog_1_method_15_code 10 = .ok (.ldc 144, 2) := by decide +kernel
theorem od_T_improve_12 : decode prog_1_method_15_code 12 = .ok (.ireturn, 1) := by decide +kernel
theorem od_T_improve_13 : decode prog_1_method_15_code 13 = .ok (.aload_n 0, 1) := by decide +kernel
theorem od_T_improve_14 : decode prog_1_method_15_code 14 = .ok (.getfield 51, 3) := by decide +kernel
theorem od_T_improve_17 : decode prog_1_method_15_code 17 = .ok (.invokevirtual 158, 3) := by decide +kernel
theorem od_T_improve_20 : decode prog_1_method_15_code 20 = .ok (.aload_n 0, 1) := by decide +kernel
theorem od_T_improve_21 : decode prog_1_method_15_code 21 = .ok (.getfield 51, 3) := by decide +kernel
theorem od_T_improve_24 : decode prog_1_method_15_code 24 = .ok (.invokevirtual 161, 3) := by decide +kernel
theorem od_T_improve_27 : decode prog_1_method_15_code 27 = .ok (.aload_n 0, 1) := by decide +kernel
theorem od_T_improve_28 : decode prog_1_method_15_code 28 = .ok (.getfield 51, 3) := by decide +kernel
theorem od_T_improve_31 : decode prog_1_method_15_code 31 = .ok (.invokevirtual 164, 3) := by decide +kernel
theorem od_T_improve_34 : decode prog_1_method_15_code 34 = .ok (.aload_n 0, 1) := by decide +kernel
theorem od_T_improve_35 : decode prog_1_method_15_code 35 = .ok (.getfield 51, 3) := by decide +kernel
theorem od_T_improve_38 : decode prog_1_method_15_code 38 = .ok (.invokevirtual 167, 3) := by decide +kernel
theorem od_T_improve_41 : decode prog_1_method_15_code 41 = .ok (.ireturn, 1) := by decide +kernel
theorem od_T_tour_0 : decode prog_1_method_16_code 0 = .ok (.aload_n 0, 1) := by decide +kernel
theorem od_T_tour_1 : decode prog_1_method_16_code 1 = .ok (.getfield 51, 3) := by decide +kernel
theorem od_T_tour_4 : decode prog_1_method_16_code 4 = .ok (.getfield 88, 3) := by decide +kernel
theorem od_T_tour_7 : decode prog_1_method_16_code 7 = .ok (.ifCond .eq (26), 3) := by decide +kernel
theorem od_T_tour_10 : decode prog_1_method_16_code 10 = .ok (.aload_n 0, 1) := by decide +kernel
theorem od_T_tour_11 : decode prog_1_method_16_code 11 = .ok (.getfield 28, 3) := by decide +kernel
theorem od_T_tour_14 : decode prog_1_method_16_code 14 = .ok (.iload_n 1, 1) := by decide +kernel
theorem od_T_tour_15 : decode prog_1_method_16_code 15 = .ok (.invokevirtual 98, 3) := by decide +kernel
theorem od_T_tour_18 : decode prog_1_method_16_code 18 = .ok (.ifCond .eq (15), 3) := by decide +kernel
theorem od_T_tour_21 : decode prog_1_method_16_code 21 = .ok (.aload_n 0, 1) := by decide +kernel
theorem od_T_tour_22 : decode prog_1_method_16_code 22 = .ok (.getfield 51, 3) := by decide +kernel
theorem od_T_tour_25 : decode prog_1_method_16_code 25 = .ok (.getfield 170, 3) := by decide +kernel
theorem od_T_tour_28 : decode prog_1_method_16_code 28 = .ok (.iload_n 1, 1) := by decide +kernel
theorem od_T_tour_29 : decode prog_1_method_16_code 29 = .ok (.iaload, 1) := by decide +kernel
theorem od_T_tour_30 : decode prog_1_method_16_code 30 = .ok (.goto (4), 3) := by decide +kernel
theorem od_T_tour_33 : decode prog_1_method_16_code 33 = .ok (.iconst (-1), 1) := by decide +kernel
theorem od_T_tour_34 : decode prog_1_method_16_code 34 = .ok (.ireturn, 1) := by decide +kernel
theorem od_Land_areEdges_0 : decode prog_3_method_5_code 0 = .ok (.iload_n 1, 1) := by decide +kernel
theorem od_Land_areEdges_1 : decode prog_3_method_5_code 1 = .ok (.aload_n 0, 1) := by decide +kernel
theorem od_Land_areEdges_2 : decode prog_3_method_5_code 2 = .ok (.getfield 31, 3) := by decide +kernel
theorem od_Land_areEdges_5 : decode prog_3_method_5_code 5 = .ok (.iushr, 1) := by decide +kernel
theorem od_Land_areEdges_6 : decode prog_3_method_5_code 6 = .ok (.ifCond .ne (7), 3) := by decide +kernel
theorem od_Land_areEdges_9 : decode prog_3_method_5_code 9 = .ok (.iconst 1, 1) := by decide +kernel
theorem od_Land_areEdges_10 : decode prog_3_method_5_code 10 = .ok (.goto (4), 3) := by decide +kernel
theorem od_Land_areEdges_13 : decode prog_3_method_5_code 13 = .ok (.iconst 0, 1) := by decide +kernel
theorem od_Land_areEdges_14 : decode prog_3_method_5_code 14 = .ok (.ireturn, 1) := by decide +kernel
theorem od_Cases_append_0 : decode prog_2_method_2_code 0 = .ok (.aload_n 0, 1) := by decide +kernel
theorem od_Cases_append_1 : decode prog_2_method_2_code 1 = .ok (.getfield 18, 3) := by decide +kernel
theorem od_Cases_append_4 : decode prog_2_method_2_code 4 = .ok (.bipush (10), 2) := by decide +kernel
theorem od_Cases_append_6 : decode prog_2_method_2_code 6 = .ok (.if_icmp .lt (5), 3) := by decide +kernel
theorem od_Cases_append_9 : decode prog_2_method_2_code 9 = .ok (.iconst 0, 1) := by decide +kernel
theorem od_Cases_append_10 : decode prog_2_method_2_code 10 = .ok (.ireturn, 1) := by decide +kernel
theorem od_Cases_append_11 : decode prog_2_method_2_code 11 = .ok (.aload_n 0, 1) := by decide +kernel
theorem od_Cases_append_12 : decode prog_2_method_2_code 12 = .ok (.getfield 9, 3) := by decide +kernel
theorem od_Cases_append_15 : decode prog_2_method_2_code 15 = .ok (.aload_n 0, 1) := by decide +kernel
theorem od_Cases_append_16 : decode prog_2_method_2_code 16 = .ok (.getfield 18, 3) := by decide +kernel
theorem od_Cases_append_19 : decode prog_2_method_2_code 19 = .ok (.iload_n 1, 1) := by decide +kernel
theorem od_Cases_append_20 : decode prog_2_method_2_code 20 = .ok (.iastore, 1) := by decide +kernel
theorem od_Cases_append_21 : decode prog_2_method_2_code 21 = .ok (.aload_n 0, 1) := by decide +kernel
theorem od_Cases_append_22 : decode prog_2_method_2_code 22 = .ok (.getfield 15, 3) := by decide +kernel
theorem od_Cases_append_25 : decode prog_2_method_2_code 25 = .ok (.aload_n 0, 1) := by decide +kernel
theorem od_Cases_append_26 : decode prog_2_method_2_code 26 = .ok (.getfield 18, 3) := by decide +kernel
theorem od_Cases_append_29 : decode prog_2_method_2_code 29 = .ok (.iload_n 2, 1) := by decide +kernel
theorem od_Cases_append_30 : decode prog_2_method_2_code 30 = .ok (.iastore, 1) := by decide +kernel
theorem od_Cases_append_31 : decode prog_2_method_2_code 31 = .ok (.aload_n 0, 1) := by decide +kernel
theorem od_Cases_append_32 : decode prog_2_method_2_code 32 = .ok (.dup, 1) := by decide +kernel
theorem od_Cases_append_33 : decode prog_2_method_2_code 33 = .ok (.getfield 18, 3) := by decide +kernel
theorem od_Cases_append_36 : decode prog_2_method_2_code 36 = .ok (.iconst 1, 1) := by decide +kernel
theorem od_Cases_append_37 : decode prog_2_method_2_code 37 = .ok (.iadd, 1) := by decide +kernel
theorem od_Cases_append_38 : decode prog_2_method_2_code 38 = .ok (.putfield 18, 3) := by decide +kernel
theorem od_Cases_append_41 : decode prog_2_method_2_code 41 = .ok (.iconst 1, 1) := by decide +kernel
theorem od_Cases_append_42 : decode prog_2_method_2_code 42 = .ok (.ireturn, 1) := by decide +kernel
theorem od_T_add_0 : decode prog_1_method_17_code 0 = .ok (.aload_n 0, 1) := by decide +kernel
theorem od_T_add_1 : decode prog_1_method_17_code 1 = .ok (.getfield 28, 3) := by decide +kernel
theorem od_T_add_4 : decode prog_1_method_17_code 4 = .ok (.getfield 95, 3) := by decide +kernel
theorem od_T_add_7 : decode prog_1_method_17_code 7 = .ok (.ifCond .eq (22), 3) := by decide +kernel
theorem od_T_add_10 : decode prog_1_method_17_code 10 = .ok (.aload_n 0, 1) := by decide +kernel
theorem od_T_add_11 : decode prog_1_method_17_code 11 = .ok (.getfield 28, 3) := by decide +kernel
theorem od_T_add_14 : decode prog_1_method_17_code 14 = .ok (.iload_n 1, 1) := by decide +kernel
theorem od_T_add_15 : decode prog_1_method_17_code 15 = .ok (.iload_n 2, 1) := by decide +kernel
theorem od_T_add_16 : decode prog_1_method_17_code 16 = .ok (.ior, 1) := by decide +kernel
theorem od_T_add_17 : decode prog_1_method_17_code 17 = .ok (.invokevirtual 173, 3) := by decide +kernel
theorem od_T_add_20 : decode prog_1_method_17_code 20 = .ok (.ifCond .eq (9), 3) := by decide +kernel
theorem od_T_add_23 : decode prog_1_method_17_code 23 = .ok (.iload_n 1, 1) := by decide +kernel
theorem od_T_add_24 : decode prog_1_method_17_code 24 = .ok (.iload_n 2, 1) := by decide +kernel
theorem od_T_add_25 : decode prog_1_method_17_code 25 = .ok (.iand, 1) := by decide +kernel
theorem od_T_add_26 : decode prog_1_method_17_code 26 = .ok (.ifCond .eq (5), 3) := by decide +kernel
theorem od_T_add_29 : decode prog_1_method_17_code 29 = .ok (.iconst (-1), 1) := by decide +kernel
theorem od_T_add_30 : decode prog_1_method_17_code 30 = .ok (.ireturn, 1) := by decide +kernel
theorem od_T_add_31 : decode prog_1_method_17_code 31 = .ok (.aload_n 0, 1) := by decide +kernel
theorem od_T_add_32 : decode prog_1_method_17_code 32 = .ok (.getfield 58, 3) := by decide +kernel
theorem od_T_add_35 : decode prog_1_method_17_code 35 = .ok (.iload_n 1, 1) := by decide +kernel
theorem od_T_add_36 : decode prog_1_method_17_code 36 = .ok (.iload_n 2, 1) := by decide +kernel
theorem od_T_add_37 : decode prog_1_method_17_code 37 = .ok (.invokevirtual 176, 3) := by decide +kernel
theorem od_T_add_40 : decode prog_1_method_17_code 40 = .ok (.ifCond .eq (13), 3) := by decide +kernel
theorem od_T_add_43 : decode prog_1_method_17_code 43 = .ok (.aload_n 0, 1) := by decide +kernel
theorem od_T_add_44 : decode prog_1_method_17_code 44 = .ok (.getfield 58, 3) := by decide +kernel
theorem od_T_add_47 : decode prog_1_method_17_code 47 = .ok (.getfield 92, 3) := by decide +kernel
theorem od_T_add_50 : decode prog_1_method_17_code 50 = .ok (.goto (5), 3) := by decide +kernel
theorem od_T_add_53 : decode prog_1_method_17_code 53 = .ok (.ldc 144, 2) := by decide +kernel
theorem od_T_add_55 : decode prog_1_method_17_code 55 = .ok (.ireturn, 1) := by decide +kernel
theorem od_T_drop_0 : decode prog_1_method_18_code 0 = .ok (.aload_n 0, 1) := by decide +kernel
theorem od_T_drop_1 : decode prog_1_method_18_code 1 = .ok (.getfield 58, 3) := by decide +kernel
theorem od_T_drop_4 : decode prog_1_method_18_code 4 = .ok (.iconst 0, 1) := by decide +kernel
theorem od_T_drop_5 : decode prog_1_method_18_code 5 = .ok (.putfield 92, 3) := by decide +kernel
theorem od_T_drop_8 : decode prog_1_method_18_code 8 = .ok (.return_, 1) := by decide +kernel
theorem od_Cases_anyHolds_0 : decode prog_2_method_3_code 0 = .ok (.iconst 0, 1) := by decide +kernel
theorem od_Cases_anyHolds_1 : decode prog_2_method_3_code 1 = .ok (.istore_n 2, 1) := by decide +kernel
theorem od_Cases_anyHolds_2 : decode prog_2_method_3_code 2 = .ok (.iload_n 2, 1) := by decide +kernel
theorem od_Cases_anyHolds_3 : decode prog_2_method_3_code 3 = .ok (.aload_n 0, 1) := by decide +kernel
theorem od_Cases_anyHolds_4 : decode prog_2_method_3_code 4 = .ok (.getfield 18, 3) := by decide +kernel
theorem od_Cases_anyHolds_7 : decode prog_2_method_3_code 7 = .ok (.if_icmp .ge (30), 3) := by decide +kernel
theorem od_Cases_anyHolds_10 : decode prog_2_method_3_code 10 = .ok (.iload_n 1, 1) := by decide +kernel
theorem od_Cases_anyHolds_11 : decode prog_2_method_3_code 11 = .ok (.aload_n 0, 1) := by decide +kernel
theorem od_Cases_anyHolds_12 : decode prog_2_method_3_code 12 = .ok (.getfield 9, 3) := by decide +kernel
theorem od_Cases_anyHolds_15 : decode prog_2_method_3_code 15 = .ok (.iload_n 2, 1) := by decide +kernel
theorem od_Cases_anyHolds_16 : decode prog_2_method_3_code 16 = .ok (.iaload, 1) := by decide +kernel
theorem od_Cases_anyHolds_17 : decode prog_2_method_3_code 17 = .ok (.aload_n 0, 1) := by decide +kernel
theorem od_Cases_anyHolds_18 : decode prog_2_method_3_code 18 = .ok (.getfield 15, 3) := by decide +kernel
theorem od_Cases_anyHolds_21 : decode prog_2_method_3_code 21 = .ok (.iload_n 2, 1) := by decide +kernel
theorem od_Cases_anyHolds_22 : decode prog_2_method_3_code 22 = .ok (.iaload, 1) := by decide +kernel
theorem od_Cases_anyHolds_23 : decode prog_2_method_3_code 23 = .ok (.invokestatic 22, 3) := by decide +kernel
theorem od_Cases_anyHolds_26 : decode prog_2_method_3_code 26 = .ok (.ifCond .eq (5), 3) := by decide +kernel
theorem od_Cases_anyHolds_29 : decode prog_2_method_3_code 29 = .ok (.iconst 1, 1) := by decide +kernel
theorem od_Cases_anyHolds_30 : decode prog_2_method_3_code 30 = .ok (.ireturn, 1) := by decide +kernel
theorem od_Cases_anyHolds_31 : decode prog_2_method_3_code 31 = .ok (.iinc 2 (1), 3) := by decide +kernel
theorem od_Cases_anyHolds_34 : decode prog_2_method_3_code 34 = .ok (.goto (-32), 3) := by decide +kernel
theorem od_Cases_anyHolds_37 : decode prog_2_method_3_code 37 = .ok (.iconst 0, 1) := by decide +kernel
theorem od_Cases_anyHolds_38 : decode prog_2_method_3_code 38 = .ok (.ireturn, 1) := by decide +kernel
theorem od_T_covers_0 : decode prog_1_method_19_code 0 = .ok (.aload_n 0, 1) := by decide +kernel
theorem od_T_covers_1 : decode prog_1_method_19_code 1 = .ok (.getfield 28, 3) := by decide +kernel
theorem od_T_covers_4 : decode prog_1_method_19_code 4 = .ok (.getfield 95, 3) := by decide +kernel
theorem od_T_covers_7 : decode prog_1_method_19_code 7 = .ok (.ifCond .ne (5), 3) := by decide +kernel
theorem od_T_covers_10 : decode prog_1_method_19_code 10 = .ok (.iconst 0, 1) := by decide +kernel
theorem od_T_covers_11 : decode prog_1_method_19_code 11 = .ok (.ireturn, 1) := by decide +kernel
theorem od_T_covers_12 : decode prog_1_method_19_code 12 = .ok (.iconst 0, 1) := by decide +kernel
theorem od_T_covers_13 : decode prog_1_method_19_code 13 = .ok (.istore_n 1, 1) := by decide +kernel
theorem od_T_covers_14 : decode prog_1_method_19_code 14 = .ok (.iload_n 1, 1) := by decide +kernel
theorem od_T_covers_15 : decode prog_1_method_19_code 15 = .ok (.aload_n 0, 1) := by decide +kernel
theorem od_T_covers_16 : decode prog_1_method_19_code 16 = .ok (.getfield 44, 3) := by decide +kernel
theorem od_T_covers_19 : decode prog_1_method_19_code 19 = .ok (.getfield 178, 3) := by decide +kernel
theorem od_T_covers_22 : decode prog_1_method_19_code 22 = .ok (.if_icmp .ge (41), 3) := by decide +kernel
theorem od_T_covers_25 : decode prog_1_method_19_code 25 = .ok (.aload_n 0, 1) := by decide +kernel
theorem od_T_covers_26 : decode prog_1_method_19_code 26 = .ok (.getfield 44, 3) := by decide +kernel
theorem od_T_covers_29 : decode prog_1_method_19_code 29 = .ok (.iload_n 1, 1) := by decide +kernel
theorem od_T_covers_30 : decode prog_1_method_19_code 30 = .ok (.invokevirtual 179, 3) := by decide +kernel
theorem od_T_covers_33 : decode prog_1_method_19_code 33 = .ok (.ifCond .eq (24), 3) := by decide +kernel
theorem od_T_covers_36 : decode prog_1_method_19_code 36 = .ok (.aload_n 0, 1) := by decide +kernel
theorem od_T_covers_37 : decode prog_1_method_19_code 37 = .ok (.getfield 58, 3) := by decide +kernel
theorem od_T_covers_40 : decode prog_1_method_19_code 40 = .ok (.aload_n 0, 1) := by decide +kernel
theorem od_T_covers_41 : decode prog_1_method_19_code 41 = .ok (.getfield 44, 3) := by decide +kernel
theorem od_T_covers_44 : decode prog_1_method_19_code 44 = .ok (.getfield 145, 3) := by decide +kernel
theorem od_T_covers_47 : decode prog_1_method_19_code 47 = .ok (.iload_n 1, 1) := by decide +kernel
theorem od_T_covers_48 : decode prog_1_method_19_code 48 = .ok (.iaload, 1) := by decide +kernel
theorem od_T_covers_49 : decode prog_1_method_19_code 49 = .ok (.invokevirtual 182, 3) := by decide +kernel
theorem od_T_covers_52 : decode prog_1_method_19_code 52 = .ok (.ifCond .ne (5), 3) := by decide +kernel
theorem od_T_covers_55 : decode prog_1_method_19_code 55 = .ok (.iconst 0, 1) := by decide +kernel
theorem od_T_covers_56 : decode prog_1_method_19_code 56 = .ok (.ireturn, 1) := by decide +kernel
theorem od_T_covers_57 : decode prog_1_method_19_code 57 = .ok (.iinc 1 (1), 3) := by decide +kernel
theorem od_T_covers_60 : decode prog_1_method_19_code 60 = .ok (.goto (-46), 3) := by decide +kernel
theorem od_T_covers_63 : decode prog_1_method_19_code 63 = .ok (.iconst 1, 1) := by decide +kernel
theorem od_T_covers_64 : decode prog_1_method_19_code 64 = .ok (.ireturn, 1) := by decide +kernel
theorem od_T_caseBound_0 : decode prog_1_method_20_code 0 = .ok (.iload_n 1, 1) := by decide +kernel
theorem od_T_caseBound_1 : decode prog_1_method_20_code 1 = .ok (.ifCond .lt (14), 3) := by decide +kernel
theorem od_T_caseBound_4 : decode prog_1_method_20_code 4 = .ok (.iload_n 1, 1) := by decide +kernel
theorem od_T_caseBound_5 : decode prog_1_method_20_code 5 = .ok (.aload_n 0, 1) := by decide +kernel
theorem od_T_caseBound_6 : decode prog_1_method_20_code 6 = .ok (.getfield 58, 3) := by decide +kernel
theorem od_T_caseBound_9 : decode prog_1_method_20_code 9 = .ok (.getfield 92, 3) := by decide +kernel
theorem od_T_caseBound_12 : decode prog_1_method_20_code 12 = .ok (.if_icmp .lt (5), 3) := by decide +kernel
theorem od_T_caseBound_15 : decode prog_1_method_20_code 15 = .ok (.iconst (-1), 1) := by decide +kernel
theorem od_T_caseBound_16 : decode prog_1_method_20_code 16 = .ok (.ireturn, 1) := by decide +kernel
theorem od_T_caseBound_17 : decode prog_1_method_20_code 17 = .ok (.aload_n 0, 1) := by decide +kernel
theorem od_T_caseBound_18 : decode prog_1_method_20_code 18 = .ok (.getfield 37, 3) := by decide +kernel
theorem od_T_caseBound_21 : decode prog_1_method_20_code 21 = .ok (.aload_n 0, 1) := by decide +kernel
theorem od_T_caseBound_22 : decode prog_1_method_20_code 22 = .ok (.getfield 58, 3) := by decide +kernel
theorem od_T_caseBound_25 : decode prog_1_method_20_code 25 = .ok (.getfield 185, 3) := by decide +kernel
theorem od_T_caseBound_28 : decode prog_1_method_20_code 28 = .ok (.iload_n 1, 1) := by decide +kernel
theorem od_T_caseBound_29 : decode prog_1_method_20_code 29 = .ok (.iaload, 1) := by decide +kernel
theorem od_T_caseBound_30 : decode prog_1_method_20_code 30 = .ok (.aload_n 0, 1) := by decide +kernel
theorem od_T_caseBound_31 : decode prog_1_method_20_code 31 = .ok (.getfield 58, 3) := by decide +kernel
theorem od_T_caseBound_34 : decode prog_1_method_20_code 34 = .ok (.getfield 188, 3) := by decide +kernel
theorem od_T_caseBound_37 : decode prog_1_method_20_code 37 = .ok (.iload_n 1, 1) := by decide +kernel
theorem od_T_caseBound_38 : decode prog_1_method_20_code 38 = .ok (.iaload, 1) := by decide +kernel
theorem od_T_caseBound_39 : decode prog_1_method_20_code 39 = .ok (.invokevirtual 125, 3) := by decide +kernel
theorem od_T_caseBound_42 : decode prog_1_method_20_code 42 = .ok (.ireturn, 1) := by decide +kernel
theorem od_T_proves_0 : decode prog_1_method_21_code 0 = .ok (.aload_n 0, 1) := by decide +kernel
theorem od_T_proves_1 : decode prog_1_method_21_code 1 = .ok (.invokevirtual 191, 3) := by decide +kernel
theorem od_T_proves_4 : decode prog_1_method_21_code 4 = .ok (.ifCond .ne (5), 3) := by decide +kernel
theorem od_T_proves_7 : decode prog_1_method_21_code 7 = .ok (.iconst 0, 1) := by decide +kernel
theorem od_T_proves_8 : decode prog_1_method_21_code 8 = .ok (.ireturn, 1) := by decide +kernel
theorem od_T_proves_9 : decode prog_1_method_21_code 9 = .ok (.iconst 0, 1) := by decide +kernel
theorem od_T_proves_10 : decode prog_1_method_21_code 10 = .ok (.istore_n 2, 1) := by decide +kernel
theorem od_T_proves_11 : decode prog_1_method_21_code 11 = .ok (.iload_n 2, 1) := by decide +kernel
theorem od_T_proves_12 : decode prog_1_method_21_code 12 = .ok (.aload_n 0, 1) := by decide +kernel
theorem od_T_proves_13 : decode prog_1_method_21_code 13 = .ok (.getfield 58, 3) := by decide +kernel
theorem od_T_proves_16 : decode prog_1_method_21_code 16 = .ok (.getfield 92, 3) := by decide +kernel
theorem od_T_proves_19 : decode prog_1_method_21_code 19 = .ok (.if_icmp .ge (28), 3) := by decide +kernel
theorem od_T_proves_22 : decode prog_1_method_21_code 22 = .ok (.aload_n 0, 1) := by decide +kernel
theorem od_T_proves_23 : decode prog_1_method_21_code 23 = .ok (.iload_n 2, 1) := by decide +kernel
theorem od_T_proves_24 : decode prog_1_method_21_code 24 = .ok (.invokevirtual 195, 3) := by decide +kernel
theorem od_T_proves_27 : decode prog_1_method_21_code 27 = .ok (.istore_n 3, 1) := by decide +kernel
theorem od_T_proves_28 : decode prog_1_method_21_code 28 = .ok (.iload_n 3, 1) := by decide +kernel
theorem od_T_proves_29 : decode prog_1_method_21_code 29 = .ok (.ldc 144, 2) := by decide +kernel
theorem od_T_proves_31 : decode prog_1_method_21_code 31 = .ok (.if_icmp .eq (10), 3) := by decide +kernel
theorem od_T_proves_34 : decode prog_1_method_21_code 34 = .ok (.iload_n 3, 1) := by decide +kernel
theorem od_T_proves_35 : decode prog_1_method_21_code 35 = .ok (.iload_n 1, 1) := by decide +kernel
theorem od_T_proves_36 : decode prog_1_method_21_code 36 = .ok (.if_icmp .ge (5), 3) := by decide +kernel
theorem od_T_proves_39 : decode prog_1_method_21_code 39 = .ok (.iconst 0, 1) := by decide +kernel
theorem od_T_proves_40 : decode prog_1_method_21_code 40 = .ok (.ireturn, 1) := by decide +kernel
theorem od_T_proves_41 : decode prog_1_method_21_code 41 = .ok (.iinc 2 (1), 3) := by decide +kernel
theorem od_T_proves_44 : decode prog_1_method_21_code 44 = .ok (.goto (-33), 3) := by decide +kernel
theorem od_T_proves_47 : decode prog_1_method_21_code 47 = .ok (.iconst 1, 1) := by decide +kernel
theorem od_T_proves_48 : decode prog_1_method_21_code 48 = .ok (.ireturn, 1) := by decide +kernel
