theorem od_Reader_acceptsHead_62 : decode prog_6_method_5_code 62 = .ok (.getfield 49, 3) := by decide +kernel
theorem od_Reader_acceptsHead_65 : decode prog_6_method_5_code 65 = .ok (.iconst 0, 1) := by decide +kernel
theorem od_Reader_acceptsHead_66 : decode prog_6_method_5_code 66 = .ok (.ldc 109, 2) := by decide +kernel
theorem od_Reader_acceptsHead_68 : decode prog_6_method_5_code 68 = .ok (.invokevirtual 102, 3) := by decide +kernel
theorem od_Reader_acceptsHead_71 : decode prog_6_method_5_code 71 = .ok (.ifCond .eq (8), 3) := by decide +kernel
theorem od_Reader_acceptsHead_74 : decode prog_6_method_5_code 74 = .ok (.aload_n 0, 1) := by decide +kernel
theorem od_Reader_acceptsHead_75 : decode prog_6_method_5_code 75 = .ok (.invokevirtual 111, 3) := by decide +kernel
theorem od_Reader_acceptsHead_78 : decode prog_6_method_5_code 78 = .ok (.ireturn, 1) := by decide +kernel
theorem od_Reader_acceptsHead_79 : decode prog_6_method_5_code 79 = .ok (.aload_n 0, 1) := by decide +kernel
theorem od_Reader_acceptsHead_80 : decode prog_6_method_5_code 80 = .ok (.getfield 49, 3) := by decide +kernel
theorem od_Reader_acceptsHead_83 : decode prog_6_method_5_code 83 = .ok (.iconst 0, 1) := by decide +kernel
theorem od_Reader_acceptsHead_84 : decode prog_6_method_5_code 84 = .ok (.ldc 114, 2) := by decide +kernel
theorem od_Reader_acceptsHead_86 : decode prog_6_method_5_code 86 = .ok (.invokevirtual 102, 3) := by decide +kernel
theorem od_Reader_acceptsHead_89 : decode prog_6_method_5_code 89 = .ok (.ifCond .eq (14), 3) := by decide +kernel
theorem od_Reader_acceptsHead_92 : decode prog_6_method_5_code 92 = .ok (.aload_n 0, 1) := by decide +kernel
theorem od_Reader_acceptsHead_93 : decode prog_6_method_5_code 93 = .ok (.invokevirtual 116, 3) := by decide +kernel
theorem od_Reader_acceptsHead_96 : decode prog_6_method_5_code 96 = .ok (.ifCond .eq (7), 3) := by decide +kernel
theorem od_Reader_acceptsHead_99 : decode prog_6_method_5_code 99 = .ok (.iconst 1, 1) := by decide +kernel
theorem od_Reader_acceptsHead_100 : decode prog_6_method_5_code 100 = .ok (.goto (4), 3) := by decide +kernel
theorem od_Reader_acceptsHead_103 : decode prog_6_method_5_code 103 = .ok (.iconst 0, 1) := by decide +kernel
theorem od_Reader_acceptsHead_104 : decode prog_6_method_5_code 104 = .ok (.ireturn, 1) := by decide +kernel
theorem od_Reader_accepts_0 : decode prog_6_method_4_code 0 = .ok (.aload_n 0, 1) := by decide +kernel
theorem od_Reader_accepts_1 : decode prog_6_method_4_code 1 = .ok (.getfield 11, 3) := by decide +kernel
theorem od_Reader_accepts_4 : decode prog_6_method_4_code 4 = .ok (.ifCond .ne (8), 3) := by decide +kernel
theorem od_Reader_accepts_7 : decode prog_6_method_4_code 7 = .ok (.aload_n 0, 1) := by decide +kernel
theorem od_Reader_accepts_8 : decode prog_6_method_4_code 8 = .ok (.invokevirtual 79, 3) := by decide +kernel
theorem od_Reader_accepts_11 : decode prog_6_method_4_code 11 = .ok (.ireturn, 1) := by decide +kernel
theorem od_Reader_accepts_12 : decode prog_6_method_4_code 12 = .ok (.aload_n 0, 1) := by decide +kernel
theorem od_Reader_accepts_13 : decode prog_6_method_4_code 13 = .ok (.getfield 11, 3) := by decide +kernel
theorem od_Reader_accepts_16 : decode prog_6_method_4_code 16 = .ok (.iconst 2, 1) := by decide +kernel
theorem od_Reader_accepts_17 : decode prog_6_method_4_code 17 = .ok (.if_icmp .ne (5), 3) := by decide +kernel
theorem od_Reader_accepts_20 : decode prog_6_method_4_code 20 = .ok (.iconst 0, 1) := by decide +kernel
theorem od_Reader_accepts_21 : decode prog_6_method_4_code 21 = .ok (.ireturn, 1) := by decide +kernel
theorem od_Reader_accepts_22 : decode prog_6_method_4_code 22 = .ok (.aload_n 0, 1) := by decide +kernel
theorem od_Reader_accepts_23 : decode prog_6_method_4_code 23 = .ok (.getfield 15, 3) := by decide +kernel
theorem od_Reader_accepts_26 : decode prog_6_method_4_code 26 = .ok (.iconst 1, 1) := by decide +kernel
theorem od_Reader_accepts_27 : decode prog_6_method_4_code 27 = .ok (.if_icmp .ne (10), 3) := by decide +kernel
theorem od_Reader_accepts_30 : decode prog_6_method_4_code 30 = .ok (.aload_n 0, 1) := by decide +kernel
theorem od_Reader_accepts_31 : decode prog_6_method_4_code 31 = .ok (.invokevirtual 82, 3) := by decide +kernel
theorem od_Reader_accepts_34 : decode prog_6_method_4_code 34 = .ok (.goto (7), 3) := by decide +kernel
theorem od_Reader_accepts_37 : decode prog_6_method_4_code 37 = .ok (.aload_n 0, 1) := by decide +kernel
theorem od_Reader_accepts_38 : decode prog_6_method_4_code 38 = .ok (.invokevirtual 85, 3) := by decide +kernel
theorem od_Reader_accepts_41 : decode prog_6_method_4_code 41 = .ok (.ireturn, 1) := by decide +kernel
theorem od_Reader_read_0 : decode prog_6_method_2_code 0 = .ok (.aload_n 0, 1) := by decide +kernel
theorem od_Reader_read_1 : decode prog_6_method_2_code 1 = .ok (.invokevirtual 53, 3) := by decide +kernel
theorem od_Reader_read_4 : decode prog_6_method_2_code 4 = .ok (.iconst 1, 1) := by decide +kernel
theorem od_Reader_read_5 : decode prog_6_method_2_code 5 = .ok (.istore_n 1, 1) := by decide +kernel
theorem od_Reader_read_6 : decode prog_6_method_2_code 6 = .ok (.iconst 0, 1) := by decide +kernel
theorem od_Reader_read_7 : decode prog_6_method_2_code 7 = .ok (.istore_n 2, 1) := by decide +kernel
theorem od_Reader_read_8 : decode prog_6_method_2_code 8 = .ok (.iconst 0, 1) := by decide +kernel
theorem od_Reader_read_9 : decode prog_6_method_2_code 9 = .ok (.istore_n 3, 1) := by decide +kernel
theorem od_Reader_read_10 : decode prog_6_method_2_code 10 = .ok (.iload_n 3, 1) := by decide +kernel
theorem od_Reader_read_11 : decode prog_6_method_2_code 11 = .ok (.aload_n 0, 1) := by decide +kernel
theorem od_Reader_read_12 : decode prog_6_method_2_code 12 = .ok (.getfield 40, 3) := by decide +kernel
theorem od_Reader_read_15 : decode prog_6_method_2_code 15 = .ok (.getfield 56, 3) := by decide +kernel
theorem od_Reader_read_18 : decode prog_6_method_2_code 18 = .ok (.if_icmp .ge (49), 3) := by decide +kernel
theorem od_Reader_read_21 : decode prog_6_method_2_code 21 = .ok (.aload_n 0, 1) := by decide +kernel
theorem od_Reader_read_22 : decode prog_6_method_2_code 22 = .ok (.getfield 40, 3) := by decide +kernel
theorem od_Reader_read_25 : decode prog_6_method_2_code 25 = .ok (.getfield 61, 3) := by decide +kernel
theorem od_Reader_read_28 : decode prog_6_method_2_code 28 = .ok (.iload_n 3, 1) := by decide +kernel
theorem od_Reader_read_29 : decode prog_6_method_2_code 29 = .ok (.caload, 1) := by decide +kernel
theorem od_Reader_read_30 : decode prog_6_method_2_code 30 = .ok (.bipush (10), 2) := by decide +kernel
theorem od_Reader_read_32 : decode prog_6_method_2_code 32 = .ok (.if_icmp .ne (29), 3) := by decide +kernel
theorem od_Reader_read_35 : decode prog_6_method_2_code 35 = .ok (.aload_n 0, 1) := by decide +kernel
theorem od_Reader_read_36 : decode prog_6_method_2_code 36 = .ok (.getfield 49, 3) := by decide +kernel
theorem od_Reader_read_39 : decode prog_6_method_2_code 39 = .ok (.iload_n 2, 1) := by decide +kernel
theorem od_Reader_read_40 : decode prog_6_method_2_code 40 = .ok (.iload_n 3, 1) := by decide +kernel
theorem od_Reader_read_41 : decode prog_6_method_2_code 41 = .ok (.invokevirtual 65, 3) := by decide +kernel
theorem od_Reader_read_44 : decode prog_6_method_2_code 44 = .ok (.aload_n 0, 1) := by decide +kernel
theorem od_Reader_read_45 : decode prog_6_method_2_code 45 = .ok (.invokevirtual 69, 3) := by decide +kernel
theorem od_Reader_read_48 : decode prog_6_method_2_code 48 = .ok (.ifCond .ne (6), 3) := by decide +kernel
theorem od_Reader_read_51 : decode prog_6_method_2_code 51 = .ok (.iload_n 1, 1) := by decide +kernel
theorem od_Reader_read_52 : decode prog_6_method_2_code 52 = .ok (.ineg, 1) := by decide +kernel
theorem od_Reader_read_53 : decode prog_6_method_2_code 53 = .ok (.ireturn, 1) := by decide +kernel
theorem od_Reader_read_54 : decode prog_6_method_2_code 54 = .ok (.iinc 1 (1), 3) := by decide +kernel
theorem od_Reader_read_57 : decode prog_6_method_2_code 57 = .ok (.iload_n 3, 1) := by decide +kernel
theorem od_Reader_read_58 : decode prog_6_method_2_code 58 = .ok (.iconst 1, 1) := by decide +kernel
theorem od_Reader_read_59 : decode prog_6_method_2_code 59 = .ok (.iadd, 1) := by decide +kernel
theorem od_Reader_read_60 : decode prog_6_method_2_code 60 = .ok (.istore_n 2, 1) := by decide +kernel
theorem od_Reader_read_61 : decode prog_6_method_2_code 61 = .ok (.iinc 3 (1), 3) := by decide +kernel
theorem od_Reader_read_64 : decode prog_6_method_2_code 64 = .ok (.goto (-54), 3) := by decide +kernel
theorem od_Reader_read_67 : decode prog_6_method_2_code 67 = .ok (.aload_n 0, 1) := by decide +kernel
theorem od_Reader_read_68 : decode prog_6_method_2_code 68 = .ok (.getfield 11, 3) := by decide +kernel
theorem od_Reader_read_71 : decode prog_6_method_2_code 71 = .ok (.iconst 2, 1) := by decide +kernel
theorem od_Reader_read_72 : decode prog_6_method_2_code 72 = .ok (.if_icmp .ne (18), 3) := by decide +kernel
theorem od_Reader_read_75 : decode prog_6_method_2_code 75 = .ok (.iload_n 2, 1) := by decide +kernel
theorem od_Reader_read_76 : decode prog_6_method_2_code 76 = .ok (.aload_n 0, 1) := by decide +kernel
theorem od_Reader_read_77 : decode prog_6_method_2_code 77 = .ok (.getfield 40, 3) := by decide +kernel
theorem od_Reader_read_80 : decode prog_6_method_2_code 80 = .ok (.getfield 56, 3) := by decide +kernel
theorem od_Reader_read_83 : decode prog_6_method_2_code 83 = .ok (.if_icmp .ne (7), 3) := by decide +kernel
theorem od_Reader_read_86 : decode prog_6_method_2_code 86 = .ok (.iconst 0, 1) := by decide +kernel
theorem od_Reader_read_87 : decode prog_6_method_2_code 87 = .ok (.goto (5), 3) := by decide +kernel
theorem od_Reader_read_90 : decode prog_6_method_2_code 90 = .ok (.iload_n 1, 1) := by decide +kernel
theorem od_Reader_read_91 : decode prog_6_method_2_code 91 = .ok (.ineg, 1) := by decide +kernel
theorem od_Reader_read_92 : decode prog_6_method_2_code 92 = .ok (.ireturn, 1) := by decide +kernel
theorem od_Land_numberEdges_0 : decode prog_3_method_3_code 0 = .ok (.aload_n 0, 1) := by decide +kernel
theorem od_Land_numberEdges_1 : decode prog_3_method_3_code 1 = .ok (.iconst 0, 1) := by decide +kernel
theorem od_Land_numberEdges_2 : decode prog_3_method_3_code 2 = .ok (.putfield 31, 3) := by decide +kernel
theorem od_Land_numberEdges_5 : decode prog_3_method_3_code 5 = .ok (.iconst 0, 1) := by decide +kernel
theorem od_Land_numberEdges_6 : decode prog_3_method_3_code 6 = .ok (.istore_n 1, 1) := by decide +kernel
theorem od_Land_numberEdges_7 : decode prog_3_method_3_code 7 = .ok (.iload_n 1, 1) := by decide +kernel
theorem od_Land_numberEdges_8 : decode prog_3_method_3_code 8 = .ok (.aload_n 0, 1) := by decide +kernel
theorem od_Land_numberEdges_9 : decode prog_3_method_3_code 9 = .ok (.getfield 27, 3) := by decide +kernel
theorem od_Land_numberEdges_12 : decode prog_3_method_3_code 12 = .ok (.if_icmp .ge (87), 3) := by decide +kernel
theorem od_Land_numberEdges_15 : decode prog_3_method_3_code 15 = .ok (.iload_n 1, 1) := by decide +kernel
theorem od_Land_numberEdges_16 : decode prog_3_method_3_code 16 = .ok (.iconst 1, 1) := by decide +kernel
theorem od_Land_numberEdges_17 : decode prog_3_method_3_code 17 = .ok (.iadd, 1) := by decide +kernel
theorem od_Land_numberEdges_18 : decode prog_3_method_3_code 18 = .ok (.istore_n 2, 1) := by decide +kernel
theorem od_Land_numberEdges_19 : decode prog_3_method_3_code 19 = .ok (.iload_n 2, 1) := by decide +kernel
theorem od_Land_numberEdges_20 : decode prog_3_method_3_code 20 = .ok (.aload_n 0, 1) := by decide +kernel
theorem od_Land_numberEdges_21 : decode prog_3_method_3_code 21 = .ok (.getfield 27, 3) := by decide +kernel
theorem od_Land_numberEdges_24 : decode prog_3_method_3_code 24 = .ok (.if_icmp .ge (69), 3) := by decide +kernel
theorem od_Land_numberEdges_27 : decode prog_3_method_3_code 27 = .ok (.aload_n 0, 1) := by decide +kernel
theorem od_Land_numberEdges_28 : decode prog_3_method_3_code 28 = .ok (.getfield 18, 3) := by decide +kernel
theorem od_Land_numberEdges_31 : decode prog_3_method_3_code 31 = .ok (.aload_n 0, 1) := by decide +kernel
theorem od_Land_numberEdges_32 : decode prog_3_method_3_code 32 = .ok (.getfield 31, 3) := by decide +kernel
theorem od_Land_numberEdges_35 : decode prog_3_method_3_code 35 = .ok (.iload_n 1, 1) := by decide +kernel
theorem od_Land_numberEdges_36 : decode prog_3_method_3_code 36 = .ok (.iastore, 1) := by decide +kernel
theorem od_Land_numberEdges_37 : decode prog_3_method_3_code 37 = .ok (.aload_n 0, 1) := by decide +kernel
theorem od_Land_numberEdges_38 : decode prog_3_method_3_code 38 = .ok (.getfield 21, 3) := by decide +kernel
theorem od_Land_numberEdges_41 : decode prog_3_method_3_code 41 = .ok (.aload_n 0, 1) := by decide +kernel
theorem od_Land_numberEdges_42 : decode prog_3_method_3_code 42 = .ok (.getfield 31, 3) := by decide +kernel
theorem od_Land_numberEdges_45 : decode prog_3_method_3_code 45 = .ok (.iload_n 2, 1) := by decide +kernel
theorem od_Land_numberEdges_46 : decode prog_3_method_3_code 46 = .ok (.iastore, 1) := by decide +kernel
theorem od_Land_numberEdges_47 : decode prog_3_method_3_code 47 = .ok (.aload_n 0, 1) := by decide +kernel
theorem od_Land_numberEdges_48 : decode prog_3_method_3_code 48 = .ok (.getfield 15, 3) := by decide +kernel
theorem od_Land_numberEdges_51 : decode prog_3_method_3_code 51 = .ok (.iload_n 1, 1) := by decide +kernel
theorem od_Land_numberEdges_52 : decode prog_3_method_3_code 52 = .ok (.bipush (8), 2) := by decide +kernel
theorem od_Land_numberEdges_54 : decode prog_3_method_3_code 54 = .ok (.imul, 1) := by decide +kernel
theorem od_Land_numberEdges_55 : decode prog_3_method_3_code 55 = .ok (.iload_n 2, 1) := by decide +kernel
theorem od_Land_numberEdges_56 : decode prog_3_method_3_code 56 = .ok (.iadd, 1) := by decide +kernel
theorem od_Land_numberEdges_57 : decode prog_3_method_3_code 57 = .ok (.aload_n 0, 1) := by decide +kernel
theorem od_Land_numberEdges_58 : decode prog_3_method_3_code 58 = .ok (.getfield 31, 3) := by decide +kernel
theorem od_Land_numberEdges_61 : decode prog_3_method_3_code 61 = .ok (.iastore, 1) := by decide +kernel
theorem od_Land_numberEdges_62 : decode prog_3_method_3_code 62 = .ok (.aload_n 0, 1) := by decide +kernel
theorem od_Land_numberEdges_63 : decode prog_3_method_3_code 63 = .ok (.getfield 15, 3) := by decide +kernel
theorem od_Land_numberEdges_66 : decode prog_3_method_3_code 66 = .ok (.iload_n 2, 1) := by decide +kernel
theorem od_Land_numberEdges_67 : decode prog_3_method_3_code 67 = .ok (.bipush (8), 2) := by decide +kernel
theorem od_Land_numberEdges_69 : decode prog_3_method_3_code 69 = .ok (.imul, 1) := by decide +kernel
theorem od_Land_numberEdges_70 : decode prog_3_method_3_code 70 = .ok (.iload_n 1, 1) := by decide +kernel
theorem od_Land_numberEdges_71 : decode prog_3_method_3_code 71 = .ok (.iadd, 1) := by decide +kernel
theorem od_Land_numberEdges_72 : decode prog_3_method_3_code 72 = .ok (.aload_n 0, 1) := by decide +kernel
theorem od_Land_numberEdges_73 : decode prog_3_method_3_code 73 = .ok (.getfield 31, 3) := by decide +kernel
theorem od_Land_numberEdges_76 : decode prog_3_method_3_code 76 = .ok (.iastore, 1) := by decide +kernel
theorem od_Land_numberEdges_77 : decode prog_3_method_3_code 77 = .ok (.aload_n 0, 1) := by decide +kernel
theorem od_Land_numberEdges_78 : decode prog_3_method_3_code 78 = .ok (.dup, 1) := by decide +kernel
theorem od_Land_numberEdges_79 : decode prog_3_method_3_code 79 = .ok (.getfield 31, 3) := by decide +kernel
theorem od_Land_numberEdges_82 : decode prog_3_method_3_code 82 = .ok (.iconst 1, 1) := by decide +kernel
theorem od_Land_numberEdges_83 : decode prog_3_method_3_code 83 = .ok (.iadd, 1) := by decide +kernel
theorem od_Land_numberEdges_84 : decode prog_3_method_3_code 84 = .ok (.putfield 31, 3) := by decide +kernel
theorem od_Land_numberEdges_87 : decode prog_3_method_3_code 87 = .ok (.iinc 2 (1), 3) := by decide +kernel
theorem od_Land_numberEdges_90 : decode prog_3_method_3_code 90 = .ok (.goto (-71), 3) := by decide +kernel
theorem od_Land_numberEdges_93 : decode prog_3_method_3_code 93 = .ok (.iinc 1 (1), 3) := by decide +kernel
theorem od_Land_numberEdges_96 : decode prog_3_method_3_code 96 = .ok (.goto (-89), 3) := by decide +kernel
theorem od_Land_numberEdges_99 : decode prog_3_method_3_code 99 = .ok (.return_, 1) := by decide +kernel
theorem od_Land_settle_0 : decode prog_3_method_2_code 0 = .ok (.aload_n 0, 1) := by decide +kernel
theorem od_Land_settle_1 : decode prog_3_method_2_code 1 = .ok (.iload_n 1, 1) := by decide +kernel
theorem od_Land_settle_2 : decode prog_3_method_2_code 2 = .ok (.putfield 27, 3) := by decide +kernel
theorem od_Land_settle_5 : decode prog_3_method_2_code 5 = .ok (.aload_n 2, 1) := by decide +kernel
theorem od_Land_settle_6 : decode prog_3_method_2_code 6 = .ok (.iconst 0, 1) := by decide +kernel
theorem od_Land_settle_7 : decode prog_3_method_2_code 7 = .ok (.aload_n 0, 1) := by decide +kernel
theorem od_Land_settle_8 : decode prog_3_method_2_code 8 = .ok (.getfield 9, 3) := by decide +kernel
theorem od_Land_settle_11 : decode prog_3_method_2_code 11 = .ok (.iconst 0, 1) := by decide +kernel
theorem od_Land_settle_12 : decode prog_3_method_2_code 12 = .ok (.aload_n 0, 1) := by decide +kernel
theorem od_Land_settle_13 : decode prog_3_method_2_code 13 = .ok (.getfield 9, 3) := by decide +kernel
theorem od_Land_settle_16 : decode prog_3_method_2_code 16 = .ok (.arraylength, 1) := by decide +kernel
theorem od_Land_settle_17 : decode prog_3_method_2_code 17 = .ok (.invokestatic 40, 3) := by decide +kernel
theorem od_Land_settle_20 : decode prog_3_method_2_code 20 = .ok (.aload_n 0, 1) := by decide +kernel
theorem od_Land_settle_21 : decode prog_3_method_2_code 21 = .ok (.getfield 24, 3) := by decide +kernel
theorem od_Land_settle_24 : decode prog_3_method_2_code 24 = .ok (.iconst 0, 1) := by decide +kernel
theorem od_Land_settle_25 : decode prog_3_method_2_code 25 = .ok (.invokestatic 46, 3) := by decide +kernel
theorem od_Land_settle_28 : decode prog_3_method_2_code 28 = .ok (.aload_n 0, 1) := by decide +kernel
theorem od_Land_settle_29 : decode prog_3_method_2_code 29 = .ok (.iconst 0, 1) := by decide +kernel
theorem od_Land_settle_30 : decode prog_3_method_2_code 30 = .ok (.putfield 34, 3) := by decide +kernel
theorem od_Land_settle_33 : decode prog_3_method_2_code 33 = .ok (.aload_n 0, 1) := by decide +kernel
theorem od_Land_settle_34 : decode prog_3_method_2_code 34 = .ok (.iconst 0, 1) := by decide +kernel
theorem od_Land_settle_35 : decode prog_3_method_2_code 35 = .ok (.putfield 37, 3) := by decide +kernel
theorem od_Land_settle_38 : decode prog_3_method_2_code 38 = .ok (.aload_n 0, 1) := by decide +kernel
theorem od_Land_settle_39 : decode prog_3_method_2_code 39 = .ok (.invokevirtual 52, 3) := by decide +kernel
theorem od_Land_settle_42 : decode prog_3_method_2_code 42 = .ok (.return_, 1) := by decide +kernel
theorem od_T_turnRound_0 : decode prog_1_method_25_code 0 = .ok (.iload_n 1, 1) := by decide +kernel
theorem od_T_turnRound_1 : decode prog_1_method_25_code 1 = .ok (.istore_n 3, 1) := by decide +kernel
theorem od_T_turnRound_2 : decode prog_1_method_25_code 2 = .ok (.iload_n 2, 1) := by decide +kernel
theorem od_T_turnRound_3 : decode prog_1_method_25_code 3 = .ok (.istore 4, 2) := by decide +kernel
theorem od_T_turnRound_5 : decode prog_1_method_25_code 5 = .ok (.iload_n 3, 1) := by decide +kernel
theorem od_T_turnRound_6 : decode prog_1_method_25_code 6 = .ok (.iload 4, 2) := by decide +kernel
theorem od_T_turnRound_8 : decode prog_1_method_25_code 8 = .ok (.if_icmp .ge (30), 3) := by decide +kernel
theorem od_T_turnRound_11 : decode prog_1_method_25_code 11 = .ok (.aload_n 0, 1) := by decide +kernel
theorem od_T_turnRound_12 : decode prog_1_method_25_code 12 = .ok (.iload_n 3, 1) := by decide +kernel
theorem od_T_turnRound_13 : decode prog_1_method_25_code 13 = .ok (.iaload, 1) := by decide +kernel
theorem od_T_turnRound_14 : decode prog_1_method_25_code 14 = .ok (.istore 5, 2) := by decide +kernel
theorem od_T_turnRound_16 : decode prog_1_method_25_code 16 = .ok (.aload_n 0, 1) := by decide +kernel
theorem od_T_turnRound_17 : decode prog_1_method_25_code 17 = .ok (.iload_n 3, 1) := by decide +kernel
theorem od_T_turnRound_18 : decode prog_1_method_25_code 18 = .ok (.aload_n 0, 1) := by decide +kernel
theorem od_T_turnRound_19 : decode prog_1_method_25_code 19 = .ok (.iload 4, 2) := by decide +kernel
theorem od_T_turnRound_21 : decode prog_1_method_25_code 21 = .ok (.iaload, 1) := by decide +kernel
theorem od_T_turnRound_22 : decode prog_1_method_25_code 22 = .ok (.iastore, 1) := by decide +kernel
theorem od_T_turnRound_23 : decode prog_1_method_25_code 23 = .ok (.aload_n 0, 1) := by decide +kernel
theorem od_T_turnRound_24 : decode prog_1_method_25_code 24 = .ok (.iload 4, 2) := by decide +kernel
theorem od_T_turnRound_26 : decode prog_1_method_25_code 26 = .ok (.iload 5, 2) := by decide +kernel
theorem od_T_turnRound_28 : decode prog_1_method_25_code 28 = .ok (.iastore, 1) := by decide +kernel
theorem od_T_turnRound_29 : decode prog_1_method_25_code 29 = .ok (.iinc 3 (1), 3) := by decide +kernel
theorem od_T_turnRound_32 : decode prog_1_method_25_code 32 = .ok (.iinc 4 (-1), 3) := by decide +kernel
theorem od_T_turnRound_35 : decode prog_1_method_25_code 35 = .ok (.goto (-30), 3) := by decide +kernel
theorem od_T_turnRound_38 : decode prog_1_method_25_code 38 = .ok (.return_, 1) := by decide +kernel
theorem od_TourList_goToNextRow_0 : decode prog_9_method_7_code 0 = .ok (.aload_n 0, 1) := by decide +kernel
theorem od_TourList_goToNextRow_1 : decode prog_9_method_7_code 1 = .ok (.getfield 25, 3) := by decide +kernel
theorem od_TourList_goToNextRow_4 : decode prog_9_method_7_code 4 = .ok (.getfield 29, 3) := by decide +kernel
theorem od_TourList_goToNextRow_7 : decode prog_9_method_7_code 7 = .ok (.iconst 1, 1) := by decide +kernel
theorem od_TourList_goToNextRow_8 : decode prog_9_method_7_code 8 = .ok (.isub, 1) := by decide +kernel
theorem od_TourList_goToNextRow_9 : decode prog_9_method_7_code 9 = .ok (.istore_n 1, 1) := by decide +kernel
theorem od_TourList_goToNextRow_10 : decode prog_9_method_7_code 10 = .ok (.iload_n 1, 1) := by decide +kernel
theorem od_TourList_goToNextRow_11 : decode prog_9_method_7_code 11 = .ok (.iconst 1, 1) := by decide +kernel
theorem od_TourList_goToNextRow_12 : decode prog_9_method_7_code 12 = .ok (.isub, 1) := by decide +kernel
theorem od_TourList_goToNextRow_13 : decode prog_9_method_7_code 13 = .ok (.istore_n 2, 1) := by decide +kernel
theorem od_TourList_goToNextRow_14 : decode prog_9_method_7_code 14 = .ok (.iload_n 2, 1) := by decide +kernel
theorem od_TourList_goToNextRow_15 : decode prog_9_method_7_code 15 = .ok (.iconst 1, 1) := by decide +kernel
theorem od_TourList_goToNextRow_16 : decode prog_9_method_7_code 16 = .ok (.if_icmp .lt (26), 3) := by decide +kernel
theorem od_TourList_goToNextRow_19 : decode prog_9_method_7_code 19 = .ok (.aload_n 0, 1) := by decide +kernel
theorem od_TourList_goToNextRow_20 : decode prog_9_method_7_code 20 = .ok (.getfield 9, 3) := by decide +kernel
theorem od_TourList_goToNextRow_23 : decode prog_9_method_7_code 23 = .ok (.iload_n 2, 1) := by decide +kernel
theorem od_TourList_goToNextRow_24 : decode prog_9_method_7_code 24 = .ok (.iaload, 1) := by decide +kernel
theorem od_TourList_goToNextRow_25 : decode prog_9_method_7_code 25 = .ok (.aload_n 0, 1) := by decide +kernel
theorem od_TourList_goToNextRow_26 : decode prog_9_method_7_code 26 = .ok (.getfield 9, 3) := by decide +kernel
theorem od_TourList_goToNextRow_29 : decode prog_9_method_7_code 29 = .ok (.iload_n 2, 1) := by decide +kernel
theorem od_TourList_goToNextRow_30 : decode prog_9_method_7_code 30 = .ok (.iconst 1, 1) := by decide +kernel
theorem od_TourList_goToNextRow_31 : decode prog_9_method_7_code 31 = .ok (.iadd, 1) := by decide +kernel
theorem od_TourList_goToNextRow_32 : decode prog_9_method_7_code 32 = .ok (.iaload, 1) := by decide +kernel
theorem od_TourList_goToNextRow_33 : decode prog_9_method_7_code 33 = .ok (.if_icmp .le (9), 3) := by decide +kernel
theorem od_TourList_goToNextRow_36 : decode prog_9_method_7_code 36 = .ok (.iinc 2 (-1), 3) := by decide +kernel
theorem od_TourList_goToNextRow_39 : decode prog_9_method_7_code 39 = .ok (.goto (-25), 3) := by decide +kernel
theorem od_TourList_goToNextRow_42 : decode prog_9_method_7_code 42 = .ok (.iload_n 2, 1) := by decide +kernel
theorem od_TourList_goToNextRow_43 : decode prog_9_method_7_code 43 = .ok (.iconst 1, 1) := by decide +kernel
theorem od_TourList_goToNextRow_44 : decode prog_9_method_7_code 44 = .ok (.if_icmp .ge (5), 3) := by decide +kernel
theorem od_TourList_goToNextRow_47 : decode prog_9_method_7_code 47 = .ok (.iconst 0, 1) := by decide +kernel
theorem od_TourList_goToNextRow_48 : decode prog_9_method_7_code 48 = .ok (.ireturn, 1) := by decide +kernel
theorem od_TourList_goToNextRow_49 : decode prog_9_method_7_code 49 = .ok (.iload_n 1, 1) := by decide +kernel
theorem od_TourList_goToNextRow_50 : decode prog_9_method_7_code 50 = .ok (.istore_n 3, 1) := by decide +kernel
theorem od_TourList_goToNextRow_51 : decode prog_9_method_7_code 51 = .ok (.iload_n 3, 1) := by decide +kernel
theorem od_TourList_goToNextRow_52 : decode prog_9_method_7_code 52 = .ok (.iload_n 2, 1) := by decide +kernel
theorem od_TourList_goToNextRow_53 : decode prog_9_method_7_code 53 = .ok (.iconst 1, 1) := by decide +kernel
theorem od_TourList_goToNextRow_54 : decode prog_9_method_7_code 54 = .ok (.iadd, 1) := by decide +kernel
theorem od_TourList_goToNextRow_55 : decode prog_9_method_7_code 55 = .ok (.if_icmp .le (24), 3) := by decide +kernel
theorem od_TourList_goToNextRow_58 : decode prog_9_method_7_code 58 = .ok (.aload_n 0, 1) := by decide +kernel
theorem od_TourList_goToNextRow_59 : decode prog_9_method_7_code 59 = .ok (.getfield 9, 3) := by decide +kernel
theorem od_TourList_goToNextRow_62 : decode prog_9_method_7_code 62 = .ok (.iload_n 3, 1) := by decide +kernel
theorem od_TourList_goToNextRow_63 : decode prog_9_method_7_code 63 = .ok (.iaload, 1) := by decide +kernel
theorem od_TourList_goToNextRow_64 : decode prog_9_method_7_code 64 = .ok (.aload_n 0, 1) := by decide +kernel
theorem od_TourList_goToNextRow_65 : decode prog_9_method_7_code 65 = .ok (.getfield 9, 3) := by decide +kernel
theorem od_TourList_goToNextRow_68 : decode prog_9_method_7_code 68 = .ok (.iload_n 2, 1) := by decide +kernel
theorem od_TourList_goToNextRow_69 : decode prog_9_method_7_code 69 = .ok (.iaload, 1) := by decide +kernel
theorem od_TourList_goToNextRow_70 : decode prog_9_method_7_code 70 = .ok (.if_icmp .ge (9), 3) := by decide +kernel
theorem od_TourList_goToNextRow_73 : decode prog_9_method_7_code 73 = .ok (.iinc 3 (-1), 3) := by decide +kernel
theorem od_TourList_goToNextRow_76 : decode prog_9_method_7_code 76 = .ok (.goto (-25), 3) := by decide +kernel
theorem od_TourList_goToNextRow_79 : decode prog_9_method_7_code 79 = .ok (.aload_n 0, 1) := by decide +kernel
theorem od_TourList_goToNextRow_80 : decode prog_9_method_7_code 80 = .ok (.getfield 9, 3) := by decide +kernel
theorem od_TourList_goToNextRow_83 : decode prog_9_method_7_code 83 = .ok (.iload_n 2, 1) := by decide +kernel
theorem od_TourList_goToNextRow_84 : decode prog_9_method_7_code 84 = .ok (.iaload, 1) := by decide +kernel
theorem od_TourList_goToNextRow_85 : decode prog_9_method_7_code 85 = .ok (.istore 4, 2) := by decide +kernel
theorem od_TourList_goToNextRow_87 : decode prog_9_method_7_code 87 = .ok (.aload_n 0, 1) := by decide +kernel
theorem od_TourList_goToNextRow_88 : decode prog_9_method_7_code 88 = .ok (.getfield 9, 3) := by decide +kernel
theorem od_TourList_goToNextRow_91 : decode prog_9_method_7_code 91 = .ok (.iload_n 2, 1) := by decide +kernel
theorem od_TourList_goToNextRow_92 : decode prog_9_method_7_code 92 = .ok (.aload_n 0, 1) := by decide +kernel
theorem od_TourList_goToNextRow_93 : decode prog_9_method_7_code 93 = .ok (.getfield 9, 3) := by decide +kernel
theorem od_TourList_goToNextRow_96 : decode prog_9_method_7_code 96 = .ok (.iload_n 3, 1) := by decide +kernel
theorem od_TourList_goToNextRow_97 : decode prog_9_method_7_code 97 = .ok (.iaload, 1) := by decide +kernel
theorem od_TourList_goToNextRow_98 : decode prog_9_method_7_code 98 = .ok (.iastore, 1) := by decide +kernel
theorem od_TourList_goToNextRow_99 : decode prog_9_method_7_code 99 = .ok (.aload_n 0, 1) := by decide +kernel
theorem od_TourList_goToNextRow_100 : decode prog_9_method_7_code 100 = .ok (.getfield 9, 3) := by decide +kernel
theorem od_TourList_goToNextRow_103 : decode prog_9_method_7_code 103 = .ok (.iload_n 3, 1) := by decide +kernel
theorem od_TourList_goToNextRow_104 : decode prog_9_method_7_code 104 = .ok (.iload 4, 2) := by decide +kernel
theorem od_TourList_goToNextRow_106 : decode prog_9_method_7_code 106 = .ok (.iastore, 1) := by decide +kernel
theorem od_TourList_goToNextRow_107 : decode prog_9_method_7_code 107 = .ok (.aload_n 0, 1) := by decide +kernel
theorem od_TourList_goToNextRow_108 : decode prog_9_method_7_code 108 = .ok (.getfield 9, 3) := by decide +kernel
theorem od_TourList_goToNextRow_111 : decode prog_9_method_7_code 111 = .ok (.iload_n 2, 1) := by decide +kernel
theorem od_TourList_goToNextRow_112 : decode prog_9_method_7_code 112 = .ok (.iconst 1, 1) := by decide +kernel
theorem od_TourList_goToNextRow_113 : decode prog_9_method_7_code 113 = .ok (.iadd, 1) := by decide +kernel
theorem od_TourList_goToNextRow_114 : decode prog_9_method_7_code 114 = .ok (.iload_n 1, 1) := by decide +kernel
theorem od_TourList_goToNextRow_115 : decode prog_9_method_7_code 115 = .ok (.invokestatic 66, 3) := by decide +kernel
theorem od_TourList_goToNextRow_118 : decode prog_9_method_7_code 118 = .ok (.iconst 1, 1) := by decide +kernel
theorem od_TourList_goToNextRow_119 : decode prog_9_method_7_code 119 = .ok (.ireturn, 1) := by decide +kernel
theorem od_Land_edgeBit_0 : decode prog_3_method_7_code 0 = .ok (.iconst 1, 1) := by decide +kernel
theorem od_Land_edgeBit_1 : decode prog_3_method_7_code 1 = .ok (.aload_n 0, 1) := by decide +kernel
theorem od_Land_edgeBit_2 : decode prog_3_method_7_code 2 = .ok (.getfield 15, 3) := by decide +kernel
theorem od_Land_edgeBit_5 : decode prog_3_method_7_code 5 = .ok (.iload_n 1, 1) := by decide +kernel
theorem od_Land_edgeBit_6 : decode prog_3_method_7_code 6 = .ok (.bipush (8), 2) := by decide +kernel
theorem od_Land_edgeBit_8 : decode prog_3_method_7_code 8 = .ok (.imul, 1) := by decide +kernel
theorem od_Land_edgeBit_9 : decode prog_3_method_7_code 9 = .ok (.iload_n 2, 1) := by decide +kernel
theorem od_Land_edgeBit_10 : decode prog_3_method_7_code 10 = .ok (.iadd, 1) := by decide +kernel
theorem od_Land_edgeBit_11 : decode prog_3_method_7_code 11 = .ok (.iaload, 1) := by decide +kernel
theorem od_Land_edgeBit_12 : decode prog_3_method_7_code 12 = .ok (.ishl, 1) := by decide +kernel
theorem od_Land_edgeBit_13 : decode prog_3_method_7_code 13 = .ok (.ireturn, 1) := by decide +kernel
theorem od_Land_between_0 : decode prog_3_method_6_code 0 = .ok (.aload_n 0, 1) := by decide +kernel
theorem od_Land_between_1 : decode prog_3_method_6_code 1 = .ok (.getfield 9, 3) := by decide +kernel
theorem od_Land_between_4 : decode prog_3_method_6_code 4 = .ok (.iload_n 1, 1) := by decide +kernel
theorem od_Land_between_5 : decode prog_3_method_6_code 5 = .ok (.bipush (8), 2) := by decide +kernel
theorem od_Land_between_7 : decode prog_3_method_6_code 7 = .ok (.imul, 1) := by decide +kernel
theorem od_Land_between_8 : decode prog_3_method_6_code 8 = .ok (.iload_n 2, 1) := by decide +kernel
theorem od_Land_between_9 : decode prog_3_method_6_code 9 = .ok (.iadd, 1) := by decide +kernel
theorem od_Land_between_10 : decode prog_3_method_6_code 10 = .ok (.iaload, 1) := by decide +kernel
theorem od_Land_between_11 : decode prog_3_method_6_code 11 = .ok (.ireturn, 1) := by decide +kernel
theorem od_TourList_append_0 : decode prog_9_method_6_code 0 = .ok (.iconst 0, 1) := by decide +kernel
theorem od_TourList_append_1 : decode prog_9_method_6_code 1 = .ok (.istore_n 1, 1) := by decide +kernel
theorem od_TourList_append_2 : decode prog_9_method_6_code 2 = .ok (.iconst 0, 1) := by decide +kernel
theorem od_TourList_append_3 : decode prog_9_method_6_code 3 = .ok (.istore_n 2, 1) := by decide +kernel
theorem od_TourList_append_4 : decode prog_9_method_6_code 4 = .ok (.aload_n 0, 1) := by decide +kernel
theorem od_TourList_append_5 : decode prog_9_method_6_code 5 = .ok (.getfield 9, 3) := by decide +kernel
theorem od_TourList_append_8 : decode prog_9_method_6_code 8 = .ok (.aload_n 0, 1) := by decide +kernel
theorem od_TourList_append_9 : decode prog_9_method_6_code 9 = .ok (.getfield 25, 3) := by decide +kernel
theorem od_TourList_append_12 : decode prog_9_method_6_code 12 = .ok (.getfield 29, 3) := by decide +kernel
theorem od_TourList_append_15 : decode prog_9_method_6_code 15 = .ok (.iconst 1, 1) := by decide +kernel
theorem od_TourList_append_16 : decode prog_9_method_6_code 16 = .ok (.isub, 1) := by decide +kernel
theorem od_TourList_append_17 : decode prog_9_method_6_code 17 = .ok (.iaload, 1) := by decide +kernel
theorem od_TourList_append_18 : decode prog_9_method_6_code 18 = .ok (.istore_n 3, 1) := by decide +kernel
theorem od_TourList_append_19 : decode prog_9_method_6_code 19 = .ok (.iconst 0, 1) := by decide +kernel
theorem od_TourList_append_20 : decode prog_9_method_6_code 20 = .ok (.istore 4, 2) := by decide +kernel
theorem od_TourList_append_22 : decode prog_9_method_6_code 22 = .ok (.iload 4, 2) := by decide +kernel
theorem od_TourList_append_24 : decode prog_9_method_6_code 24 = .ok (.aload_n 0, 1) := by decide +kernel
theorem od_TourList_append_25 : decode prog_9_method_6_code 25 = .ok (.getfield 25, 3) := by decide +kernel
theorem od_TourList_append_28 : decode prog_9_method_6_code 28 = .ok (.getfield 29, 3) := by decide +kernel
theorem od_TourList_append_31 : decode prog_9_method_6_code 31 = .ok (.if_icmp .ge (53), 3) := by decide +kernel
theorem od_TourList_append_34 : decode prog_9_method_6_code 34 = .ok (.iload_n 1, 1) := by decide +kernel
theorem od_TourList_append_35 : decode prog_9_method_6_code 35 = .ok (.aload_n 0, 1) := by decide +kernel
theorem od_TourList_append_36 : decode prog_9_method_6_code 36 = .ok (.getfield 25, 3) := by decide +kernel
theorem od_TourList_append_39 : decode prog_9_method_6_code 39 = .ok (.iload_n 3, 1) := by decide +kernel
theorem od_TourList_append_40 : decode prog_9_method_6_code 40 = .ok (.aload_n 0, 1) := by decide +kernel
theorem od_TourList_append_41 : decode prog_9_method_6_code 41 = .ok (.getfield 9, 3) := by decide +kernel
theorem od_TourList_append_44 : decode prog_9_method_6_code 44 = .ok (.iload 4, 2) := by decide +kernel
theorem od_TourList_append_46 : decode prog_9_method_6_code 46 = .ok (.iaload, 1) := by decide +kernel
theorem od_TourList_append_47 : decode prog_9_method_6_code 47 = .ok (.invokevirtual 59, 3) := by decide +kernel
theorem od_TourList_append_50 : decode prog_9_method_6_code 50 = .ok (.ior, 1) := by decide +kernel
theorem od_TourList_append_51 : decode prog_9_method_6_code 51 = .ok (.istore_n 1, 1) := by decide +kernel
theorem od_TourList_append_52 : decode prog_9_method_6_code 52 = .ok (.iload_n 2, 1) := by decide +kernel
theorem od_TourList_append_53 : decode prog_9_method_6_code 53 = .ok (.aload_n 0, 1) := by decide +kernel
theorem od_TourList_append_54 : decode prog_9_method_6_code 54 = .ok (.getfield 25, 3) := by decide +kernel
theorem od_TourList_append_57 : decode prog_9_method_6_code 57 = .ok (.iload_n 3, 1) := by decide +kernel
theorem od_TourList_append_58 : decode prog_9_method_6_code 58 = .ok (.aload_n 0, 1) := by decide +kernel
theorem od_TourList_append_59 : decode prog_9_method_6_code 59 = .ok (.getfield 9, 3) := by decide +kernel
theorem od_TourList_append_62 : decode prog_9_method_6_code 62 = .ok (.iload 4, 2) := by decide +kernel
theorem od_TourList_append_64 : decode prog_9_method_6_code 64 = .ok (.iaload, 1) := by decide +kernel
theorem od_TourList_append_65 : decode prog_9_method_6_code 65 = .ok (.invokevirtual 63, 3) := by decide +kernel
theorem od_TourList_append_68 : decode prog_9_method_6_code 68 = .ok (.iadd, 1) := by decide +kernel
theorem od_TourList_append_69 : decode prog_9_method_6_code 69 = .ok (.istore_n 2, 1) := by decide +kernel
theorem od_TourList_append_70 : decode prog_9_method_6_code 70 = .ok (.aload_n 0, 1) := by decide +kernel
theorem od_TourList_append_71 : decode prog_9_method_6_code 71 = .ok (.getfield 9, 3) := by decide +kernel
theorem od_TourList_append_74 : decode prog_9_method_6_code 74 = .ok (.iload 4, 2) := by decide +kernel
theorem od_TourList_append_76 : decode prog_9_method_6_code 76 = .ok (.iaload, 1) := by decide +kernel
theorem od_TourList_append_77 : decode prog_9_method_6_code 77 = .ok (.istore_n 3, 1) := by decide +kernel
theorem od_TourList_append_78 : decode prog_9_method_6_code 78 = .ok (.iinc 4 (1), 3) := by decide +kernel
theorem od_TourList_append_81 : decode prog_9_method_6_code 81 = .ok (.goto (-59), 3) := by decide +kernel
theorem od_TourList_append_84 : decode prog_9_method_6_code 84 = .ok (.aload_n 0, 1) := by decide +kernel
theorem od_TourList_append_85 : decode prog_9_method_6_code 85 = .ok (.getfield 15, 3) := by decide +kernel
theorem od_TourList_append_88 : decode prog_9_method_6_code 88 = .ok (.aload_n 0, 1) := by decide +kernel
theorem od_TourList_append_89 : decode prog_9_method_6_code 89 = .ok (.getfield 21, 3) := by decide +kernel
theorem od_TourList_append_92 : decode prog_9_method_6_code 92 = .ok (.iload_n 1, 1) := by decide +kernel
theorem od_TourList_append_93 : decode prog_9_method_6_code 93 = .ok (.iastore, 1) := by decide +kernel
theorem od_TourList_append_94 : decode prog_9_method_6_code 94 = .ok (.aload_n 0, 1) := by decide +kernel
theorem od_TourList_append_95 : decode prog_9_method_6_code 95 = .ok (.getfield 18, 3) := by decide +kernel
theorem od_TourList_append_98 : decode prog_9_method_6_code 98 = .ok (.aload_n 0, 1) := by decide +kernel
theorem od_TourList_append_99 : decode prog_9_method_6_code 99 = .ok (.getfield 21, 3) := by decide +kernel
theorem od_TourList_append_102 : decode prog_9_method_6_code 102 = .ok (.iload_n 2, 1) := by decide +kernel
theorem od_TourList_append_103 : decode prog_9_method_6_code 103 = .ok (.iastore, 1) := by decide +kernel
theorem od_TourList_append_104 : decode prog_9_method_6_code 104 = .ok (.aload_n 0, 1) := by decide +kernel
theorem od_TourList_append_105 : decode prog_9_method_6_code 105 = .ok (.dup, 1) := by decide +kernel
theorem od_TourList_append_106 : decode prog_9_method_6_code 106 = .ok (.getfield 21, 3) := by decide +kernel
theorem od_TourList_append_109 : decode prog_9_method_6_code 109 = .ok (.iconst 1, 1) := by decide +kernel
theorem od_TourList_append_110 : decode prog_9_method_6_code 110 = .ok (.iadd, 1) := by decide +kernel
theorem od_TourList_append_111 : decode prog_9_method_6_code 111 = .ok (.putfield 21, 3) := by decide +kernel
theorem od_TourList_append_114 : decode prog_9_method_6_code 114 = .ok (.return_, 1) := by decide +kernel
theorem od_TourList_listAll_0 : decode prog_9_method_2_code 0 = .ok (.aload_n 0, 1) := by decide +kernel
theorem od_TourList_listAll_1 : decode prog_9_method_2_code 1 = .ok (.iconst 0, 1) := by decide +kernel
theorem od_TourList_listAll_2 : decode prog_9_method_2_code 2 = .ok (.putfield 21, 3) := by decide +kernel
theorem od_TourList_listAll_5 : decode prog_9_method_2_code 5 = .ok (.iconst 0, 1) := by decide +kernel
theorem od_TourList_listAll_6 : decode prog_9_method_2_code 6 = .ok (.istore_n 1, 1) := by decide +kernel
theorem od_TourList_listAll_7 : decode prog_9_method_2_code 7 = .ok (.iload_n 1, 1) := by decide +kernel
theorem od_TourList_listAll_8 : decode prog_9_method_2_code 8 = .ok (.bipush (8), 2) := by decide +kernel
theorem od_TourList_listAll_10 : decode prog_9_method_2_code 10 = .ok (.if_icmp .ge (16), 3) := by decide +kernel
theorem od_TourList_listAll_13 : decode prog_9_method_2_code 13 = .ok (.aload_n 0, 1) := by decide +kernel
theorem od_TourList_listAll_14 : decode prog_9_method_2_code 14 = .ok (.getfield 9, 3) := by decide +kernel
theorem od_TourList_listAll_17 : decode prog_9_method_2_code 17 = .ok (.iload_n 1, 1) := by decide +kernel
theorem od_TourList_listAll_18 : decode prog_9_method_2_code 18 = .ok (.iload_n 1, 1) := by decide +kernel
theorem od_TourList_listAll_19 : decode prog_9_method_2_code 19 = .ok (.iastore, 1) := by decide +kernel
theorem od_TourList_listAll_20 : decode prog_9_method_2_code 20 = .ok (.iinc 1 (1), 3) := by decide +kernel
theorem od_TourList_listAll_23 : decode prog_9_method_2_code 23 = .ok (.goto (-16), 3) := by decide +kernel
theorem od_TourList_listAll_26 : decode prog_9_method_2_code 26 = .ok (.iconst 1, 1) := by decide +kernel
theorem od_TourList_listAll_27 : decode prog_9_method_2_code 27 = .ok (.istore_n 1, 1) := by decide +kernel
theorem od_TourList_listAll_28 : decode prog_9_method_2_code 28 = .ok (.iconst 0, 1) := by decide +kernel
theorem od_TourList_listAll_29 : decode prog_9_method_2_code 29 = .ok (.istore_n 2, 1) := by decide +kernel
theorem od_TourList_listAll_30 : decode prog_9_method_2_code 30 = .ok (.iload_n 2, 1) := by decide +kernel
theorem od_TourList_listAll_31 : decode prog_9_method_2_code 31 = .ok (.sipush (5040), 3) := by decide +kernel
theorem od_TourList_listAll_34 : decode prog_9_method_2_code 34 = .ok (.if_icmp .ge (45), 3) := by decide +kernel
theorem od_TourList_listAll_37 : decode prog_9_method_2_code 37 = .ok (.iload_n 1, 1) := by decide +kernel
theorem od_TourList_listAll_38 : decode prog_9_method_2_code 38 = .ok (.ifCond .eq (41), 3) := by decide +kernel
theorem od_TourList_listAll_41 : decode prog_9_method_2_code 41 = .ok (.aload_n 0, 1) := by decide +kernel
theorem od_TourList_listAll_42 : decode prog_9_method_2_code 42 = .ok (.getfield 9, 3) := by decide +kernel
theorem od_TourList_listAll_45 : decode prog_9_method_2_code 45 = .ok (.iconst 1, 1) := by decide +kernel
theorem od_TourList_listAll_46 : decode prog_9_method_2_code 46 = .ok (.iaload, 1) := by decide +kernel
theorem od_TourList_listAll_47 : decode prog_9_method_2_code 47 = .ok (.aload_n 0, 1) := by decide +kernel
theorem od_TourList_listAll_48 : decode prog_9_method_2_code 48 = .ok (.getfield 9, 3) := by decide +kernel
theorem od_TourList_listAll_51 : decode prog_9_method_2_code 51 = .ok (.aload_n 0, 1) := by decide +kernel
theorem od_TourList_listAll_52 : decode prog_9_method_2_code 52 = .ok (.getfield 25, 3) := by decide +kernel
theorem od_TourList_listAll_55 : decode prog_9_method_2_code 55 = .ok (.getfield 29, 3) := by decide +kernel
theorem od_TourList_listAll_58 : decode prog_9_method_2_code 58 = .ok (.iconst 1, 1) := by decide +kernel
theorem od_TourList_listAll_59 : decode prog_9_method_2_code 59 = .ok (.isub, 1) := by decide +kernel
theorem od_TourList_listAll_60 : decode prog_9_method_2_code 60 = .ok (.iaload, 1) := by decide +kernel
theorem od_TourList_listAll_61 : decode prog_9_method_2_code 61 = .ok (.if_icmp .ge (7), 3) := by decide +kernel
theorem od_TourList_listAll_64 : decode prog_9_method_2_code 64 = .ok (.aload_n 0, 1) := by decide +kernel
theorem od_TourList_listAll_65 : decode prog_9_method_2_code 65 = .ok (.invokevirtual 34, 3) := by decide +kernel
theorem od_TourList_listAll_68 : decode prog_9_method_2_code 68 = .ok (.aload_n 0, 1) := by decide +kernel
theorem od_TourList_listAll_69 : decode prog_9_method_2_code 69 = .ok (.invokevirtual 37, 3) := by decide +kernel
theorem od_TourList_listAll_72 : decode prog_9_method_2_code 72 = .ok (.istore_n 1, 1) := by decide +kernel
theorem od_TourList_listAll_73 : decode prog_9_method_2_code 73 = .ok (.iinc 2 (1), 3) := by decide +kernel
theorem od_TourList_listAll_76 : decode prog_9_method_2_code 76 = .ok (.goto (-46), 3) := by decide +kernel
theorem od_TourList_listAll_79 : decode prog_9_method_2_code 79 = .ok (.return_, 1) := by decide +kernel
theorem od_T_load_0 : decode prog_1_method_4_code 0 = .ok (.aload_n 0, 1) := by decide +kernel
theorem od_T_load_1 : decode prog_1_method_4_code 1 = .ok (.getfield 21, 3) := by decide +kernel
theorem od_T_load_4 : decode prog_1_method_4_code 4 = .ok (.invokevirtual 70, 3) := by decide +kernel
theorem od_T_load_7 : decode prog_1_method_4_code 7 = .ok (.istore_n 1, 1) := by decide +kernel
theorem od_T_load_8 : decode prog_1_method_4_code 8 = .ok (.iload_n 1, 1) := by decide +kernel
theorem od_T_load_9 : decode prog_1_method_4_code 9 = .ok (.ifCond .ne (47), 3) := by decide +kernel
theorem od_T_load_12 : decode prog_1_method_4_code 12 = .ok (.aload_n 0, 1) := by decide +kernel
theorem od_T_load_13 : decode prog_1_method_4_code 13 = .ok (.getfield 28, 3) := by decide +kernel
theorem od_T_load_16 : decode prog_1_method_4_code 16 = .ok (.aload_n 0, 1) := by decide +kernel
theorem od_T_load_17 : decode prog_1_method_4_code 17 = .ok (.getfield 21, 3) := by decide +kernel
theorem od_T_load_20 : decode prog_1_method_4_code 20 = .ok (.getfield 74, 3) := by decide +kernel
theorem od_T_load_23 : decode prog_1_method_4_code 23 = .ok (.aload_n 0, 1) := by decide +kernel
theorem od_T_load_24 : decode prog_1_method_4_code 24 = .ok (.getfield 21, 3) := by decide +kernel
theorem od_T_load_27 : decode prog_1_method_4_code 27 = .ok (.getfield 77, 3) := by decide +kernel
theorem od_T_load_30 : decode prog_1_method_4_code 30 = .ok (.invokevirtual 81, 3) := by decide +kernel
theorem od_T_load_33 : decode prog_1_method_4_code 33 = .ok (.aload_n 0, 1) := by decide +kernel
theorem od_T_load_34 : decode prog_1_method_4_code 34 = .ok (.getfield 44, 3) := by decide +kernel
theorem od_T_load_37 : decode prog_1_method_4_code 37 = .ok (.invokevirtual 85, 3) := by decide +kernel
theorem od_T_load_40 : decode prog_1_method_4_code 40 = .ok (.aload_n 0, 1) := by decide +kernel
theorem od_T_load_41 : decode prog_1_method_4_code 41 = .ok (.getfield 51, 3) := by decide +kernel
theorem od_T_load_44 : decode prog_1_method_4_code 44 = .ok (.iconst 0, 1) := by decide +kernel
theorem od_T_load_45 : decode prog_1_method_4_code 45 = .ok (.putfield 88, 3) := by decide +kernel
theorem od_T_load_48 : decode prog_1_method_4_code 48 = .ok (.aload_n 0, 1) := by decide +kernel
theorem od_T_load_49 : decode prog_1_method_4_code 49 = .ok (.getfield 58, 3) := by decide +kernel
theorem od_T_load_52 : decode prog_1_method_4_code 52 = .ok (.iconst 0, 1) := by decide +kernel
theorem od_T_load_53 : decode prog_1_method_4_code 53 = .ok (.putfield 92, 3) := by decide +kernel
theorem od_T_load_56 : decode prog_1_method_4_code 56 = .ok (.iload_n 1, 1) := by decide +kernel
theorem od_T_load_57 : decode prog_1_method_4_code 57 = .ok (.ireturn, 1) := by decide +kernel
theorem od_T_size_0 : decode prog_1_method_5_code 0 = .ok (.aload_n 0, 1) := by decide +kernel
theorem od_T_size_1 : decode prog_1_method_5_code 1 = .ok (.getfield 28, 3) := by decide +kernel
theorem od_T_size_4 : decode prog_1_method_5_code 4 = .ok (.getfield 95, 3) := by decide +kernel
theorem od_T_size_7 : decode prog_1_method_5_code 7 = .ok (.ireturn, 1) := by decide +kernel
theorem od_Land_isCity_0 : decode prog_3_method_4_code 0 = .ok (.iload_n 1, 1) := by decide +kernel
theorem od_Land_isCity_1 : decode prog_3_method_4_code 1 = .ok (.ifCond .lt (15), 3) := by decide +kernel
theorem od_Land_isCity_4 : decode prog_3_method_4_code 4 = .ok (.iload_n 1, 1) := by decide +kernel
theorem od_Land_isCity_5 : decode prog_3_method_4_code 5 = .ok (.aload_n 0, 1) := by decide +kernel
theorem od_Land_isCity_6 : decode prog_3_method_4_code 6 = .ok (.getfield 27, 3) := by decide +kernel
theorem od_Land_isCity_9 : decode prog_3_method_4_code 9 = .ok (.if_icmp .ge (7), 3) := by decide +kernel
theorem od_Land_isCity_12 : decode prog_3_method_4_code 12 = .ok (.iconst 1, 1) := by decide +kernel
theorem od_Land_isCity_13 : decode prog_3_method_4_code 13 = .ok (.goto (4), 3) := by decide +kernel
theorem od_Land_isCity_16 : decode prog_3_method_4_code 16 = .ok (.iconst 0, 1) := by decide +kernel
theorem od_Land_isCity_17 : decode prog_3_method_4_code 17 = .ok (.ireturn, 1) := by decide +kernel
theorem od_T_distance_0 : decode prog_1_method_6_code 0 = .ok (.aload_n 0, 1) := by decide +kernel
theorem od_T_distance_1 : decode prog_1_method_6_code 1 = .ok (.getfield 28, 3) := by decide +kernel
theorem od_T_distance_4 : decode prog_1_method_6_code 4 = .ok (.iload_n 1, 1) := by decide +kernel
theorem od_T_distance_5 : decode prog_1_method_6_code 5 = .ok (.invokevirtual 98, 3) := by decide +kernel
theorem od_T_distance_8 : decode prog_1_method_6_code 8 = .ok (.ifCond .eq (26), 3) := by decide +kernel
theorem od_T_distance_11 : decode prog_1_method_6_code 11 = .ok (.aload_n 0, 1) := by decide +kernel
theorem od_T_distance_12 : decode prog_1_method_6_code 12 = .ok (.getfield 28, 3) := by decide +kernel
theorem od_T_distance_15 : decode prog_1_method_6_code 15 = .ok (.iload_n 2, 1) := by decide +kernel
theorem od_T_distance_16 : decode prog_1_method_6_code 16 = .ok (.invokevirtual 98, 3) := by decide +kernel
theorem od_T_distance_19 : decode prog_1_method_6_code 19 = .ok (.ifCond .eq (15), 3) := by decide +kernel
theorem od_T_distance_22 : decode prog_1_method_6_code 22 = .ok (.aload_n 0, 1) := by decide +kernel
theorem od_T_distance_23 : decode prog_1_method_6_code 23 = .ok (.getfield 28, 3) := by decide +kernel
theorem od_T_distance_26 : decode prog_1_method_6_code 26 = .ok (.iload_n 1, 1) := by decide +kernel
theorem od_T_distance_27 : decode prog_1_method_6_code 27 = .ok (.iload_n 2, 1) := by decide +kernel
theorem od_T_distance_28 : decode prog_1_method_6_code 28 = .ok (.invokevirtual 102, 3) := by decide +kernel
theorem od_T_distance_31 : decode prog_1_method_6_code 31 = .ok (.goto (4), 3) := by decide +kernel
theorem od_T_distance_34 : decode prog_1_method_6_code 34 = .ok (.iconst (-1), 1) := by decide +kernel
theorem od_T_distance_35 : decode prog_1_method_6_code 35 = .ok (.ireturn, 1) := by decide +kernel
theorem od_Land_putMark_0 : decode prog_3_method_8_code 0 = .ok (.aload_n 0, 1) := by decide +kernel
theorem od_Land_putMark_1 : decode prog_3_method_8_code 1 = .ok (.iload_n 2, 1) := by decide +kernel
theorem od_Land_putMark_2 : decode prog_3_method_8_code 2 = .ok (.iconst 1, 1) := by decide +kernel
theorem od_Land_putMark_3 : decode prog_3_method_8_code 3 = .ok (.if_icmp .ne (12), 3) := by decide +kernel
theorem od_Land_putMark_6 : decode prog_3_method_8_code 6 = .ok (.aload_n 0, 1) := by decide +kernel
theorem od_Land_putMark_7 : decode prog_3_method_8_code 7 = .ok (.getfield 34, 3) := by decide +kernel
theorem od_Land_putMark_10 : decode prog_3_method_8_code 10 = .ok (.iload_n 1, 1) := by decide +kernel
theorem od_Land_putMark_11 : decode prog_3_method_8_code 11 = .ok (.ior, 1) := by decide +kernel
theorem od_Land_putMark_12 : decode prog_3_method_8_code 12 = .ok (.goto (11), 3) := by decide +kernel
theorem od_Land_putMark_15 : decode prog_3_method_8_code 15 = .ok (.aload_n 0, 1) := by decide +kernel
theorem od_Land_putMark_16 : decode prog_3_method_8_code 16 = .ok (.getfield 34, 3) := by decide +kernel
theorem od_Land_putMark_19 : decode prog_3_method_8_code 19 = .ok (.iload_n 1, 1) := by decide +kernel
theorem od_Land_putMark_20 : decode prog_3_method_8_code 20 = .ok (.iconst (-1), 1) := by decide +kernel
theorem od_Land_putMark_21 : decode prog_3_method_8_code 21 = .ok (.ixor, 1) := by decide +kernel
theorem od_Land_putMark_22 : decode prog_3_method_8_code 22 = .ok (.iand, 1) := by decide +kernel
theorem od_Land_putMark_23 : decode prog_3_method_8_code 23 = .ok (.putfield 34, 3) := by decide +kernel
theorem od_Land_putMark_26 : decode prog_3_method_8_code 26 = .ok (.aload_n 0, 1) := by decide +kernel
theorem od_Land_putMark_27 : decode prog_3_method_8_code 27 = .ok (.iload_n 2, 1) := by decide +kernel
theorem od_Land_putMark_28 : decode prog_3_method_8_code 28 = .ok (.iconst 2, 1) := by decide +kernel
theorem od_Land_putMark_29 : decode prog_3_method_8_code 29 = .ok (.if_icmp .ne (12), 3) := by decide +kernel
theorem od_Land_putMark_32 : decode prog_3_method_8_code 32 = .ok (.aload_n 0, 1) := by decide +kernel
theorem od_Land_putMark_33 : decode prog_3_method_8_code 33 = .ok (.getfield 37, 3) := by decide +kernel
theorem od_Land_putMark_36 : decode prog_3_method_8_code 36 = .ok (.iload_n 1, 1) := by decide +kernel
theorem od_Land_putMark_37 : decode prog_3_method_8_code 37 = .ok (.ior, 1) := by decide +kernel
theorem od_Land_putMark_38 : decode prog_3_method_8_code 38 = .ok (.goto (11), 3) := by decide +kernel
theorem od_Land_putMark_41 : decode prog_3_method_8_code 41 = .ok (.aload_n 0, 1) := by decide +kernel
theorem od_Land_putMark_42 : decode prog_3_method_8_code 42 = .ok (.getfield 37, 3) := by decide +kernel
theorem od_Land_putMark_45 : decode prog_3_method_8_code 45 = .ok (.iload_n 1, 1) := by decide +kernel
theorem od_Land_putMark_46 : decode prog_3_method_8_code 46 = .ok (.iconst (-1), 1) := by decide +kernel
theorem od_Land_putMark_47 : decode prog_3_method_8_code 47 = .ok (.ixor, 1) := by decide +kernel
theorem od_Land_putMark_48 : decode prog_3_method_8_code 48 = .ok (.iand, 1) := by decide +kernel
theorem od_Land_putMark_49 : decode prog_3_method_8_code 49 = .ok (.putfield 37, 3) := by decide +kernel
theorem od_Land_putMark_52 : decode prog_3_method_8_code 52 = .ok (.return_, 1) := by decide +kernel
theorem od_T_mark_0 : decode prog_1_method_7_code 0 = .ok (.aload_n 0, 1) := by decide +kernel
theorem od_T_mark_1 : decode prog_1_method_7_code 1 = .ok (.getfield 28, 3) := by decide +kernel
theorem od_T_mark_4 : decode prog_1_method_7_code 4 = .ok (.iload_n 1, 1) := by decide +kernel
theorem od_T_mark_5 : decode prog_1_method_7_code 5 = .ok (.invokevirtual 98, 3) := by decide +kernel
theorem od_T_mark_8 : decode prog_1_method_7_code 8 = .ok (.ifCond .eq (28), 3) := by decide +kernel
theorem od_T_mark_11 : decode prog_1_method_7_code 11 = .ok (.aload_n 0, 1) := by decide +kernel
theorem od_T_mark_12 : decode prog_1_method_7_code 12 = .ok (.getfield 28, 3) := by decide +kernel
theorem od_T_mark_15 : decode prog_1_method_7_code 15 = .ok (.iload_n 2, 1) := by decide +kernel
theorem od_T_mark_16 : decode prog_1_method_7_code 16 = .ok (.invokevirtual 98, 3) := by decide +kernel
theorem od_T_mark_19 : decode prog_1_method_7_code 19 = .ok (.ifCond .eq (17), 3) := by decide +kernel
theorem od_T_mark_22 : decode prog_1_method_7_code 22 = .ok (.iload_n 1, 1) := by decide +kernel
theorem od_T_mark_23 : decode prog_1_method_7_code 23 = .ok (.iload_n 2, 1) := by decide +kernel
theorem od_T_mark_24 : decode prog_1_method_7_code 24 = .ok (.if_icmp .eq (12), 3) := by decide +kernel
theorem od_T_mark_27 : decode prog_1_method_7_code 27 = .ok (.iload_n 3, 1) := by decide +kernel
theorem od_T_mark_28 : decode prog_1_method_7_code 28 = .ok (.ifCond .lt (8), 3) := by decide +kernel
theorem od_T_mark_31 : decode prog_1_method_7_code 31 = .ok (.iload_n 3, 1) := by decide +kernel
theorem od_T_mark_32 : decode prog_1_method_7_code 32 = .ok (.iconst 2, 1) := by decide +kernel
theorem od_T_mark_33 : decode prog_1_method_7_code 33 = .ok (.if_icmp .le (5), 3) := by decide +kernel
theorem od_T_mark_36 : decode prog_1_method_7_code 36 = .ok (.iconst 0, 1) := by decide +kernel
theorem od_T_mark_37 : decode prog_1_method_7_code 37 = .ok (.ireturn, 1) := by decide +kernel
theorem od_T_mark_38 : decode prog_1_method_7_code 38 = .ok (.aload_n 0, 1) := by decide +kernel
theorem od_T_mark_39 : decode prog_1_method_7_code 39 = .ok (.getfield 28, 3) := by decide +kernel
theorem od_T_mark_42 : decode prog_1_method_7_code 42 = .ok (.aload_n 0, 1) := by decide +kernel
theorem od_T_mark_43 : decode prog_1_method_7_code 43 = .ok (.getfield 28, 3) := by decide +kernel
theorem od_T_mark_46 : decode prog_1_method_7_code 46 = .ok (.iload_n 1, 1) := by decide +kernel
theorem od_T_mark_47 : decode prog_1_method_7_code 47 = .ok (.iload_n 2, 1) := by decide +kernel
theorem od_T_mark_48 : decode prog_1_method_7_code 48 = .ok (.invokevirtual 106, 3) := by decide +kernel
theorem od_T_mark_51 : decode prog_1_method_7_code 51 = .ok (.iload_n 3, 1) := by decide +kernel
theorem od_T_mark_52 : decode prog_1_method_7_code 52 = .ok (.invokevirtual 109, 3) := by decide +kernel
theorem od_T_mark_55 : decode prog_1_method_7_code 55 = .ok (.iconst 1, 1) := by decide +kernel
theorem od_T_mark_56 : decode prog_1_method_7_code 56 = .ok (.ireturn, 1) := by decide +kernel
theorem od_T_isPotential_0 : decode prog_1_method_22_code 0 = .ok (.iload_n 0, 1) := by decide +kernel
theorem od_T_isPotential_1 : decode prog_1_method_22_code 1 = .ok (.ldc 199, 2) := by decide +kernel
theorem od_T_isPotential_3 : decode prog_1_method_22_code 3 = .ok (.if_icmp .lt (13), 3) := by decide +kernel
theorem od_T_isPotential_6 : decode prog_1_method_22_code 6 = .ok (.iload_n 0, 1) := by decide +kernel
theorem od_T_isPotential_7 : decode prog_1_method_22_code 7 = .ok (.ldc 200, 2) := by decide +kernel
theorem od_T_isPotential_9 : decode prog_1_method_22_code 9 = .ok (.if_icmp .gt (7), 3) := by decide +kernel
theorem od_T_isPotential_12 : decode prog_1_method_22_code 12 = .ok (.iconst 1, 1) := by decide +kernel
theorem od_T_isPotential_13 : decode prog_1_method_22_code 13 = .ok (.goto (4), 3) := by decide +kernel
theorem od_T_isPotential_16 : decode prog_1_method_22_code 16 = .ok (.iconst 0, 1) := by decide +kernel
theorem od_T_isPotential_17 : decode prog_1_method_22_code 17 = .ok (.ireturn, 1) := by decide +kernel
theorem od_T_lift_0 : decode prog_1_method_8_code 0 = .ok (.aload_n 0, 1) := by decide +kernel
theorem od_T_lift_1 : decode prog_1_method_8_code 1 = .ok (.getfield 28, 3) := by decide +kernel
theorem od_T_lift_4 : decode prog_1_method_8_code 4 = .ok (.iload_n 1, 1) := by decide +kernel
theorem od_T_lift_5 : decode prog_1_method_8_code 5 = .ok (.invokevirtual 98, 3) := by decide +kernel
theorem od_T_lift_8 : decode prog_1_method_8_code 8 = .ok (.ifCond .eq (10), 3) := by decide +kernel
theorem od_T_lift_11 : decode prog_1_method_8_code 11 = .ok (.iload_n 2, 1) := by decide +kernel
theorem od_T_lift_12 : decode prog_1_method_8_code 12 = .ok (.invokestatic 113, 3) := by decide +kernel
theorem od_T_lift_15 : decode prog_1_method_8_code 15 = .ok (.ifCond .ne (5), 3) := by decide +kernel
theorem od_T_lift_18 : decode prog_1_method_8_code 18 = .ok (.iconst 0, 1) := by decide +kernel
theorem od_T_lift_19 : decode prog_1_method_8_code 19 = .ok (.ireturn, 1) := by decide +kernel
theorem od_T_lift_20 : decode prog_1_method_8_code 20 = .ok (.aload_n 0, 1) := by decide +kernel
theorem od_T_lift_21 : decode prog_1_method_8_code 21 = .ok (.getfield 28, 3) := by decide +kernel
theorem od_T_lift_24 : decode prog_1_method_8_code 24 = .ok (.getfield 116, 3) := by decide +kernel
theorem od_T_lift_27 : decode prog_1_method_8_code 27 = .ok (.iload_n 1, 1) := by decide +kernel
theorem od_T_lift_28 : decode prog_1_method_8_code 28 = .ok (.iload_n 2, 1) := by decide +kernel
theorem od_T_lift_29 : decode prog_1_method_8_code 29 = .ok (.iastore, 1) := by decide +kernel
theorem od_T_lift_30 : decode prog_1_method_8_code 30 = .ok (.iconst 1, 1) := by decide +kernel
theorem od_T_lift_31 : decode prog_1_method_8_code 31 = .ok (.ireturn, 1) := by decide +kernel
theorem od_T_potential_0 : decode prog_1_method_9_code 0 = .ok (.aload_n 0, 1) := by decide +kernel
theorem od_T_potential_1 : decode prog_1_method_9_code 1 = .ok (.getfield 28, 3) := by decide +kernel
theorem od_T_potential_4 : decode prog_1_method_9_code 4 = .ok (.iload_n 1, 1) := by decide +kernel
theorem od_T_potential_5 : decode prog_1_method_9_code 5 = .ok (.invokevirtual 98, 3) := by decide +kernel
theorem od_T_potential_8 : decode prog_1_method_9_code 8 = .ok (.ifCond .eq (15), 3) := by decide +kernel
theorem od_T_potential_11 : decode prog_1_method_9_code 11 = .ok (.aload_n 0, 1) := by decide +kernel
theorem od_T_potential_12 : decode prog_1_method_9_code 12 = .ok (.getfield 28, 3) := by decide +kernel
theorem od_T_potential_15 : decode prog_1_method_9_code 15 = .ok (.getfield 116, 3) := by decide +kernel
theorem od_T_potential_18 : decode prog_1_method_9_code 18 = .ok (.iload_n 1, 1) := by decide +kernel
theorem od_T_potential_19 : decode prog_1_method_9_code 19 = .ok (.iaload, 1) := by decide +kernel
theorem od_T_potential_20 : decode prog_1_method_9_code 20 = .ok (.goto (4), 3) := by decide +kernel
theorem od_T_potential_23 : decode prog_1_method_9_code 23 = .ok (.iconst 0, 1) := by decide +kernel
theorem od_T_potential_24 : decode prog_1_method_9_code 24 = .ok (.ireturn, 1) := by decide +kernel
theorem od_OneTree_clear_0 : decode prog_5_method_4_code 0 = .ok (.aload_n 0, 1) := by decide +kernel
theorem od_OneTree_clear_1 : decode prog_5_method_4_code 1 = .ok (.iconst 0, 1) := by decide +kernel
theorem od_OneTree_clear_2 : decode prog_5_method_4_code 2 = .ok (.putfield 15, 3) := by decide +kernel
theorem od_OneTree_clear_5 : decode prog_5_method_4_code 5 = .ok (.aload_n 0, 1) := by decide +kernel
theorem od_OneTree_clear_6 : decode prog_5_method_4_code 6 = .ok (.iconst 0, 1) := by decide +kernel
theorem od_OneTree_clear_7 : decode prog_5_method_4_code 7 = .ok (.putfield 19, 3) := by decide +kernel
theorem od_OneTree_clear_10 : decode prog_5_method_4_code 10 = .ok (.aload_n 0, 1) := by decide +kernel
theorem od_OneTree_clear_11 : decode prog_5_method_4_code 11 = .ok (.iconst 0, 1) := by decide +kernel
theorem od_OneTree_clear_12 : decode prog_5_method_4_code 12 = .ok (.putfield 22, 3) := by decide +kernel
theorem od_OneTree_clear_15 : decode prog_5_method_4_code 15 = .ok (.iconst 0, 1) := by decide +kernel
theorem od_OneTree_clear_16 : decode prog_5_method_4_code 16 = .ok (.istore_n 1, 1) := by decide +kernel
theorem od_OneTree_clear_17 : decode prog_5_method_4_code 17 = .ok (.iload_n 1, 1) := by decide +kernel
theorem od_OneTree_clear_18 : decode prog_5_method_4_code 18 = .ok (.bipush (8), 2) := by decide +kernel
theorem od_OneTree_clear_20 : decode prog_5_method_4_code 20 = .ok (.if_icmp .ge (23), 3) := by decide +kernel
theorem od_OneTree_clear_23 : decode prog_5_method_4_code 23 = .ok (.aload_n 0, 1) := by decide +kernel
theorem od_OneTree_clear_24 : decode prog_5_method_4_code 24 = .ok (.getfield 9, 3) := by decide +kernel
theorem od_OneTree_clear_27 : decode prog_5_method_4_code 27 = .ok (.iload_n 1, 1) := by decide +kernel
theorem od_OneTree_clear_28 : decode prog_5_method_4_code 28 = .ok (.iload_n 1, 1) := by decide +kernel
theorem od_OneTree_clear_29 : decode prog_5_method_4_code 29 = .ok (.iastore, 1) := by decide +kernel
theorem od_OneTree_clear_30 : decode prog_5_method_4_code 30 = .ok (.aload_n 0, 1) := by decide +kernel
theorem od_OneTree_clear_31 : decode prog_5_method_4_code 31 = .ok (.getfield 25, 3) := by decide +kernel
theorem od_OneTree_clear_34 : decode prog_5_method_4_code 34 = .ok (.iload_n 1, 1) := by decide +kernel
theorem od_OneTree_clear_35 : decode prog_5_method_4_code 35 = .ok (.iconst 0, 1) := by decide +kernel
theorem od_OneTree_clear_36 : decode prog_5_method_4_code 36 = .ok (.iastore, 1) := by decide +kernel
theorem od_OneTree_clear_37 : decode prog_5_method_4_code 37 = .ok (.iinc 1 (1), 3) := by decide +kernel
theorem od_OneTree_clear_40 : decode prog_5_method_4_code 40 = .ok (.goto (-23), 3) := by decide +kernel
theorem od_OneTree_clear_43 : decode prog_5_method_4_code 43 = .ok (.return_, 1) := by decide +kernel
theorem od_OneTree_weigh_0 : decode prog_5_method_7_code 0 = .ok (.aload_n 0, 1) := by decide +kernel
theorem od_OneTree_weigh_1 : decode prog_5_method_7_code 1 = .ok (.getfield 28, 3) := by decide +kernel
theorem od_OneTree_weigh_4 : decode prog_5_method_7_code 4 = .ok (.getfield 67, 3) := by decide +kernel
theorem od_OneTree_weigh_7 : decode prog_5_method_7_code 7 = .ok (.iload_n 1, 1) := by decide +kernel
theorem od_OneTree_weigh_8 : decode prog_5_method_7_code 8 = .ok (.iaload, 1) := by decide +kernel
theorem od_OneTree_weigh_9 : decode prog_5_method_7_code 9 = .ok (.istore_n 2, 1) := by decide +kernel
theorem od_OneTree_weigh_10 : decode prog_5_method_7_code 10 = .ok (.aload_n 0, 1) := by decide +kernel
theorem od_OneTree_weigh_11 : decode prog_5_method_7_code 11 = .ok (.getfield 28, 3) := by decide +kernel
theorem od_OneTree_weigh_14 : decode prog_5_method_7_code 14 = .ok (.getfield 70, 3) := by decide +kernel
theorem od_OneTree_weigh_17 : decode prog_5_method_7_code 17 = .ok (.iload_n 1, 1) := by decide +kernel
theorem od_OneTree_weigh_18 : decode prog_5_method_7_code 18 = .ok (.iaload, 1) := by decide +kernel
theorem od_OneTree_weigh_19 : decode prog_5_method_7_code 19 = .ok (.istore_n 3, 1) := by decide +kernel
theorem od_OneTree_weigh_20 : decode prog_5_method_7_code 20 = .ok (.aload_n 0, 1) := by decide +kernel
theorem od_OneTree_weigh_21 : decode prog_5_method_7_code 21 = .ok (.getfield 28, 3) := by decide +kernel
theorem od_OneTree_weigh_24 : decode prog_5_method_7_code 24 = .ok (.iload_n 2, 1) := by decide +kernel
theorem od_OneTree_weigh_25 : decode prog_5_method_7_code 25 = .ok (.iload_n 3, 1) := by decide +kernel
theorem od_OneTree_weigh_26 : decode prog_5_method_7_code 26 = .ok (.invokevirtual 73, 3) := by decide +kernel
theorem od_OneTree_weigh_29 : decode prog_5_method_7_code 29 = .ok (.aload_n 0, 1) := by decide +kernel
theorem od_OneTree_weigh_30 : decode prog_5_method_7_code 30 = .ok (.getfield 28, 3) := by decide +kernel
theorem od_OneTree_weigh_33 : decode prog_5_method_7_code 33 = .ok (.getfield 77, 3) := by decide +kernel
theorem od_OneTree_weigh_36 : decode prog_5_method_7_code 36 = .ok (.iload_n 2, 1) := by decide +kernel
theorem od_OneTree_weigh_37 : decode prog_5_method_7_code 37 = .ok (.iaload, 1) := by decide +kernel
theorem od_OneTree_weigh_38 : decode prog_5_method_7_code 38 = .ok (.iadd, 1) := by decide +kernel
theorem od_OneTree_weigh_39 : decode prog_5_method_7_code 39 = .ok (.aload_n 0, 1) := by decide +kernel
theorem od_OneTree_weigh_40 : decode prog_5_method_7_code 40 = .ok (.getfield 28, 3) := by decide +kernel
theorem od_OneTree_weigh_43 : decode prog_5_method_7_code 43 = .ok (.getfield 77, 3) := by decide +kernel
theorem od_OneTree_weigh_46 : decode prog_5_method_7_code 46 = .ok (.iload_n 3, 1) := by decide +kernel
theorem od_OneTree_weigh_47 : decode prog_5_method_7_code 47 = .ok (.iaload, 1) := by decide +kernel
theorem od_OneTree_weigh_48 : decode prog_5_method_7_code 48 = .ok (.iadd, 1) := by decide +kernel
theorem od_OneTree_weigh_49 : decode prog_5_method_7_code 49 = .ok (.ireturn, 1) := by decide +kernel
theorem od_OneTree_fits_0 : decode prog_5_method_6_code 0 = .ok (.aload_n 0, 1) := by decide +kernel
theorem od_OneTree_fits_1 : decode prog_5_method_6_code 1 = .ok (.getfield 28, 3) := by decide +kernel
theorem od_OneTree_fits_4 : decode prog_5_method_6_code 4 = .ok (.getfield 67, 3) := by decide +kernel
theorem od_OneTree_fits_7 : decode prog_5_method_6_code 7 = .ok (.iload_n 1, 1) := by decide +kernel
theorem od_OneTree_fits_8 : decode prog_5_method_6_code 8 = .ok (.iaload, 1) := by decide +kernel
theorem od_OneTree_fits_9 : decode prog_5_method_6_code 9 = .ok (.istore_n 2, 1) := by decide +kernel
theorem od_OneTree_fits_10 : decode prog_5_method_6_code 10 = .ok (.iload_n 2, 1) := by decide +kernel
theorem od_OneTree_fits_11 : decode prog_5_method_6_code 11 = .ok (.ifCond .ne (21), 3) := by decide +kernel
theorem od_OneTree_fits_14 : decode prog_5_method_6_code 14 = .ok (.aload_n 0, 1) := by decide +kernel
theorem od_OneTree_fits_15 : decode prog_5_method_6_code 15 = .ok (.getfield 25, 3) := by decide +kernel
theorem od_OneTree_fits_18 : decode prog_5_method_6_code 18 = .ok (.iconst 0, 1) := by decide +kernel
theorem od_OneTree_fits_19 : decode prog_5_method_6_code 19 = .ok (.iaload, 1) := by decide +kernel
theorem od_OneTree_fits_20 : decode prog_5_method_6_code 20 = .ok (.iconst 2, 1) := by decide +kernel
theorem od_OneTree_fits_21 : decode prog_5_method_6_code 21 = .ok (.if_icmp .ge (7), 3) := by decide +kernel
theorem od_OneTree_fits_24 : decode prog_5_method_6_code 24 = .ok (.iconst 1, 1) := by decide +kernel
theorem od_OneTree_fits_25 : decode prog_5_method_6_code 25 = .ok (.goto (35), 3) := by decide +kernel
theorem od_OneTree_fits_28 : decode prog_5_method_6_code 28 = .ok (.iconst 0, 1) := by decide +kernel
theorem od_OneTree_fits_29 : decode prog_5_method_6_code 29 = .ok (.goto (31), 3) := by decide +kernel
theorem od_OneTree_fits_32 : decode prog_5_method_6_code 32 = .ok (.aload_n 0, 1) := by decide +kernel
theorem od_OneTree_fits_33 : decode prog_5_method_6_code 33 = .ok (.getfield 9, 3) := by decide +kernel
theorem od_OneTree_fits_36 : decode prog_5_method_6_code 36 = .ok (.iload_n 2, 1) := by decide +kernel
theorem od_OneTree_fits_37 : decode prog_5_method_6_code 37 = .ok (.iaload, 1) := by decide +kernel
theorem od_OneTree_fits_38 : decode prog_5_method_6_code 38 = .ok (.aload_n 0, 1) := by decide +kernel
theorem od_OneTree_fits_39 : decode prog_5_method_6_code 39 = .ok (.getfield 9, 3) := by decide +kernel
theorem od_OneTree_fits_42 : decode prog_5_method_6_code 42 = .ok (.aload_n 0, 1) := by decide +kernel
theorem od_OneTree_fits_43 : decode prog_5_method_6_code 43 = .ok (.getfield 28, 3) := by decide +kernel
theorem od_OneTree_fits_46 : decode prog_5_method_6_code 46 = .ok (.getfield 70, 3) := by decide +kernel
theorem od_OneTree_fits_49 : decode prog_5_method_6_code 49 = .ok (.iload_n 1, 1) := by decide +kernel
theorem od_OneTree_fits_50 : decode prog_5_method_6_code 50 = .ok (.iaload, 1) := by decide +kernel
theorem od_OneTree_fits_51 : decode prog_5_method_6_code 51 = .ok (.iaload, 1) := by decide +kernel
theorem od_OneTree_fits_52 : decode prog_5_method_6_code 52 = .ok (.if_icmp .eq (7), 3) := by decide +kernel
theorem od_OneTree_fits_55 : decode prog_5_method_6_code 55 = .ok (.iconst 1, 1) := by decide +kernel
theorem od_OneTree_fits_56 : decode prog_5_method_6_code 56 = .ok (.goto (4), 3) := by decide +kernel
theorem od_OneTree_fits_59 : decode prog_5_method_6_code 59 = .ok (.iconst 0, 1) := by decide +kernel
theorem od_OneTree_fits_60 : decode prog_5_method_6_code 60 = .ok (.ireturn, 1) := by decide +kernel
theorem od_OneTree_lightest_0 : decode prog_5_method_5_code 0 = .ok (.aload_n 0, 1) := by decide +kernel
theorem od_OneTree_lightest_1 : decode prog_5_method_5_code 1 = .ok (.getfield 15, 3) := by decide +kernel
theorem od_OneTree_lightest_4 : decode prog_5_method_5_code 4 = .ok (.iload_n 1, 1) := by decide +kernel
theorem od_OneTree_lightest_5 : decode prog_5_method_5_code 5 = .ok (.ior, 1) := by decide +kernel
theorem od_OneTree_lightest_6 : decode prog_5_method_5_code 6 = .ok (.istore_n 2, 1) := by decide +kernel
theorem od_OneTree_lightest_7 : decode prog_5_method_5_code 7 = .ok (.iconst (-1), 1) := by decide +kernel
theorem od_OneTree_lightest_8 : decode prog_5_method_5_code 8 = .ok (.istore_n 3, 1) := by decide +kernel
theorem od_OneTree_lightest_9 : decode prog_5_method_5_code 9 = .ok (.iconst 0, 1) := by decide +kernel
theorem od_OneTree_lightest_10 : decode prog_5_method_5_code 10 = .ok (.istore 4, 2) := by decide +kernel
theorem od_OneTree_lightest_12 : decode prog_5_method_5_code 12 = .ok (.iload 4, 2) := by decide +kernel
theorem od_OneTree_lightest_14 : decode prog_5_method_5_code 14 = .ok (.aload_n 0, 1) := by decide +kernel
theorem od_OneTree_lightest_15 : decode prog_5_method_5_code 15 = .ok (.getfield 28, 3) := by decide +kernel
theorem od_OneTree_lightest_18 : decode prog_5_method_5_code 18 = .ok (.getfield 46, 3) := by decide +kernel
theorem od_OneTree_lightest_21 : decode prog_5_method_5_code 21 = .ok (.if_icmp .ge (60), 3) := by decide +kernel
theorem od_OneTree_lightest_24 : decode prog_5_method_5_code 24 = .ok (.iload_n 2, 1) := by decide +kernel
theorem od_OneTree_lightest_25 : decode prog_5_method_5_code 25 = .ok (.iload 4, 2) := by decide +kernel
theorem od_OneTree_lightest_27 : decode prog_5_method_5_code 27 = .ok (.ishr, 1) := by decide +kernel
theorem od_OneTree_lightest_28 : decode prog_5_method_5_code 28 = .ok (.iconst 1, 1) := by decide +kernel
theorem od_OneTree_lightest_29 : decode prog_5_method_5_code 29 = .ok (.iand, 1) := by decide +kernel
theorem od_OneTree_lightest_30 : decode prog_5_method_5_code 30 = .ok (.ifCond .ne (16), 3) := by decide +kernel
theorem od_OneTree_lightest_33 : decode prog_5_method_5_code 33 = .ok (.aload_n 0, 1) := by decide +kernel
theorem od_OneTree_lightest_34 : decode prog_5_method_5_code 34 = .ok (.iload 4, 2) := by decide +kernel
theorem od_OneTree_lightest_36 : decode prog_5_method_5_code 36 = .ok (.invokevirtual 49, 3) := by decide +kernel
theorem od_OneTree_lightest_39 : decode prog_5_method_5_code 39 = .ok (.ifCond .eq (7), 3) := by decide +kernel
theorem od_OneTree_lightest_42 : decode prog_5_method_5_code 42 = .ok (.iconst 1, 1) := by decide +kernel
theorem od_OneTree_lightest_43 : decode prog_5_method_5_code 43 = .ok (.goto (4), 3) := by decide +kernel
theorem od_OneTree_lightest_46 : decode prog_5_method_5_code 46 = .ok (.iconst 0, 1) := by decide +kernel
theorem od_OneTree_lightest_47 : decode prog_5_method_5_code 47 = .ok (.istore 5, 2) := by decide +kernel
theorem od_OneTree_lightest_49 : decode prog_5_method_5_code 49 = .ok (.iload 5, 2) := by decide +kernel
theorem od_OneTree_lightest_51 : decode prog_5_method_5_code 51 = .ok (.ifCond .eq (24), 3) := by decide +kernel
theorem od_OneTree_lightest_54 : decode prog_5_method_5_code 54 = .ok (.iload_n 3, 1) := by decide +kernel
theorem od_OneTree_lightest_55 : decode prog_5_method_5_code 55 = .ok (.ifCond .lt (17), 3) := by decide +kernel
theorem od_OneTree_lightest_58 : decode prog_5_method_5_code 58 = .ok (.aload_n 0, 1) := by decide +kernel
theorem od_OneTree_lightest_59 : decode prog_5_method_5_code 59 = .ok (.iload 4, 2) := by decide +kernel
theorem od_OneTree_lightest_61 : decode prog_5_method_5_code 61 = .ok (.invokevirtual 64, 3) := by decide +kernel
theorem od_OneTree_lightest_64 : decode prog_5_method_5_code 64 = .ok (.aload_n 0, 1) := by decide +kernel
theorem od_OneTree_lightest_65 : decode prog_5_method_5_code 65 = .ok (.iload_n 3, 1) := by decide +kernel
theorem od_OneTree_lightest_66 : decode prog_5_method_5_code 66 = .ok (.invokevirtual 64, 3) := by decide +kernel
theorem od_OneTree_lightest_69 : decode prog_5_method_5_code 69 = .ok (.if_icmp .ge (6), 3) := by decide +kernel
theorem od_OneTree_lightest_72 : decode prog_5_method_5_code 72 = .ok (.iload 4, 2) := by decide +kernel
theorem od_OneTree_lightest_74 : decode prog_5_method_5_code 74 = .ok (.istore_n 3, 1) := by decide +kernel
theorem od_OneTree_lightest_75 : decode prog_5_method_5_code 75 = .ok (.iinc 4 (1), 3) := by decide +kernel
theorem od_OneTree_lightest_78 : decode prog_5_method_5_code 78 = .ok (.goto (-66), 3) := by decide +kernel
theorem od_OneTree_lightest_81 : decode prog_5_method_5_code 81 = .ok (.iload_n 3, 1) := by decide +kernel
theorem od_OneTree_lightest_82 : decode prog_5_method_5_code 82 = .ok (.ireturn, 1) := by decide +kernel
theorem od_OneTree_join_0 : decode prog_5_method_9_code 0 = .ok (.iconst 0, 1) := by decide +kernel
theorem od_OneTree_join_1 : decode prog_5_method_9_code 1 = .ok (.istore_n 3, 1) := by decide +kernel
theorem od_OneTree_join_2 : decode prog_5_method_9_code 2 = .ok (.iload_n 3, 1) := by decide +kernel
theorem od_OneTree_join_3 : decode prog_5_method_9_code 3 = .ok (.bipush (8), 2) := by decide +kernel
theorem od_OneTree_join_5 : decode prog_5_method_9_code 5 = .ok (.if_icmp .ge (26), 3) := by decide +kernel
theorem od_OneTree_join_8 : decode prog_5_method_9_code 8 = .ok (.aload_n 0, 1) := by decide +kernel
theorem od_OneTree_join_9 : decode prog_5_method_9_code 9 = .ok (.getfield 9, 3) := by decide +kernel
theorem od_OneTree_join_12 : decode prog_5_method_9_code 12 = .ok (.iload_n 3, 1) := by decide +kernel
theorem od_OneTree_join_13 : decode prog_5_method_9_code 13 = .ok (.iaload, 1) := by decide +kernel
theorem od_OneTree_join_14 : decode prog_5_method_9_code 14 = .ok (.iload_n 2, 1) := by decide +kernel
theorem od_OneTree_join_15 : decode prog_5_method_9_code 15 = .ok (.if_icmp .ne (10), 3) := by decide +kernel
theorem od_OneTree_join_18 : decode prog_5_method_9_code 18 = .ok (.aload_n 0, 1) := by decide +kernel
theorem od_OneTree_join_19 : decode prog_5_method_9_code 19 = .ok (.getfield 9, 3) := by decide +kernel
theorem od_OneTree_join_22 : decode prog_5_method_9_code 22 = .ok (.iload_n 3, 1) := by decide +kernel
theorem od_OneTree_join_23 : decode prog_5_method_9_code 23 = .ok (.iload_n 1, 1) := by decide +kernel
theorem od_OneTree_join_24 : decode prog_5_method_9_code 24 = .ok (.iastore, 1) := by decide +kernel
theorem od_OneTree_join_25 : decode prog_5_method_9_code 25 = .ok (.iinc 3 (1), 3) := by decide +kernel
theorem od_OneTree_join_28 : decode prog_5_method_9_code 28 = .ok (.goto (-26), 3) := by decide +kernel
theorem od_OneTree_join_31 : decode prog_5_method_9_code 31 = .ok (.return_, 1) := by decide +kernel
theorem od_OneTree_take_0 : decode prog_5_method_8_code 0 = .ok (.aload_n 0, 1) := by decide +kernel
theorem od_OneTree_take_1 : decode prog_5_method_8_code 1 = .ok (.getfield 28, 3) := by decide +kernel
theorem od_OneTree_take_4 : decode prog_5_method_8_code 4 = .ok (.getfield 67, 3) := by decide +kernel
theorem od_OneTree_take_7 : decode prog_5_method_8_code 7 = .ok (.iload_n 1, 1) := by decide +kernel
theorem od_OneTree_take_8 : decode prog_5_method_8_code 8 = .ok (.iaload, 1) := by decide +kernel
theorem od_OneTree_take_9 : decode prog_5_method_8_code 9 = .ok (.istore_n 2, 1) := by decide +kernel
theorem od_OneTree_take_10 : decode prog_5_method_8_code 10 = .ok (.aload_n 0, 1) := by decide +kernel
theorem od_OneTree_take_11 : decode prog_5_method_8_code 11 = .ok (.getfield 28, 3) := by decide +kernel
theorem od_OneTree_take_14 : decode prog_5_method_8_code 14 = .ok (.getfield 70, 3) := by decide +kernel
theorem od_OneTree_take_17 : decode prog_5_method_8_code 17 = .ok (.iload_n 1, 1) := by decide +kernel
theorem od_OneTree_take_18 : decode prog_5_method_8_code 18 = .ok (.iaload, 1) := by decide +kernel
theorem od_OneTree_take_19 : decode prog_5_method_8_code 19 = .ok (.istore_n 3, 1) := by decide +kernel
theorem od_OneTree_take_20 : decode prog_5_method_8_code 20 = .ok (.aload_n 0, 1) := by decide +kernel
theorem od_OneTree_take_21 : decode prog_5_method_8_code 21 = .ok (.dup, 1) := by decide +kernel
theorem od_OneTree_take_22 : decode prog_5_method_8_code 22 = .ok (.getfield 15, 3) := by decide +kernel
theorem od_OneTree_take_25 : decode prog_5_method_8_code 25 = .ok (.iconst 1, 1) := by decide +kernel
theorem od_OneTree_take_26 : decode prog_5_method_8_code 26 = .ok (.iload_n 1, 1) := by decide +kernel
theorem od_OneTree_take_27 : decode prog_5_method_8_code 27 = .ok (.ishl, 1) := by decide +kernel
theorem od_OneTree_take_28 : decode prog_5_method_8_code 28 = .ok (.ior, 1) := by decide +kernel
theorem od_OneTree_take_29 : decode prog_5_method_8_code 29 = .ok (.putfield 15, 3) := by decide +kernel
theorem od_OneTree_take_32 : decode prog_5_method_8_code 32 = .ok (.aload_n 0, 1) := by decide +kernel
theorem od_OneTree_take_33 : decode prog_5_method_8_code 33 = .ok (.dup, 1) := by decide +kernel
theorem od_OneTree_take_34 : decode prog_5_method_8_code 34 = .ok (.getfield 19, 3) := by decide +kernel
theorem od_OneTree_take_37 : decode prog_5_method_8_code 37 = .ok (.iconst 1, 1) := by decide +kernel
theorem od_OneTree_take_38 : decode prog_5_method_8_code 38 = .ok (.iadd, 1) := by decide +kernel
theorem od_OneTree_take_39 : decode prog_5_method_8_code 39 = .ok (.putfield 19, 3) := by decide +kernel
theorem od_OneTree_take_42 : decode prog_5_method_8_code 42 = .ok (.aload_n 0, 1) := by decide +kernel
theorem od_OneTree_take_43 : decode prog_5_method_8_code 43 = .ok (.dup, 1) := by decide +kernel
theorem od_OneTree_take_44 : decode prog_5_method_8_code 44 = .ok (.getfield 22, 3) := by decide +kernel
theorem od_OneTree_take_47 : decode prog_5_method_8_code 47 = .ok (.aload_n 0, 1) := by decide +kernel
theorem od_OneTree_take_48 : decode prog_5_method_8_code 48 = .ok (.iload_n 1, 1) := by decide +kernel
theorem od_OneTree_take_49 : decode prog_5_method_8_code 49 = .ok (.invokevirtual 64, 3) := by decide +kernel
theorem od_OneTree_take_52 : decode prog_5_method_8_code 52 = .ok (.iadd, 1) := by decide +kernel
theorem od_OneTree_take_53 : decode prog_5_method_8_code 53 = .ok (.putfield 22, 3) := by decide +kernel
theorem od_OneTree_take_56 : decode prog_5_method_8_code 56 = .ok (.aload_n 0, 1) := by decide +kernel
theorem od_OneTree_take_57 : decode prog_5_method_8_code 57 = .ok (.getfield 25, 3) := by decide +kernel
theorem od_OneTree_take_60 : decode prog_5_method_8_code 60 = .ok (.iload_n 2, 1) := by decide +kernel
theorem od_OneTree_take_61 : decode prog_5_method_8_code 61 = .ok (.dup2, 1) := by decide +kernel
theorem od_OneTree_take_62 : decode prog_5_method_8_code 62 = .ok (.iaload, 1) := by decide +kernel
theorem od_OneTree_take_63 : decode prog_5_method_8_code 63 = .ok (.iconst 1, 1) := by decide +kernel
theorem od_OneTree_take_64 : decode prog_5_method_8_code 64 = .ok (.iadd, 1) := by decide +kernel
theorem od_OneTree_take_65 : decode prog_5_method_8_code 65 = .ok (.iastore, 1) := by decide +kernel
theorem od_OneTree_take_66 : decode prog_5_method_8_code 66 = .ok (.aload_n 0, 1) := by decide +kernel
theorem od_OneTree_take_67 : decode prog_5_method_8_code 67 = .ok (.getfield 25, 3) := by decide +kernel
theorem od_OneTree_take_70 : decode prog_5_method_8_code 70 = .ok (.iload_n 3, 1) := by decide +kernel
theorem od_OneTree_take_71 : decode prog_5_method_8_code 71 = .ok (.dup2, 1) := by decide +kernel
theorem od_OneTree_take_72 : decode prog_5_method_8_code 72 = .ok (.iaload, 1) := by decide +kernel
theorem od_OneTree_take_73 : decode prog_5_method_8_code 73 = .ok (.iconst 1, 1) := by decide +kernel
theorem od_OneTree_take_74 : decode prog_5_method_8_code 74 = .ok (.iadd, 1) := by decide +kernel
theorem od_OneTree_take_75 : decode prog_5_method_8_code 75 = .ok (.iastore, 1) := by decide +kernel
theorem od_OneTree_take_76 : decode prog_5_method_8_code 76 = .ok (.iload_n 2, 1) := by decide +kernel
theorem od_OneTree_take_77 : decode prog_5_method_8_code 77 = .ok (.ifCond .eq (19), 3) := by decide +kernel
theorem od_OneTree_take_80 : decode prog_5_method_8_code 80 = .ok (.aload_n 0, 1) := by decide +kernel
theorem od_OneTree_take_81 : decode prog_5_method_8_code 81 = .ok (.aload_n 0, 1) := by decide +kernel
theorem od_OneTree_take_82 : decode prog_5_method_8_code 82 = .ok (.getfield 9, 3) := by decide +kernel
theorem od_OneTree_take_85 : decode prog_5_method_8_code 85 = .ok (.iload_n 2, 1) := by decide +kernel
theorem od_OneTree_take_86 : decode prog_5_method_8_code 86 = .ok (.iaload, 1) := by decide +kernel
theorem od_OneTree_take_87 : decode prog_5_method_8_code 87 = .ok (.aload_n 0, 1) := by decide +kernel
theorem od_OneTree_take_88 : decode prog_5_method_8_code 88 = .ok (.getfield 9, 3) := by decide +kernel
theorem od_OneTree_take_91 : decode prog_5_method_8_code 91 = .ok (.iload_n 3, 1) := by decide +kernel
theorem od_OneTree_take_92 : decode prog_5_method_8_code 92 = .ok (.iaload, 1) := by decide +kernel
theorem od_OneTree_take_93 : decode prog_5_method_8_code 93 = .ok (.invokevirtual 80, 3) := by decide +kernel
theorem od_OneTree_take_96 : decode prog_5_method_8_code 96 = .ok (.return_, 1) := by decide +kernel
theorem od_OneTree_grow_0 : decode prog_5_method_3_code 0 = .ok (.aload_n 0, 1) := by decide +kernel
theorem od_OneTree_grow_1 : decode prog_5_method_3_code 1 = .ok (.invokevirtual 43, 3) := by decide +kernel
theorem od_OneTree_grow_4 : decode prog_5_method_3_code 4 = .ok (.iconst 0, 1) := by decide +kernel
theorem od_OneTree_grow_5 : decode prog_5_method_3_code 5 = .ok (.istore_n 3, 1) := by decide +kernel
theorem od_OneTree_grow_6 : decode prog_5_method_3_code 6 = .ok (.iload_n 3, 1) := by decide +kernel
theorem od_OneTree_grow_7 : decode prog_5_method_3_code 7 = .ok (.aload_n 0, 1) := by decide +kernel
theorem od_OneTree_grow_8 : decode prog_5_method_3_code 8 = .ok (.getfield 28, 3) := by decide +kernel
theorem od_OneTree_grow_11 : decode prog_5_method_3_code 11 = .ok (.getfield 46, 3) := by decide +kernel
theorem od_OneTree_grow_14 : decode prog_5_method_3_code 14 = .ok (.if_icmp .ge (32), 3) := by decide +kernel
theorem od_OneTree_grow_17 : decode prog_5_method_3_code 17 = .ok (.iload_n 1, 1) := by decide +kernel
theorem od_OneTree_grow_18 : decode prog_5_method_3_code 18 = .ok (.iload_n 3, 1) := by decide +kernel
theorem od_OneTree_grow_19 : decode prog_5_method_3_code 19 = .ok (.ishr, 1) := by decide +kernel
theorem od_OneTree_grow_20 : decode prog_5_method_3_code 20 = .ok (.iconst 1, 1) := by decide +kernel
theorem od_OneTree_grow_21 : decode prog_5_method_3_code 21 = .ok (.iand, 1) := by decide +kernel
theorem od_OneTree_grow_22 : decode prog_5_method_3_code 22 = .ok (.ifCond .eq (18), 3) := by decide +kernel
theorem od_OneTree_grow_25 : decode prog_5_method_3_code 25 = .ok (.aload_n 0, 1) := by decide +kernel
theorem od_OneTree_grow_26 : decode prog_5_method_3_code 26 = .ok (.iload_n 3, 1) := by decide +kernel
theorem od_OneTree_grow_27 : decode prog_5_method_3_code 27 = .ok (.invokevirtual 49, 3) := by decide +kernel
theorem od_OneTree_grow_30 : decode prog_5_method_3_code 30 = .ok (.ifCond .ne (5), 3) := by decide +kernel
theorem od_OneTree_grow_33 : decode prog_5_method_3_code 33 = .ok (.iconst 0, 1) := by decide +kernel
theorem od_OneTree_grow_34 : decode prog_5_method_3_code 34 = .ok (.ireturn, 1) := by decide +kernel
theorem od_OneTree_grow_35 : decode prog_5_method_3_code 35 = .ok (.aload_n 0, 1) := by decide +kernel
theorem od_OneTree_grow_36 : decode prog_5_method_3_code 36 = .ok (.iload_n 3, 1) := by decide +kernel
theorem od_OneTree_grow_37 : decode prog_5_method_3_code 37 = .ok (.invokevirtual 53, 3) := by decide +kernel
theorem od_OneTree_grow_40 : decode prog_5_method_3_code 40 = .ok (.iinc 3 (1), 3) := by decide +kernel
theorem od_OneTree_grow_43 : decode prog_5_method_3_code 43 = .ok (.goto (-37), 3) := by decide +kernel
theorem od_OneTree_grow_46 : decode prog_5_method_3_code 46 = .ok (.aload_n 0, 1) := by decide +kernel
theorem od_OneTree_grow_47 : decode prog_5_method_3_code 47 = .ok (.getfield 19, 3) := by decide +kernel
theorem od_OneTree_grow_50 : decode prog_5_method_3_code 50 = .ok (.istore_n 3, 1) := by decide +kernel
theorem od_OneTree_grow_51 : decode prog_5_method_3_code 51 = .ok (.iload_n 3, 1) := by decide +kernel
theorem od_OneTree_grow_52 : decode prog_5_method_3_code 52 = .ok (.aload_n 0, 1) := by decide +kernel
theorem od_OneTree_grow_53 : decode prog_5_method_3_code 53 = .ok (.getfield 28, 3) := by decide +kernel
theorem od_OneTree_grow_56 : decode prog_5_method_3_code 56 = .ok (.getfield 57, 3) := by decide +kernel
theorem od_OneTree_grow_59 : decode prog_5_method_3_code 59 = .ok (.if_icmp .ge (29), 3) := by decide +kernel
theorem od_OneTree_grow_62 : decode prog_5_method_3_code 62 = .ok (.aload_n 0, 1) := by decide +kernel
theorem od_OneTree_grow_63 : decode prog_5_method_3_code 63 = .ok (.iload_n 2, 1) := by decide +kernel
theorem od_OneTree_grow_64 : decode prog_5_method_3_code 64 = .ok (.invokevirtual 60, 3) := by decide +kernel
theorem od_OneTree_grow_67 : decode prog_5_method_3_code 67 = .ok (.istore 4, 2) := by decide +kernel
theorem od_OneTree_grow_69 : decode prog_5_method_3_code 69 = .ok (.iload 4, 2) := by decide +kernel
theorem od_OneTree_grow_71 : decode prog_5_method_3_code 71 = .ok (.ifCond .ge (5), 3) := by decide +kernel
theorem od_OneTree_grow_74 : decode prog_5_method_3_code 74 = .ok (.iconst 0, 1) := by decide +kernel
theorem od_OneTree_grow_75 : decode prog_5_method_3_code 75 = .ok (.ireturn, 1) := by decide +kernel
theorem od_OneTree_grow_76 : decode prog_5_method_3_code 76 = .ok (.aload_n 0, 1) := by decide +kernel
theorem od_OneTree_grow_77 : decode prog_5_method_3_code 77 = .ok (.iload 4, 2) := by decide +kernel
theorem od_OneTree_grow_79 : decode prog_5_method_3_code 79 = .ok (.invokevirtual 53, 3) := by decide +kernel
theorem od_OneTree_grow_82 : decode prog_5_method_3_code 82 = .ok (.iinc 3 (1), 3) := by decide +kernel
theorem od_OneTree_grow_85 : decode prog_5_method_3_code 85 = .ok (.goto (-34), 3) := by decide +kernel
theorem od_OneTree_grow_88 : decode prog_5_method_3_code 88 = .ok (.aload_n 0, 1) := by decide +kernel
theorem od_OneTree_grow_89 : decode prog_5_method_3_code 89 = .ok (.getfield 28, 3) := by decide +kernel
theorem od_OneTree_grow_92 : decode prog_5_method_3_code 92 = .ok (.getfield 57, 3) := by decide +kernel
theorem od_OneTree_grow_95 : decode prog_5_method_3_code 95 = .ok (.ifCond .le (7), 3) := by decide +kernel
theorem od_OneTree_grow_98 : decode prog_5_method_3_code 98 = .ok (.iconst 1, 1) := by decide +kernel
theorem od_OneTree_grow_99 : decode prog_5_method_3_code 99 = .ok (.goto (4), 3) := by decide +kernel
theorem od_OneTree_grow_102 : decode prog_5_method_3_code 102 = .ok (.iconst 0, 1) := by decide +kernel
theorem od_OneTree_grow_103 : decode prog_5_method_3_code 103 = .ok (.ireturn, 1) := by decide +kernel
theorem od_Land_sumOfPotentials_0 : decode prog_3_method_9_code 0 = .ok (.iconst 0, 1) := by decide +kernel
theorem od_Land_sumOfPotentials_1 : decode prog_3_method_9_code 1 = .ok (.istore_n 1, 1) := by decide +kernel
theorem od_Land_sumOfPotentials_2 : decode prog_3_method_9_code 2 = .ok (.iconst 0, 1) := by decide +kernel
theorem od_Land_sumOfPotentials_3 : decode prog_3_method_9_code 3 = .ok (.istore_n 2, 1) := by decide +kernel
theorem od_Land_sumOfPotentials_4 : decode prog_3_method_9_code 4 = .ok (.iload_n 2, 1) := by decide +kernel
theorem od_Land_sumOfPotentials_5 : decode prog_3_method_9_code 5 = .ok (.aload_n 0, 1) := by decide +kernel
theorem od_Land_sumOfPotentials_6 : decode prog_3_method_9_code 6 = .ok (.getfield 27, 3) := by decide +kernel
theorem od_Land_sumOfPotentials_9 : decode prog_3_method_9_code 9 = .ok (.if_icmp .ge (18), 3) := by decide +kernel
theorem od_Land_sumOfPotentials_12 : decode prog_3_method_9_code 12 = .ok (.iload_n 1, 1) := by decide +kernel
theorem od_Land_sumOfPotentials_13 : decode prog_3_method_9_code 13 = .ok (.aload_n 0, 1) := by decide +kernel
theorem od_Land_sumOfPotentials_14 : decode prog_3_method_9_code 14 = .ok (.getfield 24, 3) := by decide +kernel
theorem od_Land_sumOfPotentials_17 : decode prog_3_method_9_code 17 = .ok (.iload_n 2, 1) := by decide +kernel
theorem od_Land_sumOfPotentials_18 : decode prog_3_method_9_code 18 = .ok (.iaload, 1) := by decide +kernel
theorem od_Land_sumOfPotentials_19 : decode prog_3_method_9_code 19 = .ok (.iadd, 1) := by decide +kernel
theorem od_Land_sumOfPotentials_20 : decode prog_3_method_9_code 20 = .ok (.istore_n 1, 1) := by decide +kernel
theorem od_Land_sumOfPotentials_21 : decode prog_3_method_9_code 21 = .ok (.iinc 2 (1), 3) := by decide +kernel
theorem od_Land_sumOfPotentials_24 : decode prog_3_method_9_code 24 = .ok (.goto (-20), 3) := by decide +kernel
theorem od_Land_sumOfPotentials_27 : decode prog_3_method_9_code 27 = .ok (.iload_n 1, 1) := by decide +kernel
theorem od_Land_sumOfPotentials_28 : decode prog_3_method_9_code 28 = .ok (.ireturn, 1) := by decide +kernel
theorem od_OneTree_boundUnder_0 : decode prog_5_method_2_code 0 = .ok (.aload_n 0, 1) := by decide +kernel
theorem od_OneTree_boundUnder_1 : decode prog_5_method_2_code 1 = .ok (.iload_n 1, 1) := by decide +kernel
theorem od_OneTree_boundUnder_2 : decode prog_5_method_2_code 2 = .ok (.iload_n 2, 1) := by decide +kernel
theorem od_OneTree_boundUnder_3 : decode prog_5_method_2_code 3 = .ok (.invokevirtual 32, 3) := by decide +kernel
theorem od_OneTree_boundUnder_6 : decode prog_5_method_2_code 6 = .ok (.ifCond .eq (20), 3) := by decide +kernel
theorem od_OneTree_boundUnder_9 : decode prog_5_method_2_code 9 = .ok (.aload_n 0, 1) := by decide +kernel
theorem od_OneTree_boundUnder_10 : decode prog_5_method_2_code 10 = .ok (.getfield 22, 3) := by decide +kernel
theorem od_OneTree_boundUnder_13 : decode prog_5_method_2_code 13 = .ok (.iconst 2, 1) := by decide +kernel
theorem od_OneTree_boundUnder_14 : decode prog_5_method_2_code 14 = .ok (.aload_n 0, 1) := by decide +kernel
theorem od_OneTree_boundUnder_15 : decode prog_5_method_2_code 15 = .ok (.getfield 28, 3) := by decide +kernel
theorem od_OneTree_boundUnder_18 : decode prog_5_method_2_code 18 = .ok (.invokevirtual 36, 3) := by decide +kernel
theorem od_OneTree_boundUnder_21 : decode prog_5_method_2_code 21 = .ok (.imul, 1) := by decide +kernel
theorem od_OneTree_boundUnder_22 : decode prog_5_method_2_code 22 = .ok (.isub, 1) := by decide +kernel
theorem od_OneTree_boundUnder_23 : decode prog_5_method_2_code 23 = .ok (.goto (5), 3) := by decide +kernel
theorem od_OneTree_boundUnder_26 : decode prog_5_method_2_code 26 = .ok (.ldc 42, 2) := by decide +kernel
theorem od_OneTree_boundUnder_28 : decode prog_5_method_2_code 28 = .ok (.ireturn, 1) := by decide +kernel
theorem od_T_bound_0 : decode prog_1_method_10_code 0 = .ok (.aload_n 0, 1) := by decide +kernel
theorem od_T_bound_1 : decode prog_1_method_10_code 1 = .ok (.getfield 37, 3) := by decide +kernel
theorem od_T_bound_4 : decode prog_1_method_10_code 4 = .ok (.aload_n 0, 1) := by decide +kernel
theorem od_T_bound_5 : decode prog_1_method_10_code 5 = .ok (.getfield 28, 3) := by decide +kernel
theorem od_T_bound_8 : decode prog_1_method_10_code 8 = .ok (.getfield 119, 3) := by decide +kernel
theorem od_T_bound_11 : decode prog_1_method_10_code 11 = .ok (.aload_n 0, 1) := by decide +kernel
theorem od_T_bound_12 : decode prog_1_method_10_code 12 = .ok (.getfield 28, 3) := by decide +kernel
theorem od_T_bound_15 : decode prog_1_method_10_code 15 = .ok (.getfield 122, 3) := by decide +kernel
theorem od_T_bound_18 : decode prog_1_method_10_code 18 = .ok (.invokevirtual 125, 3) := by decide +kernel
theorem od_T_bound_21 : decode prog_1_method_10_code 21 = .ok (.ireturn, 1) := by decide +kernel
theorem od_T_degree_0 : decode prog_1_method_11_code 0 = .ok (.aload_n 0, 1) := by decide +kernel
theorem od_T_degree_1 : decode prog_1_method_11_code 1 = .ok (.getfield 28, 3) := by decide +kernel
