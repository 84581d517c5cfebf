theorem od_Mo_caseBound_28 : decode prog_11_method_60_code 28 = .ok (.iadd, 1) := by decide +kernel
theorem od_Mo_caseBound_29 : decode prog_11_method_60_code 29 = .ok (.istore 4, 2) := by decide +kernel
theorem od_Mo_caseBound_31 : decode prog_11_method_60_code 31 = .ok (.iload 4, 2) := by decide +kernel
theorem od_Mo_caseBound_33 : decode prog_11_method_60_code 33 = .ok (.aload_n 0, 1) := by decide +kernel
theorem od_Mo_caseBound_34 : decode prog_11_method_60_code 34 = .ok (.getfield 187, 3) := by decide +kernel
theorem od_Mo_caseBound_37 : decode prog_11_method_60_code 37 = .ok (.if_icmp .ge (61), 3) := by decide +kernel
theorem od_Mo_caseBound_40 : decode prog_11_method_60_code 40 = .ok (.aload_n 0, 1) := by decide +kernel
theorem od_Mo_caseBound_41 : decode prog_11_method_60_code 41 = .ok (.getfield 45, 3) := by decide +kernel
theorem od_Mo_caseBound_44 : decode prog_11_method_60_code 44 = .ok (.bipush (8), 2) := by decide +kernel
theorem od_Mo_caseBound_46 : decode prog_11_method_60_code 46 = .ok (.iload_n 3, 1) := by decide +kernel
theorem od_Mo_caseBound_47 : decode prog_11_method_60_code 47 = .ok (.imul, 1) := by decide +kernel
theorem od_Mo_caseBound_48 : decode prog_11_method_60_code 48 = .ok (.iload 4, 2) := by decide +kernel
theorem od_Mo_caseBound_50 : decode prog_11_method_60_code 50 = .ok (.iadd, 1) := by decide +kernel
theorem od_Mo_caseBound_51 : decode prog_11_method_60_code 51 = .ok (.aload_n 0, 1) := by decide +kernel
theorem od_Mo_caseBound_52 : decode prog_11_method_60_code 52 = .ok (.getfield 26, 3) := by decide +kernel
theorem od_Mo_caseBound_55 : decode prog_11_method_60_code 55 = .ok (.iload_n 1, 1) := by decide +kernel
theorem od_Mo_caseBound_56 : decode prog_11_method_60_code 56 = .ok (.iaload, 1) := by decide +kernel
theorem od_Mo_caseBound_57 : decode prog_11_method_60_code 57 = .ok (.iload_n 2, 1) := by decide +kernel
theorem od_Mo_caseBound_58 : decode prog_11_method_60_code 58 = .ok (.invokestatic 272, 3) := by decide +kernel
theorem od_Mo_caseBound_61 : decode prog_11_method_60_code 61 = .ok (.iconst 1, 1) := by decide +kernel
theorem od_Mo_caseBound_62 : decode prog_11_method_60_code 62 = .ok (.if_icmp .ne (7), 3) := by decide +kernel
theorem od_Mo_caseBound_65 : decode prog_11_method_60_code 65 = .ok (.iconst 1, 1) := by decide +kernel
theorem od_Mo_caseBound_66 : decode prog_11_method_60_code 66 = .ok (.goto (22), 3) := by decide +kernel
theorem od_Mo_caseBound_69 : decode prog_11_method_60_code 69 = .ok (.aload_n 0, 1) := by decide +kernel
theorem od_Mo_caseBound_70 : decode prog_11_method_60_code 70 = .ok (.getfield 29, 3) := by decide +kernel
theorem od_Mo_caseBound_73 : decode prog_11_method_60_code 73 = .ok (.iload_n 1, 1) := by decide +kernel
theorem od_Mo_caseBound_74 : decode prog_11_method_60_code 74 = .ok (.iaload, 1) := by decide +kernel
theorem od_Mo_caseBound_75 : decode prog_11_method_60_code 75 = .ok (.iload_n 2, 1) := by decide +kernel
theorem od_Mo_caseBound_76 : decode prog_11_method_60_code 76 = .ok (.invokestatic 272, 3) := by decide +kernel
theorem od_Mo_caseBound_79 : decode prog_11_method_60_code 79 = .ok (.iconst 1, 1) := by decide +kernel
theorem od_Mo_caseBound_80 : decode prog_11_method_60_code 80 = .ok (.if_icmp .ne (7), 3) := by decide +kernel
theorem od_Mo_caseBound_83 : decode prog_11_method_60_code 83 = .ok (.iconst 2, 1) := by decide +kernel
theorem od_Mo_caseBound_84 : decode prog_11_method_60_code 84 = .ok (.goto (4), 3) := by decide +kernel
theorem od_Mo_caseBound_87 : decode prog_11_method_60_code 87 = .ok (.iconst 0, 1) := by decide +kernel
theorem od_Mo_caseBound_88 : decode prog_11_method_60_code 88 = .ok (.iastore, 1) := by decide +kernel
theorem od_Mo_caseBound_89 : decode prog_11_method_60_code 89 = .ok (.iinc 2 (1), 3) := by decide +kernel
theorem od_Mo_caseBound_92 : decode prog_11_method_60_code 92 = .ok (.iinc 4 (1), 3) := by decide +kernel
theorem od_Mo_caseBound_95 : decode prog_11_method_60_code 95 = .ok (.goto (-64), 3) := by decide +kernel
theorem od_Mo_caseBound_98 : decode prog_11_method_60_code 98 = .ok (.iinc 3 (1), 3) := by decide +kernel
theorem od_Mo_caseBound_101 : decode prog_11_method_60_code 101 = .ok (.goto (-83), 3) := by decide +kernel
theorem od_Mo_caseBound_104 : decode prog_11_method_60_code 104 = .ok (.aload_n 0, 1) := by decide +kernel
theorem od_Mo_caseBound_105 : decode prog_11_method_60_code 105 = .ok (.invokevirtual 235, 3) := by decide +kernel
theorem od_Mo_caseBound_108 : decode prog_11_method_60_code 108 = .ok (.ireturn, 1) := by decide +kernel
theorem od_Mo_proves_0 : decode prog_11_method_61_code 0 = .ok (.aload_n 0, 1) := by decide +kernel
theorem od_Mo_proves_1 : decode prog_11_method_61_code 1 = .ok (.invokevirtual 278, 3) := by decide +kernel
theorem od_Mo_proves_4 : decode prog_11_method_61_code 4 = .ok (.istore_n 2, 1) := by decide +kernel
theorem od_Mo_proves_5 : decode prog_11_method_61_code 5 = .ok (.iconst 0, 1) := by decide +kernel
theorem od_Mo_proves_6 : decode prog_11_method_61_code 6 = .ok (.istore_n 3, 1) := by decide +kernel
theorem od_Mo_proves_7 : decode prog_11_method_61_code 7 = .ok (.iload_n 3, 1) := by decide +kernel
theorem od_Mo_proves_8 : decode prog_11_method_61_code 8 = .ok (.aload_n 0, 1) := by decide +kernel
theorem od_Mo_proves_9 : decode prog_11_method_61_code 9 = .ok (.getfield 196, 3) := by decide +kernel
theorem od_Mo_proves_12 : decode prog_11_method_61_code 12 = .ok (.if_icmp .ge (39), 3) := by decide +kernel
theorem od_Mo_proves_15 : decode prog_11_method_61_code 15 = .ok (.iload_n 2, 1) := by decide +kernel
theorem od_Mo_proves_16 : decode prog_11_method_61_code 16 = .ok (.ifCond .eq (35), 3) := by decide +kernel
theorem od_Mo_proves_19 : decode prog_11_method_61_code 19 = .ok (.aload_n 0, 1) := by decide +kernel
theorem od_Mo_proves_20 : decode prog_11_method_61_code 20 = .ok (.iload_n 3, 1) := by decide +kernel
theorem od_Mo_proves_21 : decode prog_11_method_61_code 21 = .ok (.invokevirtual 281, 3) := by decide +kernel
theorem od_Mo_proves_24 : decode prog_11_method_61_code 24 = .ok (.istore 4, 2) := by decide +kernel
theorem od_Mo_proves_26 : decode prog_11_method_61_code 26 = .ok (.aload_n 0, 1) := by decide +kernel
theorem od_Mo_proves_27 : decode prog_11_method_61_code 27 = .ok (.invokevirtual 228, 3) := by decide +kernel
theorem od_Mo_proves_30 : decode prog_11_method_61_code 30 = .ok (.ifCond .eq (9), 3) := by decide +kernel
theorem od_Mo_proves_33 : decode prog_11_method_61_code 33 = .ok (.iload 4, 2) := by decide +kernel
theorem od_Mo_proves_35 : decode prog_11_method_61_code 35 = .ok (.iload_n 1, 1) := by decide +kernel
theorem od_Mo_proves_36 : decode prog_11_method_61_code 36 = .ok (.if_icmp .lt (7), 3) := by decide +kernel
theorem od_Mo_proves_39 : decode prog_11_method_61_code 39 = .ok (.iconst 1, 1) := by decide +kernel
theorem od_Mo_proves_40 : decode prog_11_method_61_code 40 = .ok (.goto (4), 3) := by decide +kernel
theorem od_Mo_proves_43 : decode prog_11_method_61_code 43 = .ok (.iconst 0, 1) := by decide +kernel
theorem od_Mo_proves_44 : decode prog_11_method_61_code 44 = .ok (.istore_n 2, 1) := by decide +kernel
theorem od_Mo_proves_45 : decode prog_11_method_61_code 45 = .ok (.iinc 3 (1), 3) := by decide +kernel
theorem od_Mo_proves_48 : decode prog_11_method_61_code 48 = .ok (.goto (-41), 3) := by decide +kernel
theorem od_Mo_proves_51 : decode prog_11_method_61_code 51 = .ok (.iload_n 2, 1) := by decide +kernel
theorem od_Mo_proves_52 : decode prog_11_method_61_code 52 = .ok (.ireturn, 1) := by decide +kernel
