theorem od_Mo_write_0 : decode prog_11_method_2_code 0 = .ok (.iconst 0, 1) := by decide +kernel
theorem od_Mo_write_1 : decode prog_11_method_2_code 1 = .ok (.istore_n 3, 1) := by decide +kernel
theorem od_Mo_write_2 : decode prog_11_method_2_code 2 = .ok (.iconst 0, 1) := by decide +kernel
theorem od_Mo_write_3 : decode prog_11_method_2_code 3 = .ok (.istore 4, 2) := by decide +kernel
theorem od_Mo_write_5 : decode prog_11_method_2_code 5 = .ok (.iload 4, 2) := by decide +kernel
theorem od_Mo_write_7 : decode prog_11_method_2_code 7 = .ok (.bipush (8), 2) := by decide +kernel
theorem od_Mo_write_9 : decode prog_11_method_2_code 9 = .ok (.if_icmp .ge (64), 3) := by decide +kernel
theorem od_Mo_write_12 : decode prog_11_method_2_code 12 = .ok (.lload_n 1, 1) := by decide +kernel
theorem od_Mo_write_13 : decode prog_11_method_2_code 13 = .ok (.bipush (8), 2) := by decide +kernel
theorem od_Mo_write_15 : decode prog_11_method_2_code 15 = .ok (.iload 4, 2) := by decide +kernel
theorem od_Mo_write_17 : decode prog_11_method_2_code 17 = .ok (.imul, 1) := by decide +kernel
theorem od_Mo_write_18 : decode prog_11_method_2_code 18 = .ok (.lshr, 1) := by decide +kernel
theorem od_Mo_write_19 : decode prog_11_method_2_code 19 = .ok (.ldc2_w 54, 3) := by decide +kernel
theorem od_Mo_write_22 : decode prog_11_method_2_code 22 = .ok (.land, 1) := by decide +kernel
theorem od_Mo_write_23 : decode prog_11_method_2_code 23 = .ok (.l2i, 1) := by decide +kernel
theorem od_Mo_write_24 : decode prog_11_method_2_code 24 = .ok (.istore 5, 2) := by decide +kernel
theorem od_Mo_write_26 : decode prog_11_method_2_code 26 = .ok (.iload 5, 2) := by decide +kernel
theorem od_Mo_write_28 : decode prog_11_method_2_code 28 = .ok (.ifCond .eq (26), 3) := by decide +kernel
theorem od_Mo_write_31 : decode prog_11_method_2_code 31 = .ok (.iload 5, 2) := by decide +kernel
theorem od_Mo_write_33 : decode prog_11_method_2_code 33 = .ok (.bipush (10), 2) := by decide +kernel
theorem od_Mo_write_35 : decode prog_11_method_2_code 35 = .ok (.if_icmp .eq (19), 3) := by decide +kernel
theorem od_Mo_write_38 : decode prog_11_method_2_code 38 = .ok (.iload 5, 2) := by decide +kernel
theorem od_Mo_write_40 : decode prog_11_method_2_code 40 = .ok (.bipush (32), 2) := by decide +kernel
theorem od_Mo_write_42 : decode prog_11_method_2_code 42 = .ok (.if_icmp .lt (10), 3) := by decide +kernel
theorem od_Mo_write_45 : decode prog_11_method_2_code 45 = .ok (.iload 5, 2) := by decide +kernel
theorem od_Mo_write_47 : decode prog_11_method_2_code 47 = .ok (.bipush (126), 2) := by decide +kernel
theorem od_Mo_write_49 : decode prog_11_method_2_code 49 = .ok (.if_icmp .le (5), 3) := by decide +kernel
theorem od_Mo_write_52 : decode prog_11_method_2_code 52 = .ok (.iconst 0, 1) := by decide +kernel
theorem od_Mo_write_53 : decode prog_11_method_2_code 53 = .ok (.ireturn, 1) := by decide +kernel
theorem od_Mo_write_54 : decode prog_11_method_2_code 54 = .ok (.iload_n 3, 1) := by decide +kernel
theorem od_Mo_write_55 : decode prog_11_method_2_code 55 = .ok (.iload 5, 2) := by decide +kernel
theorem od_Mo_write_57 : decode prog_11_method_2_code 57 = .ok (.ifCond .ne (7), 3) := by decide +kernel
theorem od_Mo_write_60 : decode prog_11_method_2_code 60 = .ok (.iconst 0, 1) := by decide +kernel
theorem od_Mo_write_61 : decode prog_11_method_2_code 61 = .ok (.goto (4), 3) := by decide +kernel
theorem od_Mo_write_64 : decode prog_11_method_2_code 64 = .ok (.iconst 1, 1) := by decide +kernel
theorem od_Mo_write_65 : decode prog_11_method_2_code 65 = .ok (.iadd, 1) := by decide +kernel
theorem od_Mo_write_66 : decode prog_11_method_2_code 66 = .ok (.istore_n 3, 1) := by decide +kernel
theorem od_Mo_write_67 : decode prog_11_method_2_code 67 = .ok (.iinc 4 (1), 3) := by decide +kernel
theorem od_Mo_write_70 : decode prog_11_method_2_code 70 = .ok (.goto (-65), 3) := by decide +kernel
theorem od_Mo_write_73 : decode prog_11_method_2_code 73 = .ok (.aload_n 0, 1) := by decide +kernel
theorem od_Mo_write_74 : decode prog_11_method_2_code 74 = .ok (.getfield 56, 3) := by decide +kernel
theorem od_Mo_write_77 : decode prog_11_method_2_code 77 = .ok (.iload_n 3, 1) := by decide +kernel
theorem od_Mo_write_78 : decode prog_11_method_2_code 78 = .ok (.iadd, 1) := by decide +kernel
theorem od_Mo_write_79 : decode prog_11_method_2_code 79 = .ok (.sipush (480), 3) := by decide +kernel
theorem od_Mo_write_82 : decode prog_11_method_2_code 82 = .ok (.if_icmp .le (5), 3) := by decide +kernel
theorem od_Mo_write_85 : decode prog_11_method_2_code 85 = .ok (.iconst 0, 1) := by decide +kernel
theorem od_Mo_write_86 : decode prog_11_method_2_code 86 = .ok (.ireturn, 1) := by decide +kernel
theorem od_Mo_write_87 : decode prog_11_method_2_code 87 = .ok (.iconst 0, 1) := by decide +kernel
theorem od_Mo_write_88 : decode prog_11_method_2_code 88 = .ok (.istore 4, 2) := by decide +kernel
theorem od_Mo_write_90 : decode prog_11_method_2_code 90 = .ok (.iload 4, 2) := by decide +kernel
theorem od_Mo_write_92 : decode prog_11_method_2_code 92 = .ok (.bipush (8), 2) := by decide +kernel
theorem od_Mo_write_94 : decode prog_11_method_2_code 94 = .ok (.if_icmp .ge (50), 3) := by decide +kernel
theorem od_Mo_write_97 : decode prog_11_method_2_code 97 = .ok (.lload_n 1, 1) := by decide +kernel
theorem od_Mo_write_98 : decode prog_11_method_2_code 98 = .ok (.bipush (8), 2) := by decide +kernel
theorem od_Mo_write_100 : decode prog_11_method_2_code 100 = .ok (.iload 4, 2) := by decide +kernel
theorem od_Mo_write_102 : decode prog_11_method_2_code 102 = .ok (.imul, 1) := by decide +kernel
theorem od_Mo_write_103 : decode prog_11_method_2_code 103 = .ok (.lshr, 1) := by decide +kernel
theorem od_Mo_write_104 : decode prog_11_method_2_code 104 = .ok (.ldc2_w 54, 3) := by decide +kernel
theorem od_Mo_write_107 : decode prog_11_method_2_code 107 = .ok (.land, 1) := by decide +kernel
theorem od_Mo_write_108 : decode prog_11_method_2_code 108 = .ok (.l2i, 1) := by decide +kernel
theorem od_Mo_write_109 : decode prog_11_method_2_code 109 = .ok (.istore 5, 2) := by decide +kernel
theorem od_Mo_write_111 : decode prog_11_method_2_code 111 = .ok (.iload 5, 2) := by decide +kernel
theorem od_Mo_write_113 : decode prog_11_method_2_code 113 = .ok (.ifCond .eq (25), 3) := by decide +kernel
theorem od_Mo_write_116 : decode prog_11_method_2_code 116 = .ok (.aload_n 0, 1) := by decide +kernel
theorem od_Mo_write_117 : decode prog_11_method_2_code 117 = .ok (.getfield 7, 3) := by decide +kernel
theorem od_Mo_write_120 : decode prog_11_method_2_code 120 = .ok (.aload_n 0, 1) := by decide +kernel
theorem od_Mo_write_121 : decode prog_11_method_2_code 121 = .ok (.getfield 56, 3) := by decide +kernel
theorem od_Mo_write_124 : decode prog_11_method_2_code 124 = .ok (.iload 5, 2) := by decide +kernel
theorem od_Mo_write_126 : decode prog_11_method_2_code 126 = .ok (.i2c, 1) := by decide +kernel
theorem od_Mo_write_127 : decode prog_11_method_2_code 127 = .ok (.castore, 1) := by decide +kernel
theorem od_Mo_write_128 : decode prog_11_method_2_code 128 = .ok (.aload_n 0, 1) := by decide +kernel
theorem od_Mo_write_129 : decode prog_11_method_2_code 129 = .ok (.dup, 1) := by decide +kernel
theorem od_Mo_write_130 : decode prog_11_method_2_code 130 = .ok (.getfield 56, 3) := by decide +kernel
theorem od_Mo_write_133 : decode prog_11_method_2_code 133 = .ok (.iconst 1, 1) := by decide +kernel
theorem od_Mo_write_134 : decode prog_11_method_2_code 134 = .ok (.iadd, 1) := by decide +kernel
theorem od_Mo_write_135 : decode prog_11_method_2_code 135 = .ok (.putfield 56, 3) := by decide +kernel
theorem od_Mo_write_138 : decode prog_11_method_2_code 138 = .ok (.iinc 4 (1), 3) := by decide +kernel
theorem od_Mo_write_141 : decode prog_11_method_2_code 141 = .ok (.goto (-51), 3) := by decide +kernel
theorem od_Mo_write_144 : decode prog_11_method_2_code 144 = .ok (.iconst 1, 1) := by decide +kernel
theorem od_Mo_write_145 : decode prog_11_method_2_code 145 = .ok (.ireturn, 1) := by decide +kernel
theorem od_Mo_wipe_0 : decode prog_11_method_3_code 0 = .ok (.aload_n 0, 1) := by decide +kernel
theorem od_Mo_wipe_1 : decode prog_11_method_3_code 1 = .ok (.iconst 0, 1) := by decide +kernel
theorem od_Mo_wipe_2 : decode prog_11_method_3_code 2 = .ok (.putfield 56, 3) := by decide +kernel
theorem od_Mo_wipe_5 : decode prog_11_method_3_code 5 = .ok (.return_, 1) := by decide +kernel
theorem od_Mo_apart_0 : decode prog_11_method_20_code 0 = .ok (.aload_n 0, 1) := by decide +kernel
theorem od_Mo_apart_1 : decode prog_11_method_20_code 1 = .ok (.getfield 35, 3) := by decide +kernel
theorem od_Mo_apart_4 : decode prog_11_method_20_code 4 = .ok (.iload_n 1, 1) := by decide +kernel
theorem od_Mo_apart_5 : decode prog_11_method_20_code 5 = .ok (.iaload, 1) := by decide +kernel
theorem od_Mo_apart_6 : decode prog_11_method_20_code 6 = .ok (.aload_n 0, 1) := by decide +kernel
theorem od_Mo_apart_7 : decode prog_11_method_20_code 7 = .ok (.getfield 35, 3) := by decide +kernel
theorem od_Mo_apart_10 : decode prog_11_method_20_code 10 = .ok (.iload_n 2, 1) := by decide +kernel
theorem od_Mo_apart_11 : decode prog_11_method_20_code 11 = .ok (.iaload, 1) := by decide +kernel
theorem od_Mo_apart_12 : decode prog_11_method_20_code 12 = .ok (.isub, 1) := by decide +kernel
theorem od_Mo_apart_13 : decode prog_11_method_20_code 13 = .ok (.istore_n 3, 1) := by decide +kernel
theorem od_Mo_apart_14 : decode prog_11_method_20_code 14 = .ok (.aload_n 0, 1) := by decide +kernel
theorem od_Mo_apart_15 : decode prog_11_method_20_code 15 = .ok (.getfield 38, 3) := by decide +kernel
theorem od_Mo_apart_18 : decode prog_11_method_20_code 18 = .ok (.iload_n 1, 1) := by decide +kernel
theorem od_Mo_apart_19 : decode prog_11_method_20_code 19 = .ok (.iaload, 1) := by decide +kernel
theorem od_Mo_apart_20 : decode prog_11_method_20_code 20 = .ok (.aload_n 0, 1) := by decide +kernel
theorem od_Mo_apart_21 : decode prog_11_method_20_code 21 = .ok (.getfield 38, 3) := by decide +kernel
theorem od_Mo_apart_24 : decode prog_11_method_20_code 24 = .ok (.iload_n 2, 1) := by decide +kernel
theorem od_Mo_apart_25 : decode prog_11_method_20_code 25 = .ok (.iaload, 1) := by decide +kernel
theorem od_Mo_apart_26 : decode prog_11_method_20_code 26 = .ok (.isub, 1) := by decide +kernel
theorem od_Mo_apart_27 : decode prog_11_method_20_code 27 = .ok (.istore 4, 2) := by decide +kernel
theorem od_Mo_apart_29 : decode prog_11_method_20_code 29 = .ok (.aload_n 0, 1) := by decide +kernel
theorem od_Mo_apart_30 : decode prog_11_method_20_code 30 = .ok (.getfield 149, 3) := by decide +kernel
theorem od_Mo_apart_33 : decode prog_11_method_20_code 33 = .ok (.bipush (7), 2) := by decide +kernel
theorem od_Mo_apart_35 : decode prog_11_method_20_code 35 = .ok (.if_icmp .ne (28), 3) := by decide +kernel
theorem od_Mo_apart_38 : decode prog_11_method_20_code 38 = .ok (.iload_n 3, 1) := by decide +kernel
theorem od_Mo_apart_39 : decode prog_11_method_20_code 39 = .ok (.ifCond .ge (8), 3) := by decide +kernel
theorem od_Mo_apart_42 : decode prog_11_method_20_code 42 = .ok (.iload_n 3, 1) := by decide +kernel
theorem od_Mo_apart_43 : decode prog_11_method_20_code 43 = .ok (.ineg, 1) := by decide +kernel
theorem od_Mo_apart_44 : decode prog_11_method_20_code 44 = .ok (.goto (4), 3) := by decide +kernel
theorem od_Mo_apart_47 : decode prog_11_method_20_code 47 = .ok (.iload_n 3, 1) := by decide +kernel
theorem od_Mo_apart_48 : decode prog_11_method_20_code 48 = .ok (.iload 4, 2) := by decide +kernel
theorem od_Mo_apart_50 : decode prog_11_method_20_code 50 = .ok (.ifCond .ge (9), 3) := by decide +kernel
theorem od_Mo_apart_53 : decode prog_11_method_20_code 53 = .ok (.iload 4, 2) := by decide +kernel
theorem od_Mo_apart_55 : decode prog_11_method_20_code 55 = .ok (.ineg, 1) := by decide +kernel
theorem od_Mo_apart_56 : decode prog_11_method_20_code 56 = .ok (.goto (5), 3) := by decide +kernel
theorem od_Mo_apart_59 : decode prog_11_method_20_code 59 = .ok (.iload 4, 2) := by decide +kernel
theorem od_Mo_apart_61 : decode prog_11_method_20_code 61 = .ok (.iadd, 1) := by decide +kernel
theorem od_Mo_apart_62 : decode prog_11_method_20_code 62 = .ok (.ireturn, 1) := by decide +kernel
theorem od_Mo_apart_63 : decode prog_11_method_20_code 63 = .ok (.iload_n 3, 1) := by decide +kernel
theorem od_Mo_apart_64 : decode prog_11_method_20_code 64 = .ok (.iload_n 3, 1) := by decide +kernel
theorem od_Mo_apart_65 : decode prog_11_method_20_code 65 = .ok (.imul, 1) := by decide +kernel
theorem od_Mo_apart_66 : decode prog_11_method_20_code 66 = .ok (.iload 4, 2) := by decide +kernel
theorem od_Mo_apart_68 : decode prog_11_method_20_code 68 = .ok (.iload 4, 2) := by decide +kernel
theorem od_Mo_apart_70 : decode prog_11_method_20_code 70 = .ok (.imul, 1) := by decide +kernel
theorem od_Mo_apart_71 : decode prog_11_method_20_code 71 = .ok (.iadd, 1) := by decide +kernel
theorem od_Mo_apart_72 : decode prog_11_method_20_code 72 = .ok (.istore 5, 2) := by decide +kernel
theorem od_Mo_apart_74 : decode prog_11_method_20_code 74 = .ok (.iconst 0, 1) := by decide +kernel
theorem od_Mo_apart_75 : decode prog_11_method_20_code 75 = .ok (.istore 6, 2) := by decide +kernel
theorem od_Mo_apart_77 : decode prog_11_method_20_code 77 = .ok (.iload 6, 2) := by decide +kernel
theorem od_Mo_apart_79 : decode prog_11_method_20_code 79 = .ok (.iconst 1, 1) := by decide +kernel
theorem od_Mo_apart_80 : decode prog_11_method_20_code 80 = .ok (.iadd, 1) := by decide +kernel
theorem od_Mo_apart_81 : decode prog_11_method_20_code 81 = .ok (.iload 6, 2) := by decide +kernel
theorem od_Mo_apart_83 : decode prog_11_method_20_code 83 = .ok (.iconst 1, 1) := by decide +kernel
theorem od_Mo_apart_84 : decode prog_11_method_20_code 84 = .ok (.iadd, 1) := by decide +kernel
theorem od_Mo_apart_85 : decode prog_11_method_20_code 85 = .ok (.imul, 1) := by decide +kernel
theorem od_Mo_apart_86 : decode prog_11_method_20_code 86 = .ok (.iload 5, 2) := by decide +kernel
theorem od_Mo_apart_88 : decode prog_11_method_20_code 88 = .ok (.if_icmp .gt (9), 3) := by decide +kernel
theorem od_Mo_apart_91 : decode prog_11_method_20_code 91 = .ok (.iinc 6 (1), 3) := by decide +kernel
theorem od_Mo_apart_94 : decode prog_11_method_20_code 94 = .ok (.goto (-17), 3) := by decide +kernel
theorem od_Mo_apart_97 : decode prog_11_method_20_code 97 = .ok (.aload_n 0, 1) := by decide +kernel
theorem od_Mo_apart_98 : decode prog_11_method_20_code 98 = .ok (.getfield 149, 3) := by decide +kernel
theorem od_Mo_apart_101 : decode prog_11_method_20_code 101 = .ok (.iconst 5, 1) := by decide +kernel
theorem od_Mo_apart_102 : decode prog_11_method_20_code 102 = .ok (.if_icmp .ne (24), 3) := by decide +kernel
theorem od_Mo_apart_105 : decode prog_11_method_20_code 105 = .ok (.iload 5, 2) := by decide +kernel
theorem od_Mo_apart_107 : decode prog_11_method_20_code 107 = .ok (.iload 6, 2) := by decide +kernel
theorem od_Mo_apart_109 : decode prog_11_method_20_code 109 = .ok (.iload 6, 2) := by decide +kernel
theorem od_Mo_apart_111 : decode prog_11_method_20_code 111 = .ok (.imul, 1) := by decide +kernel
theorem od_Mo_apart_112 : decode prog_11_method_20_code 112 = .ok (.iload 6, 2) := by decide +kernel
theorem od_Mo_apart_114 : decode prog_11_method_20_code 114 = .ok (.iadd, 1) := by decide +kernel
theorem od_Mo_apart_115 : decode prog_11_method_20_code 115 = .ok (.if_icmp .le (7), 3) := by decide +kernel
theorem od_Mo_apart_118 : decode prog_11_method_20_code 118 = .ok (.iconst 1, 1) := by decide +kernel
theorem od_Mo_apart_119 : decode prog_11_method_20_code 119 = .ok (.goto (22), 3) := by decide +kernel
theorem od_Mo_apart_122 : decode prog_11_method_20_code 122 = .ok (.iconst 0, 1) := by decide +kernel
theorem od_Mo_apart_123 : decode prog_11_method_20_code 123 = .ok (.goto (18), 3) := by decide +kernel
theorem od_Mo_apart_126 : decode prog_11_method_20_code 126 = .ok (.iload 5, 2) := by decide +kernel
theorem od_Mo_apart_128 : decode prog_11_method_20_code 128 = .ok (.iload 6, 2) := by decide +kernel
theorem od_Mo_apart_130 : decode prog_11_method_20_code 130 = .ok (.iload 6, 2) := by decide +kernel
theorem od_Mo_apart_132 : decode prog_11_method_20_code 132 = .ok (.imul, 1) := by decide +kernel
theorem od_Mo_apart_133 : decode prog_11_method_20_code 133 = .ok (.if_icmp .le (7), 3) := by decide +kernel
theorem od_Mo_apart_136 : decode prog_11_method_20_code 136 = .ok (.iconst 1, 1) := by decide +kernel
theorem od_Mo_apart_137 : decode prog_11_method_20_code 137 = .ok (.goto (4), 3) := by decide +kernel
theorem od_Mo_apart_140 : decode prog_11_method_20_code 140 = .ok (.iconst 0, 1) := by decide +kernel
theorem od_Mo_apart_141 : decode prog_11_method_20_code 141 = .ok (.istore 7, 2) := by decide +kernel
theorem od_Mo_apart_143 : decode prog_11_method_20_code 143 = .ok (.iload 7, 2) := by decide +kernel
theorem od_Mo_apart_145 : decode prog_11_method_20_code 145 = .ok (.ifCond .eq (10), 3) := by decide +kernel
theorem od_Mo_apart_148 : decode prog_11_method_20_code 148 = .ok (.iload 6, 2) := by decide +kernel
theorem od_Mo_apart_150 : decode prog_11_method_20_code 150 = .ok (.iconst 1, 1) := by decide +kernel
theorem od_Mo_apart_151 : decode prog_11_method_20_code 151 = .ok (.iadd, 1) := by decide +kernel
theorem od_Mo_apart_152 : decode prog_11_method_20_code 152 = .ok (.goto (5), 3) := by decide +kernel
theorem od_Mo_apart_155 : decode prog_11_method_20_code 155 = .ok (.iload 6, 2) := by decide +kernel
theorem od_Mo_apart_157 : decode prog_11_method_20_code 157 = .ok (.ireturn, 1) := by decide +kernel
theorem od_Mo_adopt_0 : decode prog_11_method_21_code 0 = .ok (.aload_n 0, 1) := by decide +kernel
theorem od_Mo_adopt_1 : decode prog_11_method_21_code 1 = .ok (.aload_n 0, 1) := by decide +kernel
theorem od_Mo_adopt_2 : decode prog_11_method_21_code 2 = .ok (.getfield 139, 3) := by decide +kernel
theorem od_Mo_adopt_5 : decode prog_11_method_21_code 5 = .ok (.putfield 187, 3) := by decide +kernel
theorem od_Mo_adopt_8 : decode prog_11_method_21_code 8 = .ok (.iconst 0, 1) := by decide +kernel
theorem od_Mo_adopt_9 : decode prog_11_method_21_code 9 = .ok (.istore_n 1, 1) := by decide +kernel
theorem od_Mo_adopt_10 : decode prog_11_method_21_code 10 = .ok (.iload_n 1, 1) := by decide +kernel
theorem od_Mo_adopt_11 : decode prog_11_method_21_code 11 = .ok (.aload_n 0, 1) := by decide +kernel
theorem od_Mo_adopt_12 : decode prog_11_method_21_code 12 = .ok (.getfield 187, 3) := by decide +kernel
theorem od_Mo_adopt_15 : decode prog_11_method_21_code 15 = .ok (.if_icmp .ge (92), 3) := by decide +kernel
theorem od_Mo_adopt_18 : decode prog_11_method_21_code 18 = .ok (.aload_n 0, 1) := by decide +kernel
theorem od_Mo_adopt_19 : decode prog_11_method_21_code 19 = .ok (.getfield 20, 3) := by decide +kernel
theorem od_Mo_adopt_22 : decode prog_11_method_21_code 22 = .ok (.iload_n 1, 1) := by decide +kernel
theorem od_Mo_adopt_23 : decode prog_11_method_21_code 23 = .ok (.iconst 0, 1) := by decide +kernel
theorem od_Mo_adopt_24 : decode prog_11_method_21_code 24 = .ok (.iastore, 1) := by decide +kernel
theorem od_Mo_adopt_25 : decode prog_11_method_21_code 25 = .ok (.iconst 0, 1) := by decide +kernel
theorem od_Mo_adopt_26 : decode prog_11_method_21_code 26 = .ok (.istore_n 2, 1) := by decide +kernel
theorem od_Mo_adopt_27 : decode prog_11_method_21_code 27 = .ok (.iload_n 2, 1) := by decide +kernel
theorem od_Mo_adopt_28 : decode prog_11_method_21_code 28 = .ok (.aload_n 0, 1) := by decide +kernel
theorem od_Mo_adopt_29 : decode prog_11_method_21_code 29 = .ok (.getfield 187, 3) := by decide +kernel
theorem od_Mo_adopt_32 : decode prog_11_method_21_code 32 = .ok (.if_icmp .ge (69), 3) := by decide +kernel
theorem od_Mo_adopt_35 : decode prog_11_method_21_code 35 = .ok (.aload_n 0, 1) := by decide +kernel
theorem od_Mo_adopt_36 : decode prog_11_method_21_code 36 = .ok (.getfield 13, 3) := by decide +kernel
theorem od_Mo_adopt_39 : decode prog_11_method_21_code 39 = .ok (.bipush (8), 2) := by decide +kernel
theorem od_Mo_adopt_41 : decode prog_11_method_21_code 41 = .ok (.iload_n 1, 1) := by decide +kernel
theorem od_Mo_adopt_42 : decode prog_11_method_21_code 42 = .ok (.imul, 1) := by decide +kernel
theorem od_Mo_adopt_43 : decode prog_11_method_21_code 43 = .ok (.iload_n 2, 1) := by decide +kernel
theorem od_Mo_adopt_44 : decode prog_11_method_21_code 44 = .ok (.iadd, 1) := by decide +kernel
theorem od_Mo_adopt_45 : decode prog_11_method_21_code 45 = .ok (.iload_n 1, 1) := by decide +kernel
theorem od_Mo_adopt_46 : decode prog_11_method_21_code 46 = .ok (.iload_n 2, 1) := by decide +kernel
theorem od_Mo_adopt_47 : decode prog_11_method_21_code 47 = .ok (.if_icmp .ne (7), 3) := by decide +kernel
theorem od_Mo_adopt_50 : decode prog_11_method_21_code 50 = .ok (.iconst 0, 1) := by decide +kernel
theorem od_Mo_adopt_51 : decode prog_11_method_21_code 51 = .ok (.goto (31), 3) := by decide +kernel
theorem od_Mo_adopt_54 : decode prog_11_method_21_code 54 = .ok (.aload_n 0, 1) := by decide +kernel
theorem od_Mo_adopt_55 : decode prog_11_method_21_code 55 = .ok (.getfield 149, 3) := by decide +kernel
theorem od_Mo_adopt_58 : decode prog_11_method_21_code 58 = .ok (.iconst 4, 1) := by decide +kernel
theorem od_Mo_adopt_59 : decode prog_11_method_21_code 59 = .ok (.if_icmp .ne (17), 3) := by decide +kernel
theorem od_Mo_adopt_62 : decode prog_11_method_21_code 62 = .ok (.aload_n 0, 1) := by decide +kernel
theorem od_Mo_adopt_63 : decode prog_11_method_21_code 63 = .ok (.getfield 32, 3) := by decide +kernel
theorem od_Mo_adopt_66 : decode prog_11_method_21_code 66 = .ok (.bipush (8), 2) := by decide +kernel
theorem od_Mo_adopt_68 : decode prog_11_method_21_code 68 = .ok (.iload_n 1, 1) := by decide +kernel
theorem od_Mo_adopt_69 : decode prog_11_method_21_code 69 = .ok (.imul, 1) := by decide +kernel
theorem od_Mo_adopt_70 : decode prog_11_method_21_code 70 = .ok (.iload_n 2, 1) := by decide +kernel
theorem od_Mo_adopt_71 : decode prog_11_method_21_code 71 = .ok (.iadd, 1) := by decide +kernel
theorem od_Mo_adopt_72 : decode prog_11_method_21_code 72 = .ok (.iaload, 1) := by decide +kernel
theorem od_Mo_adopt_73 : decode prog_11_method_21_code 73 = .ok (.goto (9), 3) := by decide +kernel
theorem od_Mo_adopt_76 : decode prog_11_method_21_code 76 = .ok (.aload_n 0, 1) := by decide +kernel
theorem od_Mo_adopt_77 : decode prog_11_method_21_code 77 = .ok (.iload_n 1, 1) := by decide +kernel
theorem od_Mo_adopt_78 : decode prog_11_method_21_code 78 = .ok (.iload_n 2, 1) := by decide +kernel
theorem od_Mo_adopt_79 : decode prog_11_method_21_code 79 = .ok (.invokevirtual 190, 3) := by decide +kernel
theorem od_Mo_adopt_82 : decode prog_11_method_21_code 82 = .ok (.iastore, 1) := by decide +kernel
theorem od_Mo_adopt_83 : decode prog_11_method_21_code 83 = .ok (.aload_n 0, 1) := by decide +kernel
theorem od_Mo_adopt_84 : decode prog_11_method_21_code 84 = .ok (.getfield 17, 3) := by decide +kernel
theorem od_Mo_adopt_87 : decode prog_11_method_21_code 87 = .ok (.bipush (8), 2) := by decide +kernel
theorem od_Mo_adopt_89 : decode prog_11_method_21_code 89 = .ok (.iload_n 1, 1) := by decide +kernel
theorem od_Mo_adopt_90 : decode prog_11_method_21_code 90 = .ok (.imul, 1) := by decide +kernel
theorem od_Mo_adopt_91 : decode prog_11_method_21_code 91 = .ok (.iload_n 2, 1) := by decide +kernel
theorem od_Mo_adopt_92 : decode prog_11_method_21_code 92 = .ok (.iadd, 1) := by decide +kernel
theorem od_Mo_adopt_93 : decode prog_11_method_21_code 93 = .ok (.iconst 0, 1) := by decide +kernel
theorem od_Mo_adopt_94 : decode prog_11_method_21_code 94 = .ok (.iastore, 1) := by decide +kernel
theorem od_Mo_adopt_95 : decode prog_11_method_21_code 95 = .ok (.iinc 2 (1), 3) := by decide +kernel
theorem od_Mo_adopt_98 : decode prog_11_method_21_code 98 = .ok (.goto (-71), 3) := by decide +kernel
theorem od_Mo_adopt_101 : decode prog_11_method_21_code 101 = .ok (.iinc 1 (1), 3) := by decide +kernel
theorem od_Mo_adopt_104 : decode prog_11_method_21_code 104 = .ok (.goto (-94), 3) := by decide +kernel
theorem od_Mo_adopt_107 : decode prog_11_method_21_code 107 = .ok (.aload_n 0, 1) := by decide +kernel
theorem od_Mo_adopt_108 : decode prog_11_method_21_code 108 = .ok (.iconst 0, 1) := by decide +kernel
theorem od_Mo_adopt_109 : decode prog_11_method_21_code 109 = .ok (.putfield 193, 3) := by decide +kernel
theorem od_Mo_adopt_112 : decode prog_11_method_21_code 112 = .ok (.aload_n 0, 1) := by decide +kernel
theorem od_Mo_adopt_113 : decode prog_11_method_21_code 113 = .ok (.iconst 0, 1) := by decide +kernel
theorem od_Mo_adopt_114 : decode prog_11_method_21_code 114 = .ok (.putfield 196, 3) := by decide +kernel
theorem od_Mo_adopt_117 : decode prog_11_method_21_code 117 = .ok (.return_, 1) := by decide +kernel
theorem od_Mo_due_0 : decode prog_11_method_15_code 0 = .ok (.aload_n 0, 1) := by decide +kernel
theorem od_Mo_due_1 : decode prog_11_method_15_code 1 = .ok (.getfield 149, 3) := by decide +kernel
theorem od_Mo_due_4 : decode prog_11_method_15_code 4 = .ok (.iconst 4, 1) := by decide +kernel
theorem od_Mo_due_5 : decode prog_11_method_15_code 5 = .ok (.if_icmp .eq (10), 3) := by decide +kernel
theorem od_Mo_due_8 : decode prog_11_method_15_code 8 = .ok (.aload_n 0, 1) := by decide +kernel
theorem od_Mo_due_9 : decode prog_11_method_15_code 9 = .ok (.getfield 139, 3) := by decide +kernel
theorem od_Mo_due_12 : decode prog_11_method_15_code 12 = .ok (.goto (62), 3) := by decide +kernel
theorem od_Mo_due_15 : decode prog_11_method_15_code 15 = .ok (.aload_n 0, 1) := by decide +kernel
theorem od_Mo_due_16 : decode prog_11_method_15_code 16 = .ok (.getfield 155, 3) := by decide +kernel
theorem od_Mo_due_19 : decode prog_11_method_15_code 19 = .ok (.bipush (8), 2) := by decide +kernel
theorem od_Mo_due_21 : decode prog_11_method_15_code 21 = .ok (.if_icmp .ne (15), 3) := by decide +kernel
theorem od_Mo_due_24 : decode prog_11_method_15_code 24 = .ok (.aload_n 0, 1) := by decide +kernel
theorem od_Mo_due_25 : decode prog_11_method_15_code 25 = .ok (.getfield 139, 3) := by decide +kernel
theorem od_Mo_due_28 : decode prog_11_method_15_code 28 = .ok (.aload_n 0, 1) := by decide +kernel
theorem od_Mo_due_29 : decode prog_11_method_15_code 29 = .ok (.getfield 139, 3) := by decide +kernel
theorem od_Mo_due_32 : decode prog_11_method_15_code 32 = .ok (.imul, 1) := by decide +kernel
theorem od_Mo_due_33 : decode prog_11_method_15_code 33 = .ok (.goto (41), 3) := by decide +kernel
theorem od_Mo_due_36 : decode prog_11_method_15_code 36 = .ok (.aload_n 0, 1) := by decide +kernel
theorem od_Mo_due_37 : decode prog_11_method_15_code 37 = .ok (.getfield 155, 3) := by decide +kernel
theorem od_Mo_due_40 : decode prog_11_method_15_code 40 = .ok (.bipush (9), 2) := by decide +kernel
theorem od_Mo_due_42 : decode prog_11_method_15_code 42 = .ok (.if_icmp .ne (19), 3) := by decide +kernel
theorem od_Mo_due_45 : decode prog_11_method_15_code 45 = .ok (.aload_n 0, 1) := by decide +kernel
theorem od_Mo_due_46 : decode prog_11_method_15_code 46 = .ok (.getfield 139, 3) := by decide +kernel
theorem od_Mo_due_49 : decode prog_11_method_15_code 49 = .ok (.aload_n 0, 1) := by decide +kernel
theorem od_Mo_due_50 : decode prog_11_method_15_code 50 = .ok (.getfield 139, 3) := by decide +kernel
theorem od_Mo_due_53 : decode prog_11_method_15_code 53 = .ok (.iconst 1, 1) := by decide +kernel
theorem od_Mo_due_54 : decode prog_11_method_15_code 54 = .ok (.isub, 1) := by decide +kernel
theorem od_Mo_due_55 : decode prog_11_method_15_code 55 = .ok (.imul, 1) := by decide +kernel
theorem od_Mo_due_56 : decode prog_11_method_15_code 56 = .ok (.iconst 2, 1) := by decide +kernel
theorem od_Mo_due_57 : decode prog_11_method_15_code 57 = .ok (.idiv, 1) := by decide +kernel
theorem od_Mo_due_58 : decode prog_11_method_15_code 58 = .ok (.goto (16), 3) := by decide +kernel
theorem od_Mo_due_61 : decode prog_11_method_15_code 61 = .ok (.aload_n 0, 1) := by decide +kernel
theorem od_Mo_due_62 : decode prog_11_method_15_code 62 = .ok (.getfield 139, 3) := by decide +kernel
theorem od_Mo_due_65 : decode prog_11_method_15_code 65 = .ok (.aload_n 0, 1) := by decide +kernel
theorem od_Mo_due_66 : decode prog_11_method_15_code 66 = .ok (.getfield 139, 3) := by decide +kernel
theorem od_Mo_due_69 : decode prog_11_method_15_code 69 = .ok (.iconst 1, 1) := by decide +kernel
theorem od_Mo_due_70 : decode prog_11_method_15_code 70 = .ok (.iadd, 1) := by decide +kernel
theorem od_Mo_due_71 : decode prog_11_method_15_code 71 = .ok (.imul, 1) := by decide +kernel
theorem od_Mo_due_72 : decode prog_11_method_15_code 72 = .ok (.iconst 2, 1) := by decide +kernel
theorem od_Mo_due_73 : decode prog_11_method_15_code 73 = .ok (.idiv, 1) := by decide +kernel
theorem od_Mo_due_74 : decode prog_11_method_15_code 74 = .ok (.ireturn, 1) := by decide +kernel
theorem od_Mo_word_0 : decode prog_11_method_6_code 0 = .ok (.aload_n 0, 1) := by decide +kernel
theorem od_Mo_word_1 : decode prog_11_method_6_code 1 = .ok (.getfield 112, 3) := by decide +kernel
theorem od_Mo_word_4 : decode prog_11_method_6_code 4 = .ok (.aload_n 0, 1) := by decide +kernel
theorem od_Mo_word_5 : decode prog_11_method_6_code 5 = .ok (.getfield 115, 3) := by decide +kernel
theorem od_Mo_word_8 : decode prog_11_method_6_code 8 = .ok (.if_icmp .ge (30), 3) := by decide +kernel
theorem od_Mo_word_11 : decode prog_11_method_6_code 11 = .ok (.aload_n 0, 1) := by decide +kernel
theorem od_Mo_word_12 : decode prog_11_method_6_code 12 = .ok (.getfield 7, 3) := by decide +kernel
theorem od_Mo_word_15 : decode prog_11_method_6_code 15 = .ok (.aload_n 0, 1) := by decide +kernel
theorem od_Mo_word_16 : decode prog_11_method_6_code 16 = .ok (.getfield 112, 3) := by decide +kernel
theorem od_Mo_word_19 : decode prog_11_method_6_code 19 = .ok (.caload, 1) := by decide +kernel
theorem od_Mo_word_20 : decode prog_11_method_6_code 20 = .ok (.bipush (32), 2) := by decide +kernel
theorem od_Mo_word_22 : decode prog_11_method_6_code 22 = .ok (.if_icmp .ne (16), 3) := by decide +kernel
theorem od_Mo_word_25 : decode prog_11_method_6_code 25 = .ok (.aload_n 0, 1) := by decide +kernel
theorem od_Mo_word_26 : decode prog_11_method_6_code 26 = .ok (.dup, 1) := by decide +kernel
theorem od_Mo_word_27 : decode prog_11_method_6_code 27 = .ok (.getfield 112, 3) := by decide +kernel
theorem od_Mo_word_30 : decode prog_11_method_6_code 30 = .ok (.iconst 1, 1) := by decide +kernel
theorem od_Mo_word_31 : decode prog_11_method_6_code 31 = .ok (.iadd, 1) := by decide +kernel
theorem od_Mo_word_32 : decode prog_11_method_6_code 32 = .ok (.putfield 112, 3) := by decide +kernel
theorem od_Mo_word_35 : decode prog_11_method_6_code 35 = .ok (.goto (-35), 3) := by decide +kernel
theorem od_Mo_word_38 : decode prog_11_method_6_code 38 = .ok (.aload_n 0, 1) := by decide +kernel
theorem od_Mo_word_39 : decode prog_11_method_6_code 39 = .ok (.aload_n 0, 1) := by decide +kernel
theorem od_Mo_word_40 : decode prog_11_method_6_code 40 = .ok (.getfield 112, 3) := by decide +kernel
theorem od_Mo_word_43 : decode prog_11_method_6_code 43 = .ok (.putfield 118, 3) := by decide +kernel
theorem od_Mo_word_46 : decode prog_11_method_6_code 46 = .ok (.aload_n 0, 1) := by decide +kernel
theorem od_Mo_word_47 : decode prog_11_method_6_code 47 = .ok (.getfield 112, 3) := by decide +kernel
theorem od_Mo_word_50 : decode prog_11_method_6_code 50 = .ok (.aload_n 0, 1) := by decide +kernel
theorem od_Mo_word_51 : decode prog_11_method_6_code 51 = .ok (.getfield 115, 3) := by decide +kernel
theorem od_Mo_word_54 : decode prog_11_method_6_code 54 = .ok (.if_icmp .ge (30), 3) := by decide +kernel
theorem od_Mo_word_57 : decode prog_11_method_6_code 57 = .ok (.aload_n 0, 1) := by decide +kernel
theorem od_Mo_word_58 : decode prog_11_method_6_code 58 = .ok (.getfield 7, 3) := by decide +kernel
theorem od_Mo_word_61 : decode prog_11_method_6_code 61 = .ok (.aload_n 0, 1) := by decide +kernel
theorem od_Mo_word_62 : decode prog_11_method_6_code 62 = .ok (.getfield 112, 3) := by decide +kernel
theorem od_Mo_word_65 : decode prog_11_method_6_code 65 = .ok (.caload, 1) := by decide +kernel
theorem od_Mo_word_66 : decode prog_11_method_6_code 66 = .ok (.bipush (32), 2) := by decide +kernel
theorem od_Mo_word_68 : decode prog_11_method_6_code 68 = .ok (.if_icmp .eq (16), 3) := by decide +kernel
theorem od_Mo_word_71 : decode prog_11_method_6_code 71 = .ok (.aload_n 0, 1) := by decide +kernel
theorem od_Mo_word_72 : decode prog_11_method_6_code 72 = .ok (.dup, 1) := by decide +kernel
theorem od_Mo_word_73 : decode prog_11_method_6_code 73 = .ok (.getfield 112, 3) := by decide +kernel
theorem od_Mo_word_76 : decode prog_11_method_6_code 76 = .ok (.iconst 1, 1) := by decide +kernel
theorem od_Mo_word_77 : decode prog_11_method_6_code 77 = .ok (.iadd, 1) := by decide +kernel
theorem od_Mo_word_78 : decode prog_11_method_6_code 78 = .ok (.putfield 112, 3) := by decide +kernel
theorem od_Mo_word_81 : decode prog_11_method_6_code 81 = .ok (.goto (-35), 3) := by decide +kernel
theorem od_Mo_word_84 : decode prog_11_method_6_code 84 = .ok (.aload_n 0, 1) := by decide +kernel
theorem od_Mo_word_85 : decode prog_11_method_6_code 85 = .ok (.getfield 112, 3) := by decide +kernel
theorem od_Mo_word_88 : decode prog_11_method_6_code 88 = .ok (.aload_n 0, 1) := by decide +kernel
theorem od_Mo_word_89 : decode prog_11_method_6_code 89 = .ok (.getfield 118, 3) := by decide +kernel
theorem od_Mo_word_92 : decode prog_11_method_6_code 92 = .ok (.if_icmp .le (7), 3) := by decide +kernel
theorem od_Mo_word_95 : decode prog_11_method_6_code 95 = .ok (.iconst 1, 1) := by decide +kernel
theorem od_Mo_word_96 : decode prog_11_method_6_code 96 = .ok (.goto (4), 3) := by decide +kernel
theorem od_Mo_word_99 : decode prog_11_method_6_code 99 = .ok (.iconst 0, 1) := by decide +kernel
theorem od_Mo_word_100 : decode prog_11_method_6_code 100 = .ok (.ireturn, 1) := by decide +kernel
theorem od_Mo_noMore_0 : decode prog_11_method_11_code 0 = .ok (.aload_n 0, 1) := by decide +kernel
theorem od_Mo_noMore_1 : decode prog_11_method_11_code 1 = .ok (.invokevirtual 128, 3) := by decide +kernel
theorem od_Mo_noMore_4 : decode prog_11_method_11_code 4 = .ok (.ifCond .ne (7), 3) := by decide +kernel
theorem od_Mo_noMore_7 : decode prog_11_method_11_code 7 = .ok (.iconst 1, 1) := by decide +kernel
theorem od_Mo_noMore_8 : decode prog_11_method_11_code 8 = .ok (.goto (4), 3) := by decide +kernel
theorem od_Mo_noMore_11 : decode prog_11_method_11_code 11 = .ok (.iconst 0, 1) := by decide +kernel
theorem od_Mo_noMore_12 : decode prog_11_method_11_code 12 = .ok (.ireturn, 1) := by decide +kernel
theorem od_Mo_isNumber_0 : decode prog_11_method_9_code 0 = .ok (.aload_n 0, 1) := by decide +kernel
theorem od_Mo_isNumber_1 : decode prog_11_method_9_code 1 = .ok (.getfield 7, 3) := by decide +kernel
theorem od_Mo_isNumber_4 : decode prog_11_method_9_code 4 = .ok (.aload_n 0, 1) := by decide +kernel
theorem od_Mo_isNumber_5 : decode prog_11_method_9_code 5 = .ok (.getfield 118, 3) := by decide +kernel
theorem od_Mo_isNumber_8 : decode prog_11_method_9_code 8 = .ok (.caload, 1) := by decide +kernel
theorem od_Mo_isNumber_9 : decode prog_11_method_9_code 9 = .ok (.bipush (45), 2) := by decide +kernel
theorem od_Mo_isNumber_11 : decode prog_11_method_9_code 11 = .ok (.if_icmp .ne (12), 3) := by decide +kernel
theorem od_Mo_isNumber_14 : decode prog_11_method_9_code 14 = .ok (.aload_n 0, 1) := by decide +kernel
theorem od_Mo_isNumber_15 : decode prog_11_method_9_code 15 = .ok (.getfield 118, 3) := by decide +kernel
theorem od_Mo_isNumber_18 : decode prog_11_method_9_code 18 = .ok (.iconst 1, 1) := by decide +kernel
theorem od_Mo_isNumber_19 : decode prog_11_method_9_code 19 = .ok (.iadd, 1) := by decide +kernel
theorem od_Mo_isNumber_20 : decode prog_11_method_9_code 20 = .ok (.goto (7), 3) := by decide +kernel
theorem od_Mo_isNumber_23 : decode prog_11_method_9_code 23 = .ok (.aload_n 0, 1) := by decide +kernel
theorem od_Mo_isNumber_24 : decode prog_11_method_9_code 24 = .ok (.getfield 118, 3) := by decide +kernel
theorem od_Mo_isNumber_27 : decode prog_11_method_9_code 27 = .ok (.istore_n 1, 1) := by decide +kernel
theorem od_Mo_isNumber_28 : decode prog_11_method_9_code 28 = .ok (.aload_n 0, 1) := by decide +kernel
theorem od_Mo_isNumber_29 : decode prog_11_method_9_code 29 = .ok (.getfield 112, 3) := by decide +kernel
theorem od_Mo_isNumber_32 : decode prog_11_method_9_code 32 = .ok (.iload_n 1, 1) := by decide +kernel
theorem od_Mo_isNumber_33 : decode prog_11_method_9_code 33 = .ok (.if_icmp .le (17), 3) := by decide +kernel
theorem od_Mo_isNumber_36 : decode prog_11_method_9_code 36 = .ok (.aload_n 0, 1) := by decide +kernel
theorem od_Mo_isNumber_37 : decode prog_11_method_9_code 37 = .ok (.getfield 112, 3) := by decide +kernel
theorem od_Mo_isNumber_40 : decode prog_11_method_9_code 40 = .ok (.iload_n 1, 1) := by decide +kernel
theorem od_Mo_isNumber_41 : decode prog_11_method_9_code 41 = .ok (.isub, 1) := by decide +kernel
theorem od_Mo_isNumber_42 : decode prog_11_method_9_code 42 = .ok (.iconst 4, 1) := by decide +kernel
theorem od_Mo_isNumber_43 : decode prog_11_method_9_code 43 = .ok (.if_icmp .gt (7), 3) := by decide +kernel
theorem od_Mo_isNumber_46 : decode prog_11_method_9_code 46 = .ok (.iconst 1, 1) := by decide +kernel
theorem od_Mo_isNumber_47 : decode prog_11_method_9_code 47 = .ok (.goto (4), 3) := by decide +kernel
theorem od_Mo_isNumber_50 : decode prog_11_method_9_code 50 = .ok (.iconst 0, 1) := by decide +kernel
theorem od_Mo_isNumber_51 : decode prog_11_method_9_code 51 = .ok (.istore_n 2, 1) := by decide +kernel
theorem od_Mo_isNumber_52 : decode prog_11_method_9_code 52 = .ok (.iload_n 1, 1) := by decide +kernel
theorem od_Mo_isNumber_53 : decode prog_11_method_9_code 53 = .ok (.istore_n 3, 1) := by decide +kernel
theorem od_Mo_isNumber_54 : decode prog_11_method_9_code 54 = .ok (.iload_n 3, 1) := by decide +kernel
theorem od_Mo_isNumber_55 : decode prog_11_method_9_code 55 = .ok (.aload_n 0, 1) := by decide +kernel
theorem od_Mo_isNumber_56 : decode prog_11_method_9_code 56 = .ok (.getfield 112, 3) := by decide +kernel
theorem od_Mo_isNumber_59 : decode prog_11_method_9_code 59 = .ok (.if_icmp .ge (41), 3) := by decide +kernel
theorem od_Mo_isNumber_62 : decode prog_11_method_9_code 62 = .ok (.iload_n 2, 1) := by decide +kernel
theorem od_Mo_isNumber_63 : decode prog_11_method_9_code 63 = .ok (.ifCond .eq (29), 3) := by decide +kernel
theorem od_Mo_isNumber_66 : decode prog_11_method_9_code 66 = .ok (.aload_n 0, 1) := by decide +kernel
theorem od_Mo_isNumber_67 : decode prog_11_method_9_code 67 = .ok (.getfield 7, 3) := by decide +kernel
theorem od_Mo_isNumber_70 : decode prog_11_method_9_code 70 = .ok (.iload_n 3, 1) := by decide +kernel
theorem od_Mo_isNumber_71 : decode prog_11_method_9_code 71 = .ok (.caload, 1) := by decide +kernel
theorem od_Mo_isNumber_72 : decode prog_11_method_9_code 72 = .ok (.bipush (48), 2) := by decide +kernel
theorem od_Mo_isNumber_74 : decode prog_11_method_9_code 74 = .ok (.if_icmp .lt (18), 3) := by decide +kernel
theorem od_Mo_isNumber_77 : decode prog_11_method_9_code 77 = .ok (.aload_n 0, 1) := by decide +kernel
theorem od_Mo_isNumber_78 : decode prog_11_method_9_code 78 = .ok (.getfield 7, 3) := by decide +kernel
theorem od_Mo_isNumber_81 : decode prog_11_method_9_code 81 = .ok (.iload_n 3, 1) := by decide +kernel
theorem od_Mo_isNumber_82 : decode prog_11_method_9_code 82 = .ok (.caload, 1) := by decide +kernel
theorem od_Mo_isNumber_83 : decode prog_11_method_9_code 83 = .ok (.bipush (57), 2) := by decide +kernel
theorem od_Mo_isNumber_85 : decode prog_11_method_9_code 85 = .ok (.if_icmp .gt (7), 3) := by decide +kernel
theorem od_Mo_isNumber_88 : decode prog_11_method_9_code 88 = .ok (.iconst 1, 1) := by decide +kernel
theorem od_Mo_isNumber_89 : decode prog_11_method_9_code 89 = .ok (.goto (4), 3) := by decide +kernel
theorem od_Mo_isNumber_92 : decode prog_11_method_9_code 92 = .ok (.iconst 0, 1) := by decide +kernel
theorem od_Mo_isNumber_93 : decode prog_11_method_9_code 93 = .ok (.istore_n 2, 1) := by decide +kernel
theorem od_Mo_isNumber_94 : decode prog_11_method_9_code 94 = .ok (.iinc 3 (1), 3) := by decide +kernel
theorem od_Mo_isNumber_97 : decode prog_11_method_9_code 97 = .ok (.goto (-43), 3) := by decide +kernel
theorem od_Mo_isNumber_100 : decode prog_11_method_9_code 100 = .ok (.iload_n 2, 1) := by decide +kernel
theorem od_Mo_isNumber_101 : decode prog_11_method_9_code 101 = .ok (.ireturn, 1) := by decide +kernel
theorem od_Mo_number_0 : decode prog_11_method_10_code 0 = .ok (.iconst 0, 1) := by decide +kernel
theorem od_Mo_number_1 : decode prog_11_method_10_code 1 = .ok (.istore_n 1, 1) := by decide +kernel
theorem od_Mo_number_2 : decode prog_11_method_10_code 2 = .ok (.aload_n 0, 1) := by decide +kernel
theorem od_Mo_number_3 : decode prog_11_method_10_code 3 = .ok (.getfield 118, 3) := by decide +kernel
theorem od_Mo_number_6 : decode prog_11_method_10_code 6 = .ok (.istore_n 2, 1) := by decide +kernel
theorem od_Mo_number_7 : decode prog_11_method_10_code 7 = .ok (.iload_n 2, 1) := by decide +kernel
theorem od_Mo_number_8 : decode prog_11_method_10_code 8 = .ok (.aload_n 0, 1) := by decide +kernel
theorem od_Mo_number_9 : decode prog_11_method_10_code 9 = .ok (.getfield 112, 3) := by decide +kernel
theorem od_Mo_number_12 : decode prog_11_method_10_code 12 = .ok (.if_icmp .ge (39), 3) := by decide +kernel
theorem od_Mo_number_15 : decode prog_11_method_10_code 15 = .ok (.aload_n 0, 1) := by decide +kernel
theorem od_Mo_number_16 : decode prog_11_method_10_code 16 = .ok (.getfield 7, 3) := by decide +kernel
theorem od_Mo_number_19 : decode prog_11_method_10_code 19 = .ok (.iload_n 2, 1) := by decide +kernel
theorem od_Mo_number_20 : decode prog_11_method_10_code 20 = .ok (.caload, 1) := by decide +kernel
theorem od_Mo_number_21 : decode prog_11_method_10_code 21 = .ok (.bipush (45), 2) := by decide +kernel
theorem od_Mo_number_23 : decode prog_11_method_10_code 23 = .ok (.if_icmp .ne (7), 3) := by decide +kernel
theorem od_Mo_number_26 : decode prog_11_method_10_code 26 = .ok (.iconst 0, 1) := by decide +kernel
theorem od_Mo_number_27 : decode prog_11_method_10_code 27 = .ok (.goto (17), 3) := by decide +kernel
theorem od_Mo_number_30 : decode prog_11_method_10_code 30 = .ok (.bipush (10), 2) := by decide +kernel
theorem od_Mo_number_32 : decode prog_11_method_10_code 32 = .ok (.iload_n 1, 1) := by decide +kernel
theorem od_Mo_number_33 : decode prog_11_method_10_code 33 = .ok (.imul, 1) := by decide +kernel
theorem od_Mo_number_34 : decode prog_11_method_10_code 34 = .ok (.aload_n 0, 1) := by decide +kernel
theorem od_Mo_number_35 : decode prog_11_method_10_code 35 = .ok (.getfield 7, 3) := by decide +kernel
theorem od_Mo_number_38 : decode prog_11_method_10_code 38 = .ok (.iload_n 2, 1) := by decide +kernel
theorem od_Mo_number_39 : decode prog_11_method_10_code 39 = .ok (.caload, 1) := by decide +kernel
theorem od_Mo_number_40 : decode prog_11_method_10_code 40 = .ok (.iadd, 1) := by decide +kernel
theorem od_Mo_number_41 : decode prog_11_method_10_code 41 = .ok (.bipush (48), 2) := by decide +kernel
theorem od_Mo_number_43 : decode prog_11_method_10_code 43 = .ok (.isub, 1) := by decide +kernel
theorem od_Mo_number_44 : decode prog_11_method_10_code 44 = .ok (.istore_n 1, 1) := by decide +kernel
theorem od_Mo_number_45 : decode prog_11_method_10_code 45 = .ok (.iinc 2 (1), 3) := by decide +kernel
theorem od_Mo_number_48 : decode prog_11_method_10_code 48 = .ok (.goto (-41), 3) := by decide +kernel
theorem od_Mo_number_51 : decode prog_11_method_10_code 51 = .ok (.aload_n 0, 1) := by decide +kernel
theorem od_Mo_number_52 : decode prog_11_method_10_code 52 = .ok (.getfield 7, 3) := by decide +kernel
theorem od_Mo_number_55 : decode prog_11_method_10_code 55 = .ok (.aload_n 0, 1) := by decide +kernel
theorem od_Mo_number_56 : decode prog_11_method_10_code 56 = .ok (.getfield 118, 3) := by decide +kernel
theorem od_Mo_number_59 : decode prog_11_method_10_code 59 = .ok (.caload, 1) := by decide +kernel
theorem od_Mo_number_60 : decode prog_11_method_10_code 60 = .ok (.bipush (45), 2) := by decide +kernel
theorem od_Mo_number_62 : decode prog_11_method_10_code 62 = .ok (.if_icmp .ne (8), 3) := by decide +kernel
theorem od_Mo_number_65 : decode prog_11_method_10_code 65 = .ok (.iload_n 1, 1) := by decide +kernel
theorem od_Mo_number_66 : decode prog_11_method_10_code 66 = .ok (.ineg, 1) := by decide +kernel
theorem od_Mo_number_67 : decode prog_11_method_10_code 67 = .ok (.goto (4), 3) := by decide +kernel
theorem od_Mo_number_70 : decode prog_11_method_10_code 70 = .ok (.iload_n 1, 1) := by decide +kernel
theorem od_Mo_number_71 : decode prog_11_method_10_code 71 = .ok (.ireturn, 1) := by decide +kernel
theorem od_Mo_place_0 : decode prog_11_method_18_code 0 = .ok (.aload_n 0, 1) := by decide +kernel
theorem od_Mo_place_1 : decode prog_11_method_18_code 1 = .ok (.getfield 162, 3) := by decide +kernel
theorem od_Mo_place_4 : decode prog_11_method_18_code 4 = .ok (.istore_n 1, 1) := by decide +kernel
theorem od_Mo_place_5 : decode prog_11_method_18_code 5 = .ok (.iload_n 1, 1) := by decide +kernel
theorem od_Mo_place_6 : decode prog_11_method_18_code 6 = .ok (.aload_n 0, 1) := by decide +kernel
theorem od_Mo_place_7 : decode prog_11_method_18_code 7 = .ok (.getfield 139, 3) := by decide +kernel
theorem od_Mo_place_10 : decode prog_11_method_18_code 10 = .ok (.if_icmp .ge (31), 3) := by decide +kernel
theorem od_Mo_place_13 : decode prog_11_method_18_code 13 = .ok (.aload_n 0, 1) := by decide +kernel
theorem od_Mo_place_14 : decode prog_11_method_18_code 14 = .ok (.invokevirtual 128, 3) := by decide +kernel
theorem od_Mo_place_17 : decode prog_11_method_18_code 17 = .ok (.ifCond .eq (24), 3) := by decide +kernel
theorem od_Mo_place_20 : decode prog_11_method_18_code 20 = .ok (.aload_n 0, 1) := by decide +kernel
theorem od_Mo_place_21 : decode prog_11_method_18_code 21 = .ok (.invokevirtual 142, 3) := by decide +kernel
theorem od_Mo_place_24 : decode prog_11_method_18_code 24 = .ok (.ifCond .eq (17), 3) := by decide +kernel
theorem od_Mo_place_27 : decode prog_11_method_18_code 27 = .ok (.aload_n 0, 1) := by decide +kernel
theorem od_Mo_place_28 : decode prog_11_method_18_code 28 = .ok (.invokevirtual 145, 3) := by decide +kernel
theorem od_Mo_place_31 : decode prog_11_method_18_code 31 = .ok (.iload_n 1, 1) := by decide +kernel
theorem od_Mo_place_32 : decode prog_11_method_18_code 32 = .ok (.iconst 1, 1) := by decide +kernel
theorem od_Mo_place_33 : decode prog_11_method_18_code 33 = .ok (.iadd, 1) := by decide +kernel
theorem od_Mo_place_34 : decode prog_11_method_18_code 34 = .ok (.if_icmp .ne (7), 3) := by decide +kernel
theorem od_Mo_place_37 : decode prog_11_method_18_code 37 = .ok (.iconst 1, 1) := by decide +kernel
theorem od_Mo_place_38 : decode prog_11_method_18_code 38 = .ok (.goto (4), 3) := by decide +kernel
theorem od_Mo_place_41 : decode prog_11_method_18_code 41 = .ok (.iconst 0, 1) := by decide +kernel
theorem od_Mo_place_42 : decode prog_11_method_18_code 42 = .ok (.istore_n 2, 1) := by decide +kernel
theorem od_Mo_place_43 : decode prog_11_method_18_code 43 = .ok (.iload_n 2, 1) := by decide +kernel
theorem od_Mo_place_44 : decode prog_11_method_18_code 44 = .ok (.ifCond .eq (21), 3) := by decide +kernel
theorem od_Mo_place_47 : decode prog_11_method_18_code 47 = .ok (.aload_n 0, 1) := by decide +kernel
theorem od_Mo_place_48 : decode prog_11_method_18_code 48 = .ok (.invokevirtual 128, 3) := by decide +kernel
theorem od_Mo_place_51 : decode prog_11_method_18_code 51 = .ok (.ifCond .eq (14), 3) := by decide +kernel
theorem od_Mo_place_54 : decode prog_11_method_18_code 54 = .ok (.aload_n 0, 1) := by decide +kernel
theorem od_Mo_place_55 : decode prog_11_method_18_code 55 = .ok (.invokevirtual 142, 3) := by decide +kernel
theorem od_Mo_place_58 : decode prog_11_method_18_code 58 = .ok (.ifCond .eq (7), 3) := by decide +kernel
theorem od_Mo_place_61 : decode prog_11_method_18_code 61 = .ok (.iconst 1, 1) := by decide +kernel
theorem od_Mo_place_62 : decode prog_11_method_18_code 62 = .ok (.goto (4), 3) := by decide +kernel
theorem od_Mo_place_65 : decode prog_11_method_18_code 65 = .ok (.iconst 0, 1) := by decide +kernel
theorem od_Mo_place_66 : decode prog_11_method_18_code 66 = .ok (.istore_n 2, 1) := by decide +kernel
theorem od_Mo_place_67 : decode prog_11_method_18_code 67 = .ok (.iload_n 2, 1) := by decide +kernel
theorem od_Mo_place_68 : decode prog_11_method_18_code 68 = .ok (.ifCond .eq (10), 3) := by decide +kernel
theorem od_Mo_place_71 : decode prog_11_method_18_code 71 = .ok (.aload_n 0, 1) := by decide +kernel
theorem od_Mo_place_72 : decode prog_11_method_18_code 72 = .ok (.invokevirtual 145, 3) := by decide +kernel
theorem od_Mo_place_75 : decode prog_11_method_18_code 75 = .ok (.goto (4), 3) := by decide +kernel
theorem od_Mo_place_78 : decode prog_11_method_18_code 78 = .ok (.iconst 0, 1) := by decide +kernel
theorem od_Mo_place_79 : decode prog_11_method_18_code 79 = .ok (.istore_n 3, 1) := by decide +kernel
theorem od_Mo_place_80 : decode prog_11_method_18_code 80 = .ok (.iload_n 2, 1) := by decide +kernel
theorem od_Mo_place_81 : decode prog_11_method_18_code 81 = .ok (.ifCond .eq (21), 3) := by decide +kernel
theorem od_Mo_place_84 : decode prog_11_method_18_code 84 = .ok (.aload_n 0, 1) := by decide +kernel
theorem od_Mo_place_85 : decode prog_11_method_18_code 85 = .ok (.invokevirtual 128, 3) := by decide +kernel
theorem od_Mo_place_88 : decode prog_11_method_18_code 88 = .ok (.ifCond .eq (14), 3) := by decide +kernel
theorem od_Mo_place_91 : decode prog_11_method_18_code 91 = .ok (.aload_n 0, 1) := by decide +kernel
theorem od_Mo_place_92 : decode prog_11_method_18_code 92 = .ok (.invokevirtual 142, 3) := by decide +kernel
theorem od_Mo_place_95 : decode prog_11_method_18_code 95 = .ok (.ifCond .eq (7), 3) := by decide +kernel
theorem od_Mo_place_98 : decode prog_11_method_18_code 98 = .ok (.iconst 1, 1) := by decide +kernel
theorem od_Mo_place_99 : decode prog_11_method_18_code 99 = .ok (.goto (4), 3) := by decide +kernel
theorem od_Mo_place_102 : decode prog_11_method_18_code 102 = .ok (.iconst 0, 1) := by decide +kernel
theorem od_Mo_place_103 : decode prog_11_method_18_code 103 = .ok (.istore_n 2, 1) := by decide +kernel
theorem od_Mo_place_104 : decode prog_11_method_18_code 104 = .ok (.iload_n 2, 1) := by decide +kernel
theorem od_Mo_place_105 : decode prog_11_method_18_code 105 = .ok (.ifCond .eq (10), 3) := by decide +kernel
theorem od_Mo_place_108 : decode prog_11_method_18_code 108 = .ok (.aload_n 0, 1) := by decide +kernel
theorem od_Mo_place_109 : decode prog_11_method_18_code 109 = .ok (.invokevirtual 145, 3) := by decide +kernel
theorem od_Mo_place_112 : decode prog_11_method_18_code 112 = .ok (.goto (4), 3) := by decide +kernel
theorem od_Mo_place_115 : decode prog_11_method_18_code 115 = .ok (.iconst 0, 1) := by decide +kernel
theorem od_Mo_place_116 : decode prog_11_method_18_code 116 = .ok (.istore 4, 2) := by decide +kernel
theorem od_Mo_place_118 : decode prog_11_method_18_code 118 = .ok (.iload_n 2, 1) := by decide +kernel
theorem od_Mo_place_119 : decode prog_11_method_18_code 119 = .ok (.ifCond .eq (33), 3) := by decide +kernel
theorem od_Mo_place_122 : decode prog_11_method_18_code 122 = .ok (.iload_n 3, 1) := by decide +kernel
theorem od_Mo_place_123 : decode prog_11_method_18_code 123 = .ok (.sipush (-999), 3) := by decide +kernel
theorem od_Mo_place_126 : decode prog_11_method_18_code 126 = .ok (.if_icmp .lt (26), 3) := by decide +kernel
theorem od_Mo_place_129 : decode prog_11_method_18_code 129 = .ok (.iload_n 3, 1) := by decide +kernel
theorem od_Mo_place_130 : decode prog_11_method_18_code 130 = .ok (.sipush (999), 3) := by decide +kernel
theorem od_Mo_place_133 : decode prog_11_method_18_code 133 = .ok (.if_icmp .gt (19), 3) := by decide +kernel
theorem od_Mo_place_136 : decode prog_11_method_18_code 136 = .ok (.iload 4, 2) := by decide +kernel
theorem od_Mo_place_138 : decode prog_11_method_18_code 138 = .ok (.sipush (-999), 3) := by decide +kernel
theorem od_Mo_place_141 : decode prog_11_method_18_code 141 = .ok (.if_icmp .lt (11), 3) := by decide +kernel
theorem od_Mo_place_144 : decode prog_11_method_18_code 144 = .ok (.iload 4, 2) := by decide +kernel
theorem od_Mo_place_146 : decode prog_11_method_18_code 146 = .ok (.sipush (999), 3) := by decide +kernel
theorem od_Mo_place_149 : decode prog_11_method_18_code 149 = .ok (.if_icmp .le (5), 3) := by decide +kernel
theorem od_Mo_place_152 : decode prog_11_method_18_code 152 = .ok (.iconst 0, 1) := by decide +kernel
theorem od_Mo_place_153 : decode prog_11_method_18_code 153 = .ok (.ireturn, 1) := by decide +kernel
theorem od_Mo_place_154 : decode prog_11_method_18_code 154 = .ok (.aload_n 0, 1) := by decide +kernel
theorem od_Mo_place_155 : decode prog_11_method_18_code 155 = .ok (.getfield 35, 3) := by decide +kernel
theorem od_Mo_place_158 : decode prog_11_method_18_code 158 = .ok (.iload_n 1, 1) := by decide +kernel
theorem od_Mo_place_159 : decode prog_11_method_18_code 159 = .ok (.iload_n 3, 1) := by decide +kernel
theorem od_Mo_place_160 : decode prog_11_method_18_code 160 = .ok (.iastore, 1) := by decide +kernel
theorem od_Mo_place_161 : decode prog_11_method_18_code 161 = .ok (.aload_n 0, 1) := by decide +kernel
theorem od_Mo_place_162 : decode prog_11_method_18_code 162 = .ok (.getfield 38, 3) := by decide +kernel
theorem od_Mo_place_165 : decode prog_11_method_18_code 165 = .ok (.iload_n 1, 1) := by decide +kernel
theorem od_Mo_place_166 : decode prog_11_method_18_code 166 = .ok (.iload 4, 2) := by decide +kernel
theorem od_Mo_place_168 : decode prog_11_method_18_code 168 = .ok (.iastore, 1) := by decide +kernel
theorem od_Mo_place_169 : decode prog_11_method_18_code 169 = .ok (.aload_n 0, 1) := by decide +kernel
theorem od_Mo_place_170 : decode prog_11_method_18_code 170 = .ok (.dup, 1) := by decide +kernel
theorem od_Mo_place_171 : decode prog_11_method_18_code 171 = .ok (.getfield 162, 3) := by decide +kernel
theorem od_Mo_place_174 : decode prog_11_method_18_code 174 = .ok (.iconst 1, 1) := by decide +kernel
theorem od_Mo_place_175 : decode prog_11_method_18_code 175 = .ok (.iadd, 1) := by decide +kernel
theorem od_Mo_place_176 : decode prog_11_method_18_code 176 = .ok (.putfield 162, 3) := by decide +kernel
theorem od_Mo_place_179 : decode prog_11_method_18_code 179 = .ok (.aload_n 0, 1) := by decide +kernel
theorem od_Mo_place_180 : decode prog_11_method_18_code 180 = .ok (.invokevirtual 136, 3) := by decide +kernel
theorem od_Mo_place_183 : decode prog_11_method_18_code 183 = .ok (.ireturn, 1) := by decide +kernel
theorem od_Mo_pair_0 : decode prog_11_method_14_code 0 = .ok (.iload_n 1, 1) := by decide +kernel
theorem od_Mo_pair_1 : decode prog_11_method_14_code 1 = .ok (.istore_n 2, 1) := by decide +kernel
theorem od_Mo_pair_2 : decode prog_11_method_14_code 2 = .ok (.iconst 0, 1) := by decide +kernel
theorem od_Mo_pair_3 : decode prog_11_method_14_code 3 = .ok (.istore_n 3, 1) := by decide +kernel
theorem od_Mo_pair_4 : decode prog_11_method_14_code 4 = .ok (.iload_n 3, 1) := by decide +kernel
theorem od_Mo_pair_5 : decode prog_11_method_14_code 5 = .ok (.aload_n 0, 1) := by decide +kernel
theorem od_Mo_pair_6 : decode prog_11_method_14_code 6 = .ok (.getfield 139, 3) := by decide +kernel
theorem od_Mo_pair_9 : decode prog_11_method_14_code 9 = .ok (.if_icmp .ge (77), 3) := by decide +kernel
theorem od_Mo_pair_12 : decode prog_11_method_14_code 12 = .ok (.aload_n 0, 1) := by decide +kernel
theorem od_Mo_pair_13 : decode prog_11_method_14_code 13 = .ok (.getfield 155, 3) := by decide +kernel
theorem od_Mo_pair_16 : decode prog_11_method_14_code 16 = .ok (.bipush (9), 2) := by decide +kernel
theorem od_Mo_pair_18 : decode prog_11_method_14_code 18 = .ok (.if_icmp .ne (9), 3) := by decide +kernel
theorem od_Mo_pair_21 : decode prog_11_method_14_code 21 = .ok (.iload_n 3, 1) := by decide +kernel
theorem od_Mo_pair_22 : decode prog_11_method_14_code 22 = .ok (.iconst 1, 1) := by decide +kernel
theorem od_Mo_pair_23 : decode prog_11_method_14_code 23 = .ok (.iadd, 1) := by decide +kernel
theorem od_Mo_pair_24 : decode prog_11_method_14_code 24 = .ok (.goto (4), 3) := by decide +kernel
theorem od_Mo_pair_27 : decode prog_11_method_14_code 27 = .ok (.iconst 0, 1) := by decide +kernel
theorem od_Mo_pair_28 : decode prog_11_method_14_code 28 = .ok (.istore 4, 2) := by decide +kernel
theorem od_Mo_pair_30 : decode prog_11_method_14_code 30 = .ok (.aload_n 0, 1) := by decide +kernel
theorem od_Mo_pair_31 : decode prog_11_method_14_code 31 = .ok (.getfield 155, 3) := by decide +kernel
theorem od_Mo_pair_34 : decode prog_11_method_14_code 34 = .ok (.bipush (10), 2) := by decide +kernel
theorem od_Mo_pair_36 : decode prog_11_method_14_code 36 = .ok (.if_icmp .ne (7), 3) := by decide +kernel
theorem od_Mo_pair_39 : decode prog_11_method_14_code 39 = .ok (.iload_n 3, 1) := by decide +kernel
theorem od_Mo_pair_40 : decode prog_11_method_14_code 40 = .ok (.goto (9), 3) := by decide +kernel
theorem od_Mo_pair_43 : decode prog_11_method_14_code 43 = .ok (.aload_n 0, 1) := by decide +kernel
theorem od_Mo_pair_44 : decode prog_11_method_14_code 44 = .ok (.getfield 139, 3) := by decide +kernel
theorem od_Mo_pair_47 : decode prog_11_method_14_code 47 = .ok (.iconst 1, 1) := by decide +kernel
theorem od_Mo_pair_48 : decode prog_11_method_14_code 48 = .ok (.isub, 1) := by decide +kernel
theorem od_Mo_pair_49 : decode prog_11_method_14_code 49 = .ok (.istore 5, 2) := by decide +kernel
theorem od_Mo_pair_51 : decode prog_11_method_14_code 51 = .ok (.iload_n 2, 1) := by decide +kernel
theorem od_Mo_pair_52 : decode prog_11_method_14_code 52 = .ok (.iload 5, 2) := by decide +kernel
theorem od_Mo_pair_54 : decode prog_11_method_14_code 54 = .ok (.iload 4, 2) := by decide +kernel
theorem od_Mo_pair_56 : decode prog_11_method_14_code 56 = .ok (.isub, 1) := by decide +kernel
theorem od_Mo_pair_57 : decode prog_11_method_14_code 57 = .ok (.if_icmp .gt (13), 3) := by decide +kernel
theorem od_Mo_pair_60 : decode prog_11_method_14_code 60 = .ok (.bipush (8), 2) := by decide +kernel
theorem od_Mo_pair_62 : decode prog_11_method_14_code 62 = .ok (.iload_n 3, 1) := by decide +kernel
theorem od_Mo_pair_63 : decode prog_11_method_14_code 63 = .ok (.imul, 1) := by decide +kernel
theorem od_Mo_pair_64 : decode prog_11_method_14_code 64 = .ok (.iload 4, 2) := by decide +kernel
theorem od_Mo_pair_66 : decode prog_11_method_14_code 66 = .ok (.iadd, 1) := by decide +kernel
theorem od_Mo_pair_67 : decode prog_11_method_14_code 67 = .ok (.iload_n 2, 1) := by decide +kernel
theorem od_Mo_pair_68 : decode prog_11_method_14_code 68 = .ok (.iadd, 1) := by decide +kernel
theorem od_Mo_pair_69 : decode prog_11_method_14_code 69 = .ok (.ireturn, 1) := by decide +kernel
theorem od_Mo_pair_70 : decode prog_11_method_14_code 70 = .ok (.iload_n 2, 1) := by decide +kernel
theorem od_Mo_pair_71 : decode prog_11_method_14_code 71 = .ok (.iload 5, 2) := by decide +kernel
theorem od_Mo_pair_73 : decode prog_11_method_14_code 73 = .ok (.iload 4, 2) := by decide +kernel
theorem od_Mo_pair_75 : decode prog_11_method_14_code 75 = .ok (.isub, 1) := by decide +kernel
theorem od_Mo_pair_76 : decode prog_11_method_14_code 76 = .ok (.iconst 1, 1) := by decide +kernel
theorem od_Mo_pair_77 : decode prog_11_method_14_code 77 = .ok (.iadd, 1) := by decide +kernel
theorem od_Mo_pair_78 : decode prog_11_method_14_code 78 = .ok (.isub, 1) := by decide +kernel
theorem od_Mo_pair_79 : decode prog_11_method_14_code 79 = .ok (.istore_n 2, 1) := by decide +kernel
theorem od_Mo_pair_80 : decode prog_11_method_14_code 80 = .ok (.iinc 3 (1), 3) := by decide +kernel
theorem od_Mo_pair_83 : decode prog_11_method_14_code 83 = .ok (.goto (-79), 3) := by decide +kernel
theorem od_Mo_pair_86 : decode prog_11_method_14_code 86 = .ok (.iconst (-1), 1) := by decide +kernel
theorem od_Mo_pair_87 : decode prog_11_method_14_code 87 = .ok (.ireturn, 1) := by decide +kernel
theorem od_Mo_take_0 : decode prog_11_method_16_code 0 = .ok (.aload_n 0, 1) := by decide +kernel
theorem od_Mo_take_1 : decode prog_11_method_16_code 1 = .ok (.getfield 162, 3) := by decide +kernel
theorem od_Mo_take_4 : decode prog_11_method_16_code 4 = .ok (.aload_n 0, 1) := by decide +kernel
theorem od_Mo_take_5 : decode prog_11_method_16_code 5 = .ok (.invokevirtual 165, 3) := by decide +kernel
theorem od_Mo_take_8 : decode prog_11_method_16_code 8 = .ok (.if_icmp .ge (14), 3) := by decide +kernel
theorem od_Mo_take_11 : decode prog_11_method_16_code 11 = .ok (.aload_n 0, 1) := by decide +kernel
theorem od_Mo_take_12 : decode prog_11_method_16_code 12 = .ok (.aload_n 0, 1) := by decide +kernel
theorem od_Mo_take_13 : decode prog_11_method_16_code 13 = .ok (.getfield 162, 3) := by decide +kernel
theorem od_Mo_take_16 : decode prog_11_method_16_code 16 = .ok (.invokevirtual 168, 3) := by decide +kernel
theorem od_Mo_take_19 : decode prog_11_method_16_code 19 = .ok (.goto (4), 3) := by decide +kernel
theorem od_Mo_take_22 : decode prog_11_method_16_code 22 = .ok (.iconst (-1), 1) := by decide +kernel
theorem od_Mo_take_23 : decode prog_11_method_16_code 23 = .ok (.istore_n 2, 1) := by decide +kernel
theorem od_Mo_take_24 : decode prog_11_method_16_code 24 = .ok (.iload_n 2, 1) := by decide +kernel
theorem od_Mo_take_25 : decode prog_11_method_16_code 25 = .ok (.ifCond .lt (7), 3) := by decide +kernel
theorem od_Mo_take_28 : decode prog_11_method_16_code 28 = .ok (.iload_n 1, 1) := by decide +kernel
theorem od_Mo_take_29 : decode prog_11_method_16_code 29 = .ok (.ifCond .ge (5), 3) := by decide +kernel
theorem od_Mo_take_32 : decode prog_11_method_16_code 32 = .ok (.iconst 0, 1) := by decide +kernel
theorem od_Mo_take_33 : decode prog_11_method_16_code 33 = .ok (.ireturn, 1) := by decide +kernel
theorem od_Mo_take_34 : decode prog_11_method_16_code 34 = .ok (.iload_n 2, 1) := by decide +kernel
theorem od_Mo_take_35 : decode prog_11_method_16_code 35 = .ok (.bipush (8), 2) := by decide +kernel
theorem od_Mo_take_37 : decode prog_11_method_16_code 37 = .ok (.idiv, 1) := by decide +kernel
theorem od_Mo_take_38 : decode prog_11_method_16_code 38 = .ok (.istore_n 3, 1) := by decide +kernel
theorem od_Mo_take_39 : decode prog_11_method_16_code 39 = .ok (.iload_n 2, 1) := by decide +kernel
theorem od_Mo_take_40 : decode prog_11_method_16_code 40 = .ok (.bipush (8), 2) := by decide +kernel
theorem od_Mo_take_42 : decode prog_11_method_16_code 42 = .ok (.irem, 1) := by decide +kernel
theorem od_Mo_take_43 : decode prog_11_method_16_code 43 = .ok (.istore 4, 2) := by decide +kernel
theorem od_Mo_take_45 : decode prog_11_method_16_code 45 = .ok (.iload_n 3, 1) := by decide +kernel
theorem od_Mo_take_46 : decode prog_11_method_16_code 46 = .ok (.iload 4, 2) := by decide +kernel
theorem od_Mo_take_48 : decode prog_11_method_16_code 48 = .ok (.if_icmp .ne (15), 3) := by decide +kernel
theorem od_Mo_take_51 : decode prog_11_method_16_code 51 = .ok (.iload_n 1, 1) := by decide +kernel
theorem od_Mo_take_52 : decode prog_11_method_16_code 52 = .ok (.ifCond .ne (7), 3) := by decide +kernel
theorem od_Mo_take_55 : decode prog_11_method_16_code 55 = .ok (.iconst 1, 1) := by decide +kernel
theorem od_Mo_take_56 : decode prog_11_method_16_code 56 = .ok (.goto (43), 3) := by decide +kernel
theorem od_Mo_take_59 : decode prog_11_method_16_code 59 = .ok (.iconst 0, 1) := by decide +kernel
theorem od_Mo_take_60 : decode prog_11_method_16_code 60 = .ok (.goto (39), 3) := by decide +kernel
theorem od_Mo_take_63 : decode prog_11_method_16_code 63 = .ok (.aload_n 0, 1) := by decide +kernel
theorem od_Mo_take_64 : decode prog_11_method_16_code 64 = .ok (.getfield 155, 3) := by decide +kernel
theorem od_Mo_take_67 : decode prog_11_method_16_code 67 = .ok (.bipush (8), 2) := by decide +kernel
theorem od_Mo_take_69 : decode prog_11_method_16_code 69 = .ok (.if_icmp .ne (25), 3) := by decide +kernel
theorem od_Mo_take_72 : decode prog_11_method_16_code 72 = .ok (.iload_n 3, 1) := by decide +kernel
theorem od_Mo_take_73 : decode prog_11_method_16_code 73 = .ok (.iload 4, 2) := by decide +kernel
theorem od_Mo_take_75 : decode prog_11_method_16_code 75 = .ok (.if_icmp .lt (19), 3) := by decide +kernel
theorem od_Mo_take_78 : decode prog_11_method_16_code 78 = .ok (.iload_n 1, 1) := by decide +kernel
theorem od_Mo_take_79 : decode prog_11_method_16_code 79 = .ok (.aload_n 0, 1) := by decide +kernel
theorem od_Mo_take_80 : decode prog_11_method_16_code 80 = .ok (.getfield 32, 3) := by decide +kernel
theorem od_Mo_take_83 : decode prog_11_method_16_code 83 = .ok (.bipush (8), 2) := by decide +kernel
theorem od_Mo_take_85 : decode prog_11_method_16_code 85 = .ok (.iload 4, 2) := by decide +kernel
theorem od_Mo_take_87 : decode prog_11_method_16_code 87 = .ok (.imul, 1) := by decide +kernel
theorem od_Mo_take_88 : decode prog_11_method_16_code 88 = .ok (.iload_n 3, 1) := by decide +kernel
theorem od_Mo_take_89 : decode prog_11_method_16_code 89 = .ok (.iadd, 1) := by decide +kernel
theorem od_Mo_take_90 : decode prog_11_method_16_code 90 = .ok (.iaload, 1) := by decide +kernel
theorem od_Mo_take_91 : decode prog_11_method_16_code 91 = .ok (.if_icmp .ne (7), 3) := by decide +kernel
theorem od_Mo_take_94 : decode prog_11_method_16_code 94 = .ok (.iconst 1, 1) := by decide +kernel
theorem od_Mo_take_95 : decode prog_11_method_16_code 95 = .ok (.goto (4), 3) := by decide +kernel
theorem od_Mo_take_98 : decode prog_11_method_16_code 98 = .ok (.iconst 0, 1) := by decide +kernel
theorem od_Mo_take_99 : decode prog_11_method_16_code 99 = .ok (.istore 5, 2) := by decide +kernel
theorem od_Mo_take_101 : decode prog_11_method_16_code 101 = .ok (.aload_n 0, 1) := by decide +kernel
theorem od_Mo_take_102 : decode prog_11_method_16_code 102 = .ok (.getfield 32, 3) := by decide +kernel
theorem od_Mo_take_105 : decode prog_11_method_16_code 105 = .ok (.bipush (8), 2) := by decide +kernel
theorem od_Mo_take_107 : decode prog_11_method_16_code 107 = .ok (.iload_n 3, 1) := by decide +kernel
theorem od_Mo_take_108 : decode prog_11_method_16_code 108 = .ok (.imul, 1) := by decide +kernel
theorem od_Mo_take_109 : decode prog_11_method_16_code 109 = .ok (.iload 4, 2) := by decide +kernel
theorem od_Mo_take_111 : decode prog_11_method_16_code 111 = .ok (.iadd, 1) := by decide +kernel
theorem od_Mo_take_112 : decode prog_11_method_16_code 112 = .ok (.iload_n 1, 1) := by decide +kernel
theorem od_Mo_take_113 : decode prog_11_method_16_code 113 = .ok (.iastore, 1) := by decide +kernel
theorem od_Mo_take_114 : decode prog_11_method_16_code 114 = .ok (.aload_n 0, 1) := by decide +kernel
theorem od_Mo_take_115 : decode prog_11_method_16_code 115 = .ok (.getfield 32, 3) := by decide +kernel
theorem od_Mo_take_118 : decode prog_11_method_16_code 118 = .ok (.bipush (8), 2) := by decide +kernel
theorem od_Mo_take_120 : decode prog_11_method_16_code 120 = .ok (.iload 4, 2) := by decide +kernel
theorem od_Mo_take_122 : decode prog_11_method_16_code 122 = .ok (.imul, 1) := by decide +kernel
theorem od_Mo_take_123 : decode prog_11_method_16_code 123 = .ok (.iload_n 3, 1) := by decide +kernel
theorem od_Mo_take_124 : decode prog_11_method_16_code 124 = .ok (.iadd, 1) := by decide +kernel
theorem od_Mo_take_125 : decode prog_11_method_16_code 125 = .ok (.iload_n 1, 1) := by decide +kernel
theorem od_Mo_take_126 : decode prog_11_method_16_code 126 = .ok (.iastore, 1) := by decide +kernel
theorem od_Mo_take_127 : decode prog_11_method_16_code 127 = .ok (.aload_n 0, 1) := by decide +kernel
theorem od_Mo_take_128 : decode prog_11_method_16_code 128 = .ok (.dup, 1) := by decide +kernel
theorem od_Mo_take_129 : decode prog_11_method_16_code 129 = .ok (.getfield 162, 3) := by decide +kernel
theorem od_Mo_take_132 : decode prog_11_method_16_code 132 = .ok (.iconst 1, 1) := by decide +kernel
theorem od_Mo_take_133 : decode prog_11_method_16_code 133 = .ok (.iadd, 1) := by decide +kernel
theorem od_Mo_take_134 : decode prog_11_method_16_code 134 = .ok (.putfield 162, 3) := by decide +kernel
theorem od_Mo_take_137 : decode prog_11_method_16_code 137 = .ok (.iload 5, 2) := by decide +kernel
theorem od_Mo_take_139 : decode prog_11_method_16_code 139 = .ok (.ireturn, 1) := by decide +kernel
theorem od_Mo_numbers_0 : decode prog_11_method_17_code 0 = .ok (.iconst 1, 1) := by decide +kernel
theorem od_Mo_numbers_1 : decode prog_11_method_17_code 1 = .ok (.istore_n 1, 1) := by decide +kernel
theorem od_Mo_numbers_2 : decode prog_11_method_17_code 2 = .ok (.iload_n 1, 1) := by decide +kernel
theorem od_Mo_numbers_3 : decode prog_11_method_17_code 3 = .ok (.ifCond .eq (51), 3) := by decide +kernel
theorem od_Mo_numbers_6 : decode prog_11_method_17_code 6 = .ok (.aload_n 0, 1) := by decide +kernel
theorem od_Mo_numbers_7 : decode prog_11_method_17_code 7 = .ok (.invokevirtual 128, 3) := by decide +kernel
theorem od_Mo_numbers_10 : decode prog_11_method_17_code 10 = .ok (.ifCond .eq (44), 3) := by decide +kernel
theorem od_Mo_numbers_13 : decode prog_11_method_17_code 13 = .ok (.aload_n 0, 1) := by decide +kernel
theorem od_Mo_numbers_14 : decode prog_11_method_17_code 14 = .ok (.invokevirtual 142, 3) := by decide +kernel
theorem od_Mo_numbers_17 : decode prog_11_method_17_code 17 = .ok (.ifCond .eq (32), 3) := by decide +kernel
theorem od_Mo_numbers_20 : decode prog_11_method_17_code 20 = .ok (.aload_n 0, 1) := by decide +kernel
theorem od_Mo_numbers_21 : decode prog_11_method_17_code 21 = .ok (.getfield 7, 3) := by decide +kernel
theorem od_Mo_numbers_24 : decode prog_11_method_17_code 24 = .ok (.aload_n 0, 1) := by decide +kernel
theorem od_Mo_numbers_25 : decode prog_11_method_17_code 25 = .ok (.getfield 118, 3) := by decide +kernel
theorem od_Mo_numbers_28 : decode prog_11_method_17_code 28 = .ok (.caload, 1) := by decide +kernel
theorem od_Mo_numbers_29 : decode prog_11_method_17_code 29 = .ok (.bipush (45), 2) := by decide +kernel
theorem od_Mo_numbers_31 : decode prog_11_method_17_code 31 = .ok (.if_icmp .eq (18), 3) := by decide +kernel
theorem od_Mo_numbers_34 : decode prog_11_method_17_code 34 = .ok (.aload_n 0, 1) := by decide +kernel
theorem od_Mo_numbers_35 : decode prog_11_method_17_code 35 = .ok (.aload_n 0, 1) := by decide +kernel
theorem od_Mo_numbers_36 : decode prog_11_method_17_code 36 = .ok (.invokevirtual 145, 3) := by decide +kernel
theorem od_Mo_numbers_39 : decode prog_11_method_17_code 39 = .ok (.invokevirtual 172, 3) := by decide +kernel
theorem od_Mo_numbers_42 : decode prog_11_method_17_code 42 = .ok (.ifCond .eq (7), 3) := by decide +kernel
theorem od_Mo_numbers_45 : decode prog_11_method_17_code 45 = .ok (.iconst 1, 1) := by decide +kernel
theorem od_Mo_numbers_46 : decode prog_11_method_17_code 46 = .ok (.goto (4), 3) := by decide +kernel
theorem od_Mo_numbers_49 : decode prog_11_method_17_code 49 = .ok (.iconst 0, 1) := by decide +kernel
theorem od_Mo_numbers_50 : decode prog_11_method_17_code 50 = .ok (.istore_n 1, 1) := by decide +kernel
theorem od_Mo_numbers_51 : decode prog_11_method_17_code 51 = .ok (.goto (-49), 3) := by decide +kernel
theorem od_Mo_numbers_54 : decode prog_11_method_17_code 54 = .ok (.iload_n 1, 1) := by decide +kernel
theorem od_Mo_numbers_55 : decode prog_11_method_17_code 55 = .ok (.ireturn, 1) := by decide +kernel
theorem od_Mo_part_0 : decode prog_11_method_4_code 0 = .ok (.iload_n 0, 1) := by decide +kernel
theorem od_Mo_part_1 : decode prog_11_method_4_code 1 = .ok (.tableswitch (389) (0) (13) #[71, 92, 115, 140, 165, 186, 207, 228, 249, 272, 295, 318, 343, 368], 71) := by decide +kernel
theorem od_Mo_part_72 : decode prog_11_method_4_code 72 = .ok (.iload_n 1, 1) := by decide +kernel
theorem od_Mo_part_73 : decode prog_11_method_4_code 73 = .ok (.ifCond .ne (9), 3) := by decide +kernel
theorem od_Mo_part_76 : decode prog_11_method_4_code 76 = .ok (.ldc2_w 60, 3) := by decide +kernel
theorem od_Mo_part_79 : decode prog_11_method_4_code 79 = .ok (.goto (13), 3) := by decide +kernel
theorem od_Mo_part_82 : decode prog_11_method_4_code 82 = .ok (.iload_n 1, 1) := by decide +kernel
theorem od_Mo_part_83 : decode prog_11_method_4_code 83 = .ok (.iconst 1, 1) := by decide +kernel
theorem od_Mo_part_84 : decode prog_11_method_4_code 84 = .ok (.if_icmp .ne (7), 3) := by decide +kernel
theorem od_Mo_part_87 : decode prog_11_method_4_code 87 = .ok (.lconst 0, 1) := by decide +kernel
theorem od_Mo_part_88 : decode prog_11_method_4_code 88 = .ok (.goto (4), 3) := by decide +kernel
theorem od_Mo_part_91 : decode prog_11_method_4_code 91 = .ok (.lconst 0, 1) := by decide +kernel
theorem od_Mo_part_92 : decode prog_11_method_4_code 92 = .ok (.lreturn, 1) := by decide +kernel
theorem od_Mo_part_93 : decode prog_11_method_4_code 93 = .ok (.iload_n 1, 1) := by decide +kernel
theorem od_Mo_part_94 : decode prog_11_method_4_code 94 = .ok (.ifCond .ne (9), 3) := by decide +kernel
theorem od_Mo_part_97 : decode prog_11_method_4_code 97 = .ok (.ldc2_w 62, 3) := by decide +kernel
theorem od_Mo_part_100 : decode prog_11_method_4_code 100 = .ok (.goto (15), 3) := by decide +kernel
theorem od_Mo_part_103 : decode prog_11_method_4_code 103 = .ok (.iload_n 1, 1) := by decide +kernel
theorem od_Mo_part_104 : decode prog_11_method_4_code 104 = .ok (.iconst 1, 1) := by decide +kernel
theorem od_Mo_part_105 : decode prog_11_method_4_code 105 = .ok (.if_icmp .ne (9), 3) := by decide +kernel
theorem od_Mo_part_108 : decode prog_11_method_4_code 108 = .ok (.ldc2_w 64, 3) := by decide +kernel
theorem od_Mo_part_111 : decode prog_11_method_4_code 111 = .ok (.goto (4), 3) := by decide +kernel
theorem od_Mo_part_114 : decode prog_11_method_4_code 114 = .ok (.lconst 0, 1) := by decide +kernel
theorem od_Mo_part_115 : decode prog_11_method_4_code 115 = .ok (.lreturn, 1) := by decide +kernel
theorem od_Mo_part_116 : decode prog_11_method_4_code 116 = .ok (.iload_n 1, 1) := by decide +kernel
theorem od_Mo_part_117 : decode prog_11_method_4_code 117 = .ok (.ifCond .ne (9), 3) := by decide +kernel
theorem od_Mo_part_120 : decode prog_11_method_4_code 120 = .ok (.ldc2_w 66, 3) := by decide +kernel
theorem od_Mo_part_123 : decode prog_11_method_4_code 123 = .ok (.goto (17), 3) := by decide +kernel
theorem od_Mo_part_126 : decode prog_11_method_4_code 126 = .ok (.iload_n 1, 1) := by decide +kernel
theorem od_Mo_part_127 : decode prog_11_method_4_code 127 = .ok (.iconst 1, 1) := by decide +kernel
theorem od_Mo_part_128 : decode prog_11_method_4_code 128 = .ok (.if_icmp .ne (9), 3) := by decide +kernel
theorem od_Mo_part_131 : decode prog_11_method_4_code 131 = .ok (.ldc2_w 68, 3) := by decide +kernel
theorem od_Mo_part_134 : decode prog_11_method_4_code 134 = .ok (.goto (6), 3) := by decide +kernel
theorem od_Mo_part_137 : decode prog_11_method_4_code 137 = .ok (.ldc2_w 70, 3) := by decide +kernel
theorem od_Mo_part_140 : decode prog_11_method_4_code 140 = .ok (.lreturn, 1) := by decide +kernel
theorem od_Mo_part_141 : decode prog_11_method_4_code 141 = .ok (.iload_n 1, 1) := by decide +kernel
theorem od_Mo_part_142 : decode prog_11_method_4_code 142 = .ok (.ifCond .ne (9), 3) := by decide +kernel
theorem od_Mo_part_145 : decode prog_11_method_4_code 145 = .ok (.ldc2_w 66, 3) := by decide +kernel
theorem od_Mo_part_148 : decode prog_11_method_4_code 148 = .ok (.goto (17), 3) := by decide +kernel
theorem od_Mo_part_151 : decode prog_11_method_4_code 151 = .ok (.iload_n 1, 1) := by decide +kernel
theorem od_Mo_part_152 : decode prog_11_method_4_code 152 = .ok (.iconst 1, 1) := by decide +kernel
theorem od_Mo_part_153 : decode prog_11_method_4_code 153 = .ok (.if_icmp .ne (9), 3) := by decide +kernel
theorem od_Mo_part_156 : decode prog_11_method_4_code 156 = .ok (.ldc2_w 72, 3) := by decide +kernel
theorem od_Mo_part_159 : decode prog_11_method_4_code 159 = .ok (.goto (6), 3) := by decide +kernel
theorem od_Mo_part_162 : decode prog_11_method_4_code 162 = .ok (.ldc2_w 74, 3) := by decide +kernel
theorem od_Mo_part_165 : decode prog_11_method_4_code 165 = .ok (.lreturn, 1) := by decide +kernel
theorem od_Mo_part_166 : decode prog_11_method_4_code 166 = .ok (.iload_n 1, 1) := by decide +kernel
theorem od_Mo_part_167 : decode prog_11_method_4_code 167 = .ok (.ifCond .ne (9), 3) := by decide +kernel
theorem od_Mo_part_170 : decode prog_11_method_4_code 170 = .ok (.ldc2_w 76, 3) := by decide +kernel
theorem od_Mo_part_173 : decode prog_11_method_4_code 173 = .ok (.goto (13), 3) := by decide +kernel
theorem od_Mo_part_176 : decode prog_11_method_4_code 176 = .ok (.iload_n 1, 1) := by decide +kernel
theorem od_Mo_part_177 : decode prog_11_method_4_code 177 = .ok (.iconst 1, 1) := by decide +kernel
theorem od_Mo_part_178 : decode prog_11_method_4_code 178 = .ok (.if_icmp .ne (7), 3) := by decide +kernel
theorem od_Mo_part_181 : decode prog_11_method_4_code 181 = .ok (.lconst 0, 1) := by decide +kernel
theorem od_Mo_part_182 : decode prog_11_method_4_code 182 = .ok (.goto (4), 3) := by decide +kernel
theorem od_Mo_part_185 : decode prog_11_method_4_code 185 = .ok (.lconst 0, 1) := by decide +kernel
theorem od_Mo_part_186 : decode prog_11_method_4_code 186 = .ok (.lreturn, 1) := by decide +kernel
theorem od_Mo_part_187 : decode prog_11_method_4_code 187 = .ok (.iload_n 1, 1) := by decide +kernel
theorem od_Mo_part_188 : decode prog_11_method_4_code 188 = .ok (.ifCond .ne (9), 3) := by decide +kernel
theorem od_Mo_part_191 : decode prog_11_method_4_code 191 = .ok (.ldc2_w 78, 3) := by decide +kernel
theorem od_Mo_part_194 : decode prog_11_method_4_code 194 = .ok (.goto (13), 3) := by decide +kernel
theorem od_Mo_part_197 : decode prog_11_method_4_code 197 = .ok (.iload_n 1, 1) := by decide +kernel
theorem od_Mo_part_198 : decode prog_11_method_4_code 198 = .ok (.iconst 1, 1) := by decide +kernel
theorem od_Mo_part_199 : decode prog_11_method_4_code 199 = .ok (.if_icmp .ne (7), 3) := by decide +kernel
theorem od_Mo_part_202 : decode prog_11_method_4_code 202 = .ok (.lconst 0, 1) := by decide +kernel
theorem od_Mo_part_203 : decode prog_11_method_4_code 203 = .ok (.goto (4), 3) := by decide +kernel
theorem od_Mo_part_206 : decode prog_11_method_4_code 206 = .ok (.lconst 0, 1) := by decide +kernel
theorem od_Mo_part_207 : decode prog_11_method_4_code 207 = .ok (.lreturn, 1) := by decide +kernel
theorem od_Mo_part_208 : decode prog_11_method_4_code 208 = .ok (.iload_n 1, 1) := by decide +kernel
theorem od_Mo_part_209 : decode prog_11_method_4_code 209 = .ok (.ifCond .ne (9), 3) := by decide +kernel
theorem od_Mo_part_212 : decode prog_11_method_4_code 212 = .ok (.ldc2_w 80, 3) := by decide +kernel
theorem od_Mo_part_215 : decode prog_11_method_4_code 215 = .ok (.goto (13), 3) := by decide +kernel
theorem od_Mo_part_218 : decode prog_11_method_4_code 218 = .ok (.iload_n 1, 1) := by decide +kernel
theorem od_Mo_part_219 : decode prog_11_method_4_code 219 = .ok (.iconst 1, 1) := by decide +kernel
theorem od_Mo_part_220 : decode prog_11_method_4_code 220 = .ok (.if_icmp .ne (7), 3) := by decide +kernel
theorem od_Mo_part_223 : decode prog_11_method_4_code 223 = .ok (.lconst 0, 1) := by decide +kernel
theorem od_Mo_part_224 : decode prog_11_method_4_code 224 = .ok (.goto (4), 3) := by decide +kernel
theorem od_Mo_part_227 : decode prog_11_method_4_code 227 = .ok (.lconst 0, 1) := by decide +kernel
theorem od_Mo_part_228 : decode prog_11_method_4_code 228 = .ok (.lreturn, 1) := by decide +kernel
theorem od_Mo_part_229 : decode prog_11_method_4_code 229 = .ok (.iload_n 1, 1) := by decide +kernel
theorem od_Mo_part_230 : decode prog_11_method_4_code 230 = .ok (.ifCond .ne (9), 3) := by decide +kernel
theorem od_Mo_part_233 : decode prog_11_method_4_code 233 = .ok (.ldc2_w 82, 3) := by decide +kernel
theorem od_Mo_part_236 : decode prog_11_method_4_code 236 = .ok (.goto (13), 3) := by decide +kernel
theorem od_Mo_part_239 : decode prog_11_method_4_code 239 = .ok (.iload_n 1, 1) := by decide +kernel
theorem od_Mo_part_240 : decode prog_11_method_4_code 240 = .ok (.iconst 1, 1) := by decide +kernel
theorem od_Mo_part_241 : decode prog_11_method_4_code 241 = .ok (.if_icmp .ne (7), 3) := by decide +kernel
theorem od_Mo_part_244 : decode prog_11_method_4_code 244 = .ok (.lconst 0, 1) := by decide +kernel
theorem od_Mo_part_245 : decode prog_11_method_4_code 245 = .ok (.goto (4), 3) := by decide +kernel
theorem od_Mo_part_248 : decode prog_11_method_4_code 248 = .ok (.lconst 0, 1) := by decide +kernel
theorem od_Mo_part_249 : decode prog_11_method_4_code 249 = .ok (.lreturn, 1) := by decide +kernel
theorem od_Mo_part_250 : decode prog_11_method_4_code 250 = .ok (.iload_n 1, 1) := by decide +kernel
theorem od_Mo_part_251 : decode prog_11_method_4_code 251 = .ok (.ifCond .ne (9), 3) := by decide +kernel
theorem od_Mo_part_254 : decode prog_11_method_4_code 254 = .ok (.ldc2_w 84, 3) := by decide +kernel
theorem od_Mo_part_257 : decode prog_11_method_4_code 257 = .ok (.goto (15), 3) := by decide +kernel
theorem od_Mo_part_260 : decode prog_11_method_4_code 260 = .ok (.iload_n 1, 1) := by decide +kernel
theorem od_Mo_part_261 : decode prog_11_method_4_code 261 = .ok (.iconst 1, 1) := by decide +kernel
theorem od_Mo_part_262 : decode prog_11_method_4_code 262 = .ok (.if_icmp .ne (9), 3) := by decide +kernel
theorem od_Mo_part_265 : decode prog_11_method_4_code 265 = .ok (.ldc2_w 86, 3) := by decide +kernel
theorem od_Mo_part_268 : decode prog_11_method_4_code 268 = .ok (.goto (4), 3) := by decide +kernel
theorem od_Mo_part_271 : decode prog_11_method_4_code 271 = .ok (.lconst 0, 1) := by decide +kernel
theorem od_Mo_part_272 : decode prog_11_method_4_code 272 = .ok (.lreturn, 1) := by decide +kernel
theorem od_Mo_part_273 : decode prog_11_method_4_code 273 = .ok (.iload_n 1, 1) := by decide +kernel
theorem od_Mo_part_274 : decode prog_11_method_4_code 274 = .ok (.ifCond .ne (9), 3) := by decide +kernel
theorem od_Mo_part_277 : decode prog_11_method_4_code 277 = .ok (.ldc2_w 88, 3) := by decide +kernel
theorem od_Mo_part_280 : decode prog_11_method_4_code 280 = .ok (.goto (15), 3) := by decide +kernel
theorem od_Mo_part_283 : decode prog_11_method_4_code 283 = .ok (.iload_n 1, 1) := by decide +kernel
theorem od_Mo_part_284 : decode prog_11_method_4_code 284 = .ok (.iconst 1, 1) := by decide +kernel
theorem od_Mo_part_285 : decode prog_11_method_4_code 285 = .ok (.if_icmp .ne (9), 3) := by decide +kernel
theorem od_Mo_part_288 : decode prog_11_method_4_code 288 = .ok (.ldc2_w 90, 3) := by decide +kernel
theorem od_Mo_part_291 : decode prog_11_method_4_code 291 = .ok (.goto (4), 3) := by decide +kernel
theorem od_Mo_part_294 : decode prog_11_method_4_code 294 = .ok (.lconst 0, 1) := by decide +kernel
theorem od_Mo_part_295 : decode prog_11_method_4_code 295 = .ok (.lreturn, 1) := by decide +kernel
theorem od_Mo_part_296 : decode prog_11_method_4_code 296 = .ok (.iload_n 1, 1) := by decide +kernel
theorem od_Mo_part_297 : decode prog_11_method_4_code 297 = .ok (.ifCond .ne (9), 3) := by decide +kernel
theorem od_Mo_part_300 : decode prog_11_method_4_code 300 = .ok (.ldc2_w 92, 3) := by decide +kernel
theorem od_Mo_part_303 : decode prog_11_method_4_code 303 = .ok (.goto (15), 3) := by decide +kernel
theorem od_Mo_part_306 : decode prog_11_method_4_code 306 = .ok (.iload_n 1, 1) := by decide +kernel
theorem od_Mo_part_307 : decode prog_11_method_4_code 307 = .ok (.iconst 1, 1) := by decide +kernel
theorem od_Mo_part_308 : decode prog_11_method_4_code 308 = .ok (.if_icmp .ne (9), 3) := by decide +kernel
theorem od_Mo_part_311 : decode prog_11_method_4_code 311 = .ok (.ldc2_w 94, 3) := by decide +kernel
theorem od_Mo_part_314 : decode prog_11_method_4_code 314 = .ok (.goto (4), 3) := by decide +kernel
theorem od_Mo_part_317 : decode prog_11_method_4_code 317 = .ok (.lconst 0, 1) := by decide +kernel
theorem od_Mo_part_318 : decode prog_11_method_4_code 318 = .ok (.lreturn, 1) := by decide +kernel
theorem od_Mo_part_319 : decode prog_11_method_4_code 319 = .ok (.iload_n 1, 1) := by decide +kernel
theorem od_Mo_part_320 : decode prog_11_method_4_code 320 = .ok (.ifCond .ne (9), 3) := by decide +kernel
theorem od_Mo_part_323 : decode prog_11_method_4_code 323 = .ok (.ldc2_w 66, 3) := by decide +kernel
theorem od_Mo_part_326 : decode prog_11_method_4_code 326 = .ok (.goto (17), 3) := by decide +kernel
theorem od_Mo_part_329 : decode prog_11_method_4_code 329 = .ok (.iload_n 1, 1) := by decide +kernel
theorem od_Mo_part_330 : decode prog_11_method_4_code 330 = .ok (.iconst 1, 1) := by decide +kernel
theorem od_Mo_part_331 : decode prog_11_method_4_code 331 = .ok (.if_icmp .ne (9), 3) := by decide +kernel
theorem od_Mo_part_334 : decode prog_11_method_4_code 334 = .ok (.ldc2_w 96, 3) := by decide +kernel
theorem od_Mo_part_337 : decode prog_11_method_4_code 337 = .ok (.goto (6), 3) := by decide +kernel
theorem od_Mo_part_340 : decode prog_11_method_4_code 340 = .ok (.ldc2_w 98, 3) := by decide +kernel
theorem od_Mo_part_343 : decode prog_11_method_4_code 343 = .ok (.lreturn, 1) := by decide +kernel
theorem od_Mo_part_344 : decode prog_11_method_4_code 344 = .ok (.iload_n 1, 1) := by decide +kernel
theorem od_Mo_part_345 : decode prog_11_method_4_code 345 = .ok (.ifCond .ne (9), 3) := by decide +kernel
theorem od_Mo_part_348 : decode prog_11_method_4_code 348 = .ok (.ldc2_w 100, 3) := by decide +kernel
theorem od_Mo_part_351 : decode prog_11_method_4_code 351 = .ok (.goto (17), 3) := by decide +kernel
theorem od_Mo_part_354 : decode prog_11_method_4_code 354 = .ok (.iload_n 1, 1) := by decide +kernel
theorem od_Mo_part_355 : decode prog_11_method_4_code 355 = .ok (.iconst 1, 1) := by decide +kernel
theorem od_Mo_part_356 : decode prog_11_method_4_code 356 = .ok (.if_icmp .ne (9), 3) := by decide +kernel
theorem od_Mo_part_359 : decode prog_11_method_4_code 359 = .ok (.ldc2_w 102, 3) := by decide +kernel
theorem od_Mo_part_362 : decode prog_11_method_4_code 362 = .ok (.goto (6), 3) := by decide +kernel
theorem od_Mo_part_365 : decode prog_11_method_4_code 365 = .ok (.ldc2_w 104, 3) := by decide +kernel
theorem od_Mo_part_368 : decode prog_11_method_4_code 368 = .ok (.lreturn, 1) := by decide +kernel
theorem od_Mo_part_369 : decode prog_11_method_4_code 369 = .ok (.iload_n 1, 1) := by decide +kernel
theorem od_Mo_part_370 : decode prog_11_method_4_code 370 = .ok (.ifCond .ne (9), 3) := by decide +kernel
theorem od_Mo_part_373 : decode prog_11_method_4_code 373 = .ok (.ldc2_w 106, 3) := by decide +kernel
theorem od_Mo_part_376 : decode prog_11_method_4_code 376 = .ok (.goto (13), 3) := by decide +kernel
theorem od_Mo_part_379 : decode prog_11_method_4_code 379 = .ok (.iload_n 1, 1) := by decide +kernel
theorem od_Mo_part_380 : decode prog_11_method_4_code 380 = .ok (.iconst 1, 1) := by decide +kernel
theorem od_Mo_part_381 : decode prog_11_method_4_code 381 = .ok (.if_icmp .ne (7), 3) := by decide +kernel
theorem od_Mo_part_384 : decode prog_11_method_4_code 384 = .ok (.lconst 0, 1) := by decide +kernel
theorem od_Mo_part_385 : decode prog_11_method_4_code 385 = .ok (.goto (4), 3) := by decide +kernel
theorem od_Mo_part_388 : decode prog_11_method_4_code 388 = .ok (.lconst 0, 1) := by decide +kernel
theorem od_Mo_part_389 : decode prog_11_method_4_code 389 = .ok (.lreturn, 1) := by decide +kernel
theorem od_Mo_part_390 : decode prog_11_method_4_code 390 = .ok (.lconst 0, 1) := by decide +kernel
theorem od_Mo_part_391 : decode prog_11_method_4_code 391 = .ok (.lreturn, 1) := by decide +kernel
theorem od_Mo_letter_0 : decode prog_11_method_5_code 0 = .ok (.iload_n 1, 1) := by decide +kernel
theorem od_Mo_letter_1 : decode prog_11_method_5_code 1 = .ok (.bipush (23), 2) := by decide +kernel
theorem od_Mo_letter_3 : decode prog_11_method_5_code 3 = .ok (.if_icmp .le (7), 3) := by decide +kernel
theorem od_Mo_letter_6 : decode prog_11_method_5_code 6 = .ok (.iconst 0, 1) := by decide +kernel
theorem od_Mo_letter_7 : decode prog_11_method_5_code 7 = .ok (.goto (24), 3) := by decide +kernel
theorem od_Mo_letter_10 : decode prog_11_method_5_code 10 = .ok (.iload_n 0, 1) := by decide +kernel
theorem od_Mo_letter_11 : decode prog_11_method_5_code 11 = .ok (.iload_n 1, 1) := by decide +kernel
theorem od_Mo_letter_12 : decode prog_11_method_5_code 12 = .ok (.bipush (8), 2) := by decide +kernel
theorem od_Mo_letter_14 : decode prog_11_method_5_code 14 = .ok (.idiv, 1) := by decide +kernel
theorem od_Mo_letter_15 : decode prog_11_method_5_code 15 = .ok (.invokestatic 108, 3) := by decide +kernel
theorem od_Mo_letter_18 : decode prog_11_method_5_code 18 = .ok (.bipush (8), 2) := by decide +kernel
theorem od_Mo_letter_20 : decode prog_11_method_5_code 20 = .ok (.iload_n 1, 1) := by decide +kernel
theorem od_Mo_letter_21 : decode prog_11_method_5_code 21 = .ok (.bipush (8), 2) := by decide +kernel
theorem od_Mo_letter_23 : decode prog_11_method_5_code 23 = .ok (.irem, 1) := by decide +kernel
theorem od_Mo_letter_24 : decode prog_11_method_5_code 24 = .ok (.imul, 1) := by decide +kernel
theorem od_Mo_letter_25 : decode prog_11_method_5_code 25 = .ok (.lshr, 1) := by decide +kernel
theorem od_Mo_letter_26 : decode prog_11_method_5_code 26 = .ok (.ldc2_w 54, 3) := by decide +kernel
theorem od_Mo_letter_29 : decode prog_11_method_5_code 29 = .ok (.land, 1) := by decide +kernel
theorem od_Mo_letter_30 : decode prog_11_method_5_code 30 = .ok (.l2i, 1) := by decide +kernel
theorem od_Mo_letter_31 : decode prog_11_method_5_code 31 = .ok (.ireturn, 1) := by decide +kernel
theorem od_Mo_begins_0 : decode prog_11_method_7_code 0 = .ok (.iconst 0, 1) := by decide +kernel
theorem od_Mo_begins_1 : decode prog_11_method_7_code 1 = .ok (.istore_n 3, 1) := by decide +kernel
theorem od_Mo_begins_2 : decode prog_11_method_7_code 2 = .ok (.iload_n 1, 1) := by decide +kernel
theorem od_Mo_begins_3 : decode prog_11_method_7_code 3 = .ok (.iload_n 3, 1) := by decide +kernel
theorem od_Mo_begins_4 : decode prog_11_method_7_code 4 = .ok (.invokestatic 121, 3) := by decide +kernel
theorem od_Mo_begins_7 : decode prog_11_method_7_code 7 = .ok (.ifCond .eq (37), 3) := by decide +kernel
theorem od_Mo_begins_10 : decode prog_11_method_7_code 10 = .ok (.iload_n 2, 1) := by decide +kernel
theorem od_Mo_begins_11 : decode prog_11_method_7_code 11 = .ok (.iload_n 3, 1) := by decide +kernel
theorem od_Mo_begins_12 : decode prog_11_method_7_code 12 = .ok (.iadd, 1) := by decide +kernel
theorem od_Mo_begins_13 : decode prog_11_method_7_code 13 = .ok (.aload_n 0, 1) := by decide +kernel
theorem od_Mo_begins_14 : decode prog_11_method_7_code 14 = .ok (.getfield 115, 3) := by decide +kernel
theorem od_Mo_begins_17 : decode prog_11_method_7_code 17 = .ok (.if_icmp .ge (19), 3) := by decide +kernel
theorem od_Mo_begins_20 : decode prog_11_method_7_code 20 = .ok (.aload_n 0, 1) := by decide +kernel
theorem od_Mo_begins_21 : decode prog_11_method_7_code 21 = .ok (.getfield 7, 3) := by decide +kernel
theorem od_Mo_begins_24 : decode prog_11_method_7_code 24 = .ok (.iload_n 2, 1) := by decide +kernel
theorem od_Mo_begins_25 : decode prog_11_method_7_code 25 = .ok (.iload_n 3, 1) := by decide +kernel
theorem od_Mo_begins_26 : decode prog_11_method_7_code 26 = .ok (.iadd, 1) := by decide +kernel
