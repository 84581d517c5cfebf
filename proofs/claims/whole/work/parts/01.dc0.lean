theorem od_Text_byteOf_0 : decode prog_8_method_4_code 0 = .ok (.lload_n 0, 1) := by decide +kernel
theorem od_Text_byteOf_1 : decode prog_8_method_4_code 1 = .ok (.bipush (8), 2) := by decide +kernel
theorem od_Text_byteOf_3 : decode prog_8_method_4_code 3 = .ok (.iload_n 2, 1) := by decide +kernel
theorem od_Text_byteOf_4 : decode prog_8_method_4_code 4 = .ok (.imul, 1) := by decide +kernel
theorem od_Text_byteOf_5 : decode prog_8_method_4_code 5 = .ok (.lushr, 1) := by decide +kernel
theorem od_Text_byteOf_6 : decode prog_8_method_4_code 6 = .ok (.l2i, 1) := by decide +kernel
theorem od_Text_byteOf_7 : decode prog_8_method_4_code 7 = .ok (.sipush (255), 3) := by decide +kernel
theorem od_Text_byteOf_10 : decode prog_8_method_4_code 10 = .ok (.iand, 1) := by decide +kernel
theorem od_Text_byteOf_11 : decode prog_8_method_4_code 11 = .ok (.ireturn, 1) := by decide +kernel
theorem od_Text_countGood_0 : decode prog_8_method_3_code 0 = .ok (.iconst 0, 1) := by decide +kernel
theorem od_Text_countGood_1 : decode prog_8_method_3_code 1 = .ok (.istore_n 2, 1) := by decide +kernel
theorem od_Text_countGood_2 : decode prog_8_method_3_code 2 = .ok (.iconst 0, 1) := by decide +kernel
theorem od_Text_countGood_3 : decode prog_8_method_3_code 3 = .ok (.istore_n 3, 1) := by decide +kernel
theorem od_Text_countGood_4 : decode prog_8_method_3_code 4 = .ok (.iload_n 3, 1) := by decide +kernel
theorem od_Text_countGood_5 : decode prog_8_method_3_code 5 = .ok (.bipush (8), 2) := by decide +kernel
theorem od_Text_countGood_7 : decode prog_8_method_3_code 7 = .ok (.if_icmp .ge (50), 3) := by decide +kernel
theorem od_Text_countGood_10 : decode prog_8_method_3_code 10 = .ok (.lload_n 0, 1) := by decide +kernel
theorem od_Text_countGood_11 : decode prog_8_method_3_code 11 = .ok (.iload_n 3, 1) := by decide +kernel
theorem od_Text_countGood_12 : decode prog_8_method_3_code 12 = .ok (.invokestatic 23, 3) := by decide +kernel
theorem od_Text_countGood_15 : decode prog_8_method_3_code 15 = .ok (.istore 4, 2) := by decide +kernel
theorem od_Text_countGood_17 : decode prog_8_method_3_code 17 = .ok (.iload 4, 2) := by decide +kernel
theorem od_Text_countGood_19 : decode prog_8_method_3_code 19 = .ok (.bipush (10), 2) := by decide +kernel
theorem od_Text_countGood_21 : decode prog_8_method_3_code 21 = .ok (.if_icmp .eq (17), 3) := by decide +kernel
theorem od_Text_countGood_24 : decode prog_8_method_3_code 24 = .ok (.iload 4, 2) := by decide +kernel
theorem od_Text_countGood_26 : decode prog_8_method_3_code 26 = .ok (.bipush (32), 2) := by decide +kernel
theorem od_Text_countGood_28 : decode prog_8_method_3_code 28 = .ok (.if_icmp .lt (16), 3) := by decide +kernel
theorem od_Text_countGood_31 : decode prog_8_method_3_code 31 = .ok (.iload 4, 2) := by decide +kernel
theorem od_Text_countGood_33 : decode prog_8_method_3_code 33 = .ok (.bipush (126), 2) := by decide +kernel
theorem od_Text_countGood_35 : decode prog_8_method_3_code 35 = .ok (.if_icmp .gt (9), 3) := by decide +kernel
theorem od_Text_countGood_38 : decode prog_8_method_3_code 38 = .ok (.iinc 2 (1), 3) := by decide +kernel
theorem od_Text_countGood_41 : decode prog_8_method_3_code 41 = .ok (.goto (10), 3) := by decide +kernel
theorem od_Text_countGood_44 : decode prog_8_method_3_code 44 = .ok (.iload 4, 2) := by decide +kernel
theorem od_Text_countGood_46 : decode prog_8_method_3_code 46 = .ok (.ifCond .eq (5), 3) := by decide +kernel
theorem od_Text_countGood_49 : decode prog_8_method_3_code 49 = .ok (.iconst (-1), 1) := by decide +kernel
theorem od_Text_countGood_50 : decode prog_8_method_3_code 50 = .ok (.ireturn, 1) := by decide +kernel
theorem od_Text_countGood_51 : decode prog_8_method_3_code 51 = .ok (.iinc 3 (1), 3) := by decide +kernel
theorem od_Text_countGood_54 : decode prog_8_method_3_code 54 = .ok (.goto (-50), 3) := by decide +kernel
theorem od_Text_countGood_57 : decode prog_8_method_3_code 57 = .ok (.iload_n 2, 1) := by decide +kernel
theorem od_Text_countGood_58 : decode prog_8_method_3_code 58 = .ok (.ireturn, 1) := by decide +kernel
theorem od_Text_append_0 : decode prog_8_method_2_code 0 = .ok (.lload_n 1, 1) := by decide +kernel
theorem od_Text_append_1 : decode prog_8_method_2_code 1 = .ok (.invokestatic 19, 3) := by decide +kernel
theorem od_Text_append_4 : decode prog_8_method_2_code 4 = .ok (.istore_n 3, 1) := by decide +kernel
theorem od_Text_append_5 : decode prog_8_method_2_code 5 = .ok (.iload_n 3, 1) := by decide +kernel
theorem od_Text_append_6 : decode prog_8_method_2_code 6 = .ok (.ifCond .lt (15), 3) := by decide +kernel
theorem od_Text_append_9 : decode prog_8_method_2_code 9 = .ok (.aload_n 0, 1) := by decide +kernel
theorem od_Text_append_10 : decode prog_8_method_2_code 10 = .ok (.getfield 15, 3) := by decide +kernel
theorem od_Text_append_13 : decode prog_8_method_2_code 13 = .ok (.iload_n 3, 1) := by decide +kernel
theorem od_Text_append_14 : decode prog_8_method_2_code 14 = .ok (.iadd, 1) := by decide +kernel
theorem od_Text_append_15 : decode prog_8_method_2_code 15 = .ok (.sipush (480), 3) := by decide +kernel
theorem od_Text_append_18 : decode prog_8_method_2_code 18 = .ok (.if_icmp .le (5), 3) := by decide +kernel
theorem od_Text_append_21 : decode prog_8_method_2_code 21 = .ok (.iconst 0, 1) := by decide +kernel
theorem od_Text_append_22 : decode prog_8_method_2_code 22 = .ok (.ireturn, 1) := by decide +kernel
theorem od_Text_append_23 : decode prog_8_method_2_code 23 = .ok (.iconst 0, 1) := by decide +kernel
theorem od_Text_append_24 : decode prog_8_method_2_code 24 = .ok (.istore 4, 2) := by decide +kernel
theorem od_Text_append_26 : decode prog_8_method_2_code 26 = .ok (.iload 4, 2) := by decide +kernel
theorem od_Text_append_28 : decode prog_8_method_2_code 28 = .ok (.bipush (8), 2) := by decide +kernel
theorem od_Text_append_30 : decode prog_8_method_2_code 30 = .ok (.if_icmp .ge (44), 3) := by decide +kernel
theorem od_Text_append_33 : decode prog_8_method_2_code 33 = .ok (.lload_n 1, 1) := by decide +kernel
theorem od_Text_append_34 : decode prog_8_method_2_code 34 = .ok (.iload 4, 2) := by decide +kernel
theorem od_Text_append_36 : decode prog_8_method_2_code 36 = .ok (.invokestatic 23, 3) := by decide +kernel
theorem od_Text_append_39 : decode prog_8_method_2_code 39 = .ok (.istore 5, 2) := by decide +kernel
theorem od_Text_append_41 : decode prog_8_method_2_code 41 = .ok (.iload 5, 2) := by decide +kernel
theorem od_Text_append_43 : decode prog_8_method_2_code 43 = .ok (.ifCond .eq (25), 3) := by decide +kernel
theorem od_Text_append_46 : decode prog_8_method_2_code 46 = .ok (.aload_n 0, 1) := by decide +kernel
theorem od_Text_append_47 : decode prog_8_method_2_code 47 = .ok (.getfield 9, 3) := by decide +kernel
theorem od_Text_append_50 : decode prog_8_method_2_code 50 = .ok (.aload_n 0, 1) := by decide +kernel
theorem od_Text_append_51 : decode prog_8_method_2_code 51 = .ok (.getfield 15, 3) := by decide +kernel
theorem od_Text_append_54 : decode prog_8_method_2_code 54 = .ok (.iload 5, 2) := by decide +kernel
theorem od_Text_append_56 : decode prog_8_method_2_code 56 = .ok (.i2c, 1) := by decide +kernel
theorem od_Text_append_57 : decode prog_8_method_2_code 57 = .ok (.castore, 1) := by decide +kernel
theorem od_Text_append_58 : decode prog_8_method_2_code 58 = .ok (.aload_n 0, 1) := by decide +kernel
theorem od_Text_append_59 : decode prog_8_method_2_code 59 = .ok (.dup, 1) := by decide +kernel
theorem od_Text_append_60 : decode prog_8_method_2_code 60 = .ok (.getfield 15, 3) := by decide +kernel
theorem od_Text_append_63 : decode prog_8_method_2_code 63 = .ok (.iconst 1, 1) := by decide +kernel
theorem od_Text_append_64 : decode prog_8_method_2_code 64 = .ok (.iadd, 1) := by decide +kernel
theorem od_Text_append_65 : decode prog_8_method_2_code 65 = .ok (.putfield 15, 3) := by decide +kernel
theorem od_Text_append_68 : decode prog_8_method_2_code 68 = .ok (.iinc 4 (1), 3) := by decide +kernel
theorem od_Text_append_71 : decode prog_8_method_2_code 71 = .ok (.goto (-45), 3) := by decide +kernel
theorem od_Text_append_74 : decode prog_8_method_2_code 74 = .ok (.iconst 1, 1) := by decide +kernel
theorem od_Text_append_75 : decode prog_8_method_2_code 75 = .ok (.ireturn, 1) := by decide +kernel
theorem od_T_write_0 : decode prog_1_method_2_code 0 = .ok (.aload_n 0, 1) := by decide +kernel
theorem od_T_write_1 : decode prog_1_method_2_code 1 = .ok (.getfield 10, 3) := by decide +kernel
theorem od_T_write_4 : decode prog_1_method_2_code 4 = .ok (.lload_n 1, 1) := by decide +kernel
theorem od_T_write_5 : decode prog_1_method_2_code 5 = .ok (.invokevirtual 62, 3) := by decide +kernel
theorem od_T_write_8 : decode prog_1_method_2_code 8 = .ok (.ireturn, 1) := by decide +kernel
theorem od_T_wipe_0 : decode prog_1_method_3_code 0 = .ok (.aload_n 0, 1) := by decide +kernel
theorem od_T_wipe_1 : decode prog_1_method_3_code 1 = .ok (.getfield 10, 3) := by decide +kernel
theorem od_T_wipe_4 : decode prog_1_method_3_code 4 = .ok (.iconst 0, 1) := by decide +kernel
theorem od_T_wipe_5 : decode prog_1_method_3_code 5 = .ok (.putfield 66, 3) := by decide +kernel
theorem od_T_wipe_8 : decode prog_1_method_3_code 8 = .ok (.return_, 1) := by decide +kernel
theorem od_Reader_begin_0 : decode prog_6_method_3_code 0 = .ok (.aload_n 0, 1) := by decide +kernel
theorem od_Reader_begin_1 : decode prog_6_method_3_code 1 = .ok (.iconst 0, 1) := by decide +kernel
theorem od_Reader_begin_2 : decode prog_6_method_3_code 2 = .ok (.putfield 11, 3) := by decide +kernel
theorem od_Reader_begin_5 : decode prog_6_method_3_code 5 = .ok (.aload_n 0, 1) := by decide +kernel
theorem od_Reader_begin_6 : decode prog_6_method_3_code 6 = .ok (.iconst 0, 1) := by decide +kernel
theorem od_Reader_begin_7 : decode prog_6_method_3_code 7 = .ok (.putfield 34, 3) := by decide +kernel
theorem od_Reader_begin_10 : decode prog_6_method_3_code 10 = .ok (.aload_n 0, 1) := by decide +kernel
theorem od_Reader_begin_11 : decode prog_6_method_3_code 11 = .ok (.iconst 0, 1) := by decide +kernel
theorem od_Reader_begin_12 : decode prog_6_method_3_code 12 = .ok (.putfield 15, 3) := by decide +kernel
theorem od_Reader_begin_15 : decode prog_6_method_3_code 15 = .ok (.aload_n 0, 1) := by decide +kernel
theorem od_Reader_begin_16 : decode prog_6_method_3_code 16 = .ok (.iconst 0, 1) := by decide +kernel
theorem od_Reader_begin_17 : decode prog_6_method_3_code 17 = .ok (.putfield 18, 3) := by decide +kernel
theorem od_Reader_begin_20 : decode prog_6_method_3_code 20 = .ok (.aload_n 0, 1) := by decide +kernel
theorem od_Reader_begin_21 : decode prog_6_method_3_code 21 = .ok (.getfield 37, 3) := by decide +kernel
theorem od_Reader_begin_24 : decode prog_6_method_3_code 24 = .ok (.iconst 0, 1) := by decide +kernel
theorem od_Reader_begin_25 : decode prog_6_method_3_code 25 = .ok (.invokestatic 73, 3) := by decide +kernel
theorem od_Reader_begin_28 : decode prog_6_method_3_code 28 = .ok (.return_, 1) := by decide +kernel
theorem od_Line_part_0 : decode prog_4_method_2_code 0 = .ok (.aload_n 0, 1) := by decide +kernel
theorem od_Line_part_1 : decode prog_4_method_2_code 1 = .ok (.iload_n 1, 1) := by decide +kernel
theorem od_Line_part_2 : decode prog_4_method_2_code 2 = .ok (.putfield 18, 3) := by decide +kernel
theorem od_Line_part_5 : decode prog_4_method_2_code 5 = .ok (.aload_n 0, 1) := by decide +kernel
theorem od_Line_part_6 : decode prog_4_method_2_code 6 = .ok (.iload_n 2, 1) := by decide +kernel
theorem od_Line_part_7 : decode prog_4_method_2_code 7 = .ok (.putfield 22, 3) := by decide +kernel
theorem od_Line_part_10 : decode prog_4_method_2_code 10 = .ok (.aload_n 0, 1) := by decide +kernel
theorem od_Line_part_11 : decode prog_4_method_2_code 11 = .ok (.iconst 0, 1) := by decide +kernel
theorem od_Line_part_12 : decode prog_4_method_2_code 12 = .ok (.putfield 25, 3) := by decide +kernel
theorem od_Line_part_15 : decode prog_4_method_2_code 15 = .ok (.aload_n 0, 1) := by decide +kernel
theorem od_Line_part_16 : decode prog_4_method_2_code 16 = .ok (.getfield 18, 3) := by decide +kernel
theorem od_Line_part_19 : decode prog_4_method_2_code 19 = .ok (.istore_n 3, 1) := by decide +kernel
theorem od_Line_part_20 : decode prog_4_method_2_code 20 = .ok (.iload_n 3, 1) := by decide +kernel
theorem od_Line_part_21 : decode prog_4_method_2_code 21 = .ok (.aload_n 0, 1) := by decide +kernel
theorem od_Line_part_22 : decode prog_4_method_2_code 22 = .ok (.getfield 22, 3) := by decide +kernel
theorem od_Line_part_25 : decode prog_4_method_2_code 25 = .ok (.if_icmp .ge (78), 3) := by decide +kernel
theorem od_Line_part_28 : decode prog_4_method_2_code 28 = .ok (.aload_n 0, 1) := by decide +kernel
theorem od_Line_part_29 : decode prog_4_method_2_code 29 = .ok (.getfield 34, 3) := by decide +kernel
theorem od_Line_part_32 : decode prog_4_method_2_code 32 = .ok (.iload_n 3, 1) := by decide +kernel
theorem od_Line_part_33 : decode prog_4_method_2_code 33 = .ok (.caload, 1) := by decide +kernel
theorem od_Line_part_34 : decode prog_4_method_2_code 34 = .ok (.bipush (32), 2) := by decide +kernel
theorem od_Line_part_36 : decode prog_4_method_2_code 36 = .ok (.if_icmp .ne (6), 3) := by decide +kernel
theorem od_Line_part_39 : decode prog_4_method_2_code 39 = .ok (.goto (58), 3) := by decide +kernel
theorem od_Line_part_42 : decode prog_4_method_2_code 42 = .ok (.iload_n 3, 1) := by decide +kernel
theorem od_Line_part_43 : decode prog_4_method_2_code 43 = .ok (.aload_n 0, 1) := by decide +kernel
theorem od_Line_part_44 : decode prog_4_method_2_code 44 = .ok (.getfield 18, 3) := by decide +kernel
theorem od_Line_part_47 : decode prog_4_method_2_code 47 = .ok (.if_icmp .eq (16), 3) := by decide +kernel
theorem od_Line_part_50 : decode prog_4_method_2_code 50 = .ok (.aload_n 0, 1) := by decide +kernel
theorem od_Line_part_51 : decode prog_4_method_2_code 51 = .ok (.getfield 34, 3) := by decide +kernel
theorem od_Line_part_54 : decode prog_4_method_2_code 54 = .ok (.iload_n 3, 1) := by decide +kernel
theorem od_Line_part_55 : decode prog_4_method_2_code 55 = .ok (.iconst 1, 1) := by decide +kernel
theorem od_Line_part_56 : decode prog_4_method_2_code 56 = .ok (.isub, 1) := by decide +kernel
theorem od_Line_part_57 : decode prog_4_method_2_code 57 = .ok (.caload, 1) := by decide +kernel
theorem od_Line_part_58 : decode prog_4_method_2_code 58 = .ok (.bipush (32), 2) := by decide +kernel
theorem od_Line_part_60 : decode prog_4_method_2_code 60 = .ok (.if_icmp .ne (23), 3) := by decide +kernel
theorem od_Line_part_63 : decode prog_4_method_2_code 63 = .ok (.aload_n 0, 1) := by decide +kernel
theorem od_Line_part_64 : decode prog_4_method_2_code 64 = .ok (.getfield 11, 3) := by decide +kernel
theorem od_Line_part_67 : decode prog_4_method_2_code 67 = .ok (.aload_n 0, 1) := by decide +kernel
theorem od_Line_part_68 : decode prog_4_method_2_code 68 = .ok (.getfield 25, 3) := by decide +kernel
theorem od_Line_part_71 : decode prog_4_method_2_code 71 = .ok (.iload_n 3, 1) := by decide +kernel
theorem od_Line_part_72 : decode prog_4_method_2_code 72 = .ok (.iastore, 1) := by decide +kernel
theorem od_Line_part_73 : decode prog_4_method_2_code 73 = .ok (.aload_n 0, 1) := by decide +kernel
theorem od_Line_part_74 : decode prog_4_method_2_code 74 = .ok (.dup, 1) := by decide +kernel
theorem od_Line_part_75 : decode prog_4_method_2_code 75 = .ok (.getfield 25, 3) := by decide +kernel
theorem od_Line_part_78 : decode prog_4_method_2_code 78 = .ok (.iconst 1, 1) := by decide +kernel
theorem od_Line_part_79 : decode prog_4_method_2_code 79 = .ok (.iadd, 1) := by decide +kernel
theorem od_Line_part_80 : decode prog_4_method_2_code 80 = .ok (.putfield 25, 3) := by decide +kernel
theorem od_Line_part_83 : decode prog_4_method_2_code 83 = .ok (.aload_n 0, 1) := by decide +kernel
theorem od_Line_part_84 : decode prog_4_method_2_code 84 = .ok (.getfield 15, 3) := by decide +kernel
theorem od_Line_part_87 : decode prog_4_method_2_code 87 = .ok (.aload_n 0, 1) := by decide +kernel
theorem od_Line_part_88 : decode prog_4_method_2_code 88 = .ok (.getfield 25, 3) := by decide +kernel
theorem od_Line_part_91 : decode prog_4_method_2_code 91 = .ok (.iconst 1, 1) := by decide +kernel
theorem od_Line_part_92 : decode prog_4_method_2_code 92 = .ok (.isub, 1) := by decide +kernel
theorem od_Line_part_93 : decode prog_4_method_2_code 93 = .ok (.iload_n 3, 1) := by decide +kernel
theorem od_Line_part_94 : decode prog_4_method_2_code 94 = .ok (.iconst 1, 1) := by decide +kernel
theorem od_Line_part_95 : decode prog_4_method_2_code 95 = .ok (.iadd, 1) := by decide +kernel
theorem od_Line_part_96 : decode prog_4_method_2_code 96 = .ok (.iastore, 1) := by decide +kernel
theorem od_Line_part_97 : decode prog_4_method_2_code 97 = .ok (.iinc 3 (1), 3) := by decide +kernel
theorem od_Line_part_100 : decode prog_4_method_2_code 100 = .ok (.goto (-80), 3) := by decide +kernel
theorem od_Line_part_103 : decode prog_4_method_2_code 103 = .ok (.return_, 1) := by decide +kernel
theorem od_Line_digits_0 : decode prog_4_method_8_code 0 = .ok (.iload_n 1, 1) := by decide +kernel
theorem od_Line_digits_1 : decode prog_4_method_8_code 1 = .ok (.iload_n 2, 1) := by decide +kernel
theorem od_Line_digits_2 : decode prog_4_method_8_code 2 = .ok (.if_icmp .ge (10), 3) := by decide +kernel
theorem od_Line_digits_5 : decode prog_4_method_8_code 5 = .ok (.iload_n 2, 1) := by decide +kernel
theorem od_Line_digits_6 : decode prog_4_method_8_code 6 = .ok (.iload_n 1, 1) := by decide +kernel
theorem od_Line_digits_7 : decode prog_4_method_8_code 7 = .ok (.isub, 1) := by decide +kernel
theorem od_Line_digits_8 : decode prog_4_method_8_code 8 = .ok (.iconst 4, 1) := by decide +kernel
theorem od_Line_digits_9 : decode prog_4_method_8_code 9 = .ok (.if_icmp .le (5), 3) := by decide +kernel
theorem od_Line_digits_12 : decode prog_4_method_8_code 12 = .ok (.iconst (-1), 1) := by decide +kernel
theorem od_Line_digits_13 : decode prog_4_method_8_code 13 = .ok (.ireturn, 1) := by decide +kernel
theorem od_Line_digits_14 : decode prog_4_method_8_code 14 = .ok (.iconst 0, 1) := by decide +kernel
theorem od_Line_digits_15 : decode prog_4_method_8_code 15 = .ok (.istore_n 3, 1) := by decide +kernel
theorem od_Line_digits_16 : decode prog_4_method_8_code 16 = .ok (.iload_n 1, 1) := by decide +kernel
theorem od_Line_digits_17 : decode prog_4_method_8_code 17 = .ok (.istore 4, 2) := by decide +kernel
theorem od_Line_digits_19 : decode prog_4_method_8_code 19 = .ok (.iload 4, 2) := by decide +kernel
theorem od_Line_digits_21 : decode prog_4_method_8_code 21 = .ok (.iload_n 2, 1) := by decide +kernel
theorem od_Line_digits_22 : decode prog_4_method_8_code 22 = .ok (.if_icmp .ge (45), 3) := by decide +kernel
theorem od_Line_digits_25 : decode prog_4_method_8_code 25 = .ok (.aload_n 0, 1) := by decide +kernel
theorem od_Line_digits_26 : decode prog_4_method_8_code 26 = .ok (.getfield 34, 3) := by decide +kernel
theorem od_Line_digits_29 : decode prog_4_method_8_code 29 = .ok (.iload 4, 2) := by decide +kernel
theorem od_Line_digits_31 : decode prog_4_method_8_code 31 = .ok (.caload, 1) := by decide +kernel
theorem od_Line_digits_32 : decode prog_4_method_8_code 32 = .ok (.istore 5, 2) := by decide +kernel
theorem od_Line_digits_34 : decode prog_4_method_8_code 34 = .ok (.iload 5, 2) := by decide +kernel
theorem od_Line_digits_36 : decode prog_4_method_8_code 36 = .ok (.bipush (48), 2) := by decide +kernel
theorem od_Line_digits_38 : decode prog_4_method_8_code 38 = .ok (.if_icmp .lt (10), 3) := by decide +kernel
theorem od_Line_digits_41 : decode prog_4_method_8_code 41 = .ok (.iload 5, 2) := by decide +kernel
theorem od_Line_digits_43 : decode prog_4_method_8_code 43 = .ok (.bipush (57), 2) := by decide +kernel
theorem od_Line_digits_45 : decode prog_4_method_8_code 45 = .ok (.if_icmp .le (5), 3) := by decide +kernel
theorem od_Line_digits_48 : decode prog_4_method_8_code 48 = .ok (.iconst (-1), 1) := by decide +kernel
theorem od_Line_digits_49 : decode prog_4_method_8_code 49 = .ok (.ireturn, 1) := by decide +kernel
theorem od_Line_digits_50 : decode prog_4_method_8_code 50 = .ok (.bipush (10), 2) := by decide +kernel
theorem od_Line_digits_52 : decode prog_4_method_8_code 52 = .ok (.iload_n 3, 1) := by decide +kernel
theorem od_Line_digits_53 : decode prog_4_method_8_code 53 = .ok (.imul, 1) := by decide +kernel
theorem od_Line_digits_54 : decode prog_4_method_8_code 54 = .ok (.iload 5, 2) := by decide +kernel
theorem od_Line_digits_56 : decode prog_4_method_8_code 56 = .ok (.bipush (48), 2) := by decide +kernel
theorem od_Line_digits_58 : decode prog_4_method_8_code 58 = .ok (.isub, 1) := by decide +kernel
theorem od_Line_digits_59 : decode prog_4_method_8_code 59 = .ok (.iadd, 1) := by decide +kernel
theorem od_Line_digits_60 : decode prog_4_method_8_code 60 = .ok (.istore_n 3, 1) := by decide +kernel
theorem od_Line_digits_61 : decode prog_4_method_8_code 61 = .ok (.iinc 4 (1), 3) := by decide +kernel
theorem od_Line_digits_64 : decode prog_4_method_8_code 64 = .ok (.goto (-45), 3) := by decide +kernel
theorem od_Line_digits_67 : decode prog_4_method_8_code 67 = .ok (.iload_n 3, 1) := by decide +kernel
theorem od_Line_digits_68 : decode prog_4_method_8_code 68 = .ok (.ireturn, 1) := by decide +kernel
theorem od_Line_number_0 : decode prog_4_method_5_code 0 = .ok (.iload_n 1, 1) := by decide +kernel
theorem od_Line_number_1 : decode prog_4_method_5_code 1 = .ok (.aload_n 0, 1) := by decide +kernel
theorem od_Line_number_2 : decode prog_4_method_5_code 2 = .ok (.getfield 25, 3) := by decide +kernel
theorem od_Line_number_5 : decode prog_4_method_5_code 5 = .ok (.if_icmp .lt (7), 3) := by decide +kernel
theorem od_Line_number_8 : decode prog_4_method_5_code 8 = .ok (.sipush (-10000), 3) := by decide +kernel
theorem od_Line_number_11 : decode prog_4_method_5_code 11 = .ok (.ireturn, 1) := by decide +kernel
theorem od_Line_number_12 : decode prog_4_method_5_code 12 = .ok (.aload_n 0, 1) := by decide +kernel
theorem od_Line_number_13 : decode prog_4_method_5_code 13 = .ok (.getfield 34, 3) := by decide +kernel
theorem od_Line_number_16 : decode prog_4_method_5_code 16 = .ok (.aload_n 0, 1) := by decide +kernel
theorem od_Line_number_17 : decode prog_4_method_5_code 17 = .ok (.getfield 11, 3) := by decide +kernel
theorem od_Line_number_20 : decode prog_4_method_5_code 20 = .ok (.iload_n 1, 1) := by decide +kernel
theorem od_Line_number_21 : decode prog_4_method_5_code 21 = .ok (.iaload, 1) := by decide +kernel
theorem od_Line_number_22 : decode prog_4_method_5_code 22 = .ok (.caload, 1) := by decide +kernel
theorem od_Line_number_23 : decode prog_4_method_5_code 23 = .ok (.bipush (45), 2) := by decide +kernel
theorem od_Line_number_25 : decode prog_4_method_5_code 25 = .ok (.if_icmp .ne (7), 3) := by decide +kernel
theorem od_Line_number_28 : decode prog_4_method_5_code 28 = .ok (.iconst 1, 1) := by decide +kernel
theorem od_Line_number_29 : decode prog_4_method_5_code 29 = .ok (.goto (4), 3) := by decide +kernel
theorem od_Line_number_32 : decode prog_4_method_5_code 32 = .ok (.iconst 0, 1) := by decide +kernel
theorem od_Line_number_33 : decode prog_4_method_5_code 33 = .ok (.istore_n 2, 1) := by decide +kernel
theorem od_Line_number_34 : decode prog_4_method_5_code 34 = .ok (.aload_n 0, 1) := by decide +kernel
theorem od_Line_number_35 : decode prog_4_method_5_code 35 = .ok (.iload_n 2, 1) := by decide +kernel
theorem od_Line_number_36 : decode prog_4_method_5_code 36 = .ok (.ifCond .eq (14), 3) := by decide +kernel
theorem od_Line_number_39 : decode prog_4_method_5_code 39 = .ok (.aload_n 0, 1) := by decide +kernel
theorem od_Line_number_40 : decode prog_4_method_5_code 40 = .ok (.getfield 11, 3) := by decide +kernel
theorem od_Line_number_43 : decode prog_4_method_5_code 43 = .ok (.iload_n 1, 1) := by decide +kernel
theorem od_Line_number_44 : decode prog_4_method_5_code 44 = .ok (.iaload, 1) := by decide +kernel
theorem od_Line_number_45 : decode prog_4_method_5_code 45 = .ok (.iconst 1, 1) := by decide +kernel
theorem od_Line_number_46 : decode prog_4_method_5_code 46 = .ok (.iadd, 1) := by decide +kernel
theorem od_Line_number_47 : decode prog_4_method_5_code 47 = .ok (.goto (9), 3) := by decide +kernel
theorem od_Line_number_50 : decode prog_4_method_5_code 50 = .ok (.aload_n 0, 1) := by decide +kernel
theorem od_Line_number_51 : decode prog_4_method_5_code 51 = .ok (.getfield 11, 3) := by decide +kernel
theorem od_Line_number_54 : decode prog_4_method_5_code 54 = .ok (.iload_n 1, 1) := by decide +kernel
theorem od_Line_number_55 : decode prog_4_method_5_code 55 = .ok (.iaload, 1) := by decide +kernel
theorem od_Line_number_56 : decode prog_4_method_5_code 56 = .ok (.aload_n 0, 1) := by decide +kernel
theorem od_Line_number_57 : decode prog_4_method_5_code 57 = .ok (.getfield 15, 3) := by decide +kernel
theorem od_Line_number_60 : decode prog_4_method_5_code 60 = .ok (.iload_n 1, 1) := by decide +kernel
theorem od_Line_number_61 : decode prog_4_method_5_code 61 = .ok (.iaload, 1) := by decide +kernel
theorem od_Line_number_62 : decode prog_4_method_5_code 62 = .ok (.invokevirtual 45, 3) := by decide +kernel
theorem od_Line_number_65 : decode prog_4_method_5_code 65 = .ok (.istore_n 3, 1) := by decide +kernel
theorem od_Line_number_66 : decode prog_4_method_5_code 66 = .ok (.iload_n 3, 1) := by decide +kernel
theorem od_Line_number_67 : decode prog_4_method_5_code 67 = .ok (.ifCond .ge (7), 3) := by decide +kernel
theorem od_Line_number_70 : decode prog_4_method_5_code 70 = .ok (.sipush (-10000), 3) := by decide +kernel
theorem od_Line_number_73 : decode prog_4_method_5_code 73 = .ok (.ireturn, 1) := by decide +kernel
theorem od_Line_number_74 : decode prog_4_method_5_code 74 = .ok (.iload_n 2, 1) := by decide +kernel
theorem od_Line_number_75 : decode prog_4_method_5_code 75 = .ok (.ifCond .eq (8), 3) := by decide +kernel
theorem od_Line_number_78 : decode prog_4_method_5_code 78 = .ok (.iload_n 3, 1) := by decide +kernel
theorem od_Line_number_79 : decode prog_4_method_5_code 79 = .ok (.ineg, 1) := by decide +kernel
theorem od_Line_number_80 : decode prog_4_method_5_code 80 = .ok (.goto (4), 3) := by decide +kernel
theorem od_Line_number_83 : decode prog_4_method_5_code 83 = .ok (.iload_n 3, 1) := by decide +kernel
theorem od_Line_number_84 : decode prog_4_method_5_code 84 = .ok (.ireturn, 1) := by decide +kernel
theorem od_Reader_isPlace_0 : decode prog_6_method_18_code 0 = .ok (.iload_n 0, 1) := by decide +kernel
theorem od_Reader_isPlace_1 : decode prog_6_method_18_code 1 = .ok (.sipush (-999), 3) := by decide +kernel
theorem od_Reader_isPlace_4 : decode prog_6_method_18_code 4 = .ok (.if_icmp .lt (14), 3) := by decide +kernel
theorem od_Reader_isPlace_7 : decode prog_6_method_18_code 7 = .ok (.iload_n 0, 1) := by decide +kernel
theorem od_Reader_isPlace_8 : decode prog_6_method_18_code 8 = .ok (.sipush (999), 3) := by decide +kernel
theorem od_Reader_isPlace_11 : decode prog_6_method_18_code 11 = .ok (.if_icmp .gt (7), 3) := by decide +kernel
theorem od_Reader_isPlace_14 : decode prog_6_method_18_code 14 = .ok (.iconst 1, 1) := by decide +kernel
theorem od_Reader_isPlace_15 : decode prog_6_method_18_code 15 = .ok (.goto (4), 3) := by decide +kernel
theorem od_Reader_isPlace_18 : decode prog_6_method_18_code 18 = .ok (.iconst 0, 1) := by decide +kernel
theorem od_Reader_isPlace_19 : decode prog_6_method_18_code 19 = .ok (.ireturn, 1) := by decide +kernel
theorem od_Reader_wholeRoot_0 : decode prog_6_method_20_code 0 = .ok (.iconst 0, 1) := by decide +kernel
theorem od_Reader_wholeRoot_1 : decode prog_6_method_20_code 1 = .ok (.istore_n 1, 1) := by decide +kernel
theorem od_Reader_wholeRoot_2 : decode prog_6_method_20_code 2 = .ok (.sipush (2048), 3) := by decide +kernel
theorem od_Reader_wholeRoot_5 : decode prog_6_method_20_code 5 = .ok (.istore_n 2, 1) := by decide +kernel
theorem od_Reader_wholeRoot_6 : decode prog_6_method_20_code 6 = .ok (.iload_n 2, 1) := by decide +kernel
theorem od_Reader_wholeRoot_7 : decode prog_6_method_20_code 7 = .ok (.ifCond .le (23), 3) := by decide +kernel
theorem od_Reader_wholeRoot_10 : decode prog_6_method_20_code 10 = .ok (.iload_n 1, 1) := by decide +kernel
theorem od_Reader_wholeRoot_11 : decode prog_6_method_20_code 11 = .ok (.iload_n 2, 1) := by decide +kernel
theorem od_Reader_wholeRoot_12 : decode prog_6_method_20_code 12 = .ok (.iadd, 1) := by decide +kernel
theorem od_Reader_wholeRoot_13 : decode prog_6_method_20_code 13 = .ok (.istore_n 3, 1) := by decide +kernel
theorem od_Reader_wholeRoot_14 : decode prog_6_method_20_code 14 = .ok (.iload_n 3, 1) := by decide +kernel
theorem od_Reader_wholeRoot_15 : decode prog_6_method_20_code 15 = .ok (.iload_n 3, 1) := by decide +kernel
theorem od_Reader_wholeRoot_16 : decode prog_6_method_20_code 16 = .ok (.imul, 1) := by decide +kernel
theorem od_Reader_wholeRoot_17 : decode prog_6_method_20_code 17 = .ok (.iload_n 0, 1) := by decide +kernel
theorem od_Reader_wholeRoot_18 : decode prog_6_method_20_code 18 = .ok (.if_icmp .gt (5), 3) := by decide +kernel
theorem od_Reader_wholeRoot_21 : decode prog_6_method_20_code 21 = .ok (.iload_n 3, 1) := by decide +kernel
theorem od_Reader_wholeRoot_22 : decode prog_6_method_20_code 22 = .ok (.istore_n 1, 1) := by decide +kernel
theorem od_Reader_wholeRoot_23 : decode prog_6_method_20_code 23 = .ok (.iload_n 2, 1) := by decide +kernel
theorem od_Reader_wholeRoot_24 : decode prog_6_method_20_code 24 = .ok (.iconst 1, 1) := by decide +kernel
theorem od_Reader_wholeRoot_25 : decode prog_6_method_20_code 25 = .ok (.ishr, 1) := by decide +kernel
theorem od_Reader_wholeRoot_26 : decode prog_6_method_20_code 26 = .ok (.istore_n 2, 1) := by decide +kernel
theorem od_Reader_wholeRoot_27 : decode prog_6_method_20_code 27 = .ok (.goto (-21), 3) := by decide +kernel
theorem od_Reader_wholeRoot_30 : decode prog_6_method_20_code 30 = .ok (.iload_n 1, 1) := by decide +kernel
theorem od_Reader_wholeRoot_31 : decode prog_6_method_20_code 31 = .ok (.ireturn, 1) := by decide +kernel
theorem od_Reader_apart_0 : decode prog_6_method_19_code 0 = .ok (.aload_n 0, 1) := by decide +kernel
theorem od_Reader_apart_1 : decode prog_6_method_19_code 1 = .ok (.getfield 15, 3) := by decide +kernel
theorem od_Reader_apart_4 : decode prog_6_method_19_code 4 = .ok (.iconst 4, 1) := by decide +kernel
theorem od_Reader_apart_5 : decode prog_6_method_19_code 5 = .ok (.if_icmp .ne (7), 3) := by decide +kernel
theorem od_Reader_apart_8 : decode prog_6_method_19_code 8 = .ok (.iload_n 1, 1) := by decide +kernel
theorem od_Reader_apart_9 : decode prog_6_method_19_code 9 = .ok (.iload_n 2, 1) := by decide +kernel
theorem od_Reader_apart_10 : decode prog_6_method_19_code 10 = .ok (.iadd, 1) := by decide +kernel
theorem od_Reader_apart_11 : decode prog_6_method_19_code 11 = .ok (.ireturn, 1) := by decide +kernel
theorem od_Reader_apart_12 : decode prog_6_method_19_code 12 = .ok (.iload_n 1, 1) := by decide +kernel
theorem od_Reader_apart_13 : decode prog_6_method_19_code 13 = .ok (.iload_n 1, 1) := by decide +kernel
theorem od_Reader_apart_14 : decode prog_6_method_19_code 14 = .ok (.imul, 1) := by decide +kernel
theorem od_Reader_apart_15 : decode prog_6_method_19_code 15 = .ok (.iload_n 2, 1) := by decide +kernel
theorem od_Reader_apart_16 : decode prog_6_method_19_code 16 = .ok (.iload_n 2, 1) := by decide +kernel
theorem od_Reader_apart_17 : decode prog_6_method_19_code 17 = .ok (.imul, 1) := by decide +kernel
theorem od_Reader_apart_18 : decode prog_6_method_19_code 18 = .ok (.iadd, 1) := by decide +kernel
theorem od_Reader_apart_19 : decode prog_6_method_19_code 19 = .ok (.istore_n 3, 1) := by decide +kernel
theorem od_Reader_apart_20 : decode prog_6_method_19_code 20 = .ok (.iload_n 3, 1) := by decide +kernel
theorem od_Reader_apart_21 : decode prog_6_method_19_code 21 = .ok (.invokestatic 178, 3) := by decide +kernel
theorem od_Reader_apart_24 : decode prog_6_method_19_code 24 = .ok (.istore 4, 2) := by decide +kernel
theorem od_Reader_apart_26 : decode prog_6_method_19_code 26 = .ok (.aload_n 0, 1) := by decide +kernel
theorem od_Reader_apart_27 : decode prog_6_method_19_code 27 = .ok (.getfield 15, 3) := by decide +kernel
theorem od_Reader_apart_30 : decode prog_6_method_19_code 30 = .ok (.iconst 2, 1) := by decide +kernel
theorem od_Reader_apart_31 : decode prog_6_method_19_code 31 = .ok (.if_icmp .ne (14), 3) := by decide +kernel
theorem od_Reader_apart_34 : decode prog_6_method_19_code 34 = .ok (.iload 4, 2) := by decide +kernel
theorem od_Reader_apart_36 : decode prog_6_method_19_code 36 = .ok (.iload 4, 2) := by decide +kernel
theorem od_Reader_apart_38 : decode prog_6_method_19_code 38 = .ok (.imul, 1) := by decide +kernel
theorem od_Reader_apart_39 : decode prog_6_method_19_code 39 = .ok (.iload 4, 2) := by decide +kernel
theorem od_Reader_apart_41 : decode prog_6_method_19_code 41 = .ok (.iadd, 1) := by decide +kernel
theorem od_Reader_apart_42 : decode prog_6_method_19_code 42 = .ok (.goto (8), 3) := by decide +kernel
theorem od_Reader_apart_45 : decode prog_6_method_19_code 45 = .ok (.iload 4, 2) := by decide +kernel
theorem od_Reader_apart_47 : decode prog_6_method_19_code 47 = .ok (.iload 4, 2) := by decide +kernel
theorem od_Reader_apart_49 : decode prog_6_method_19_code 49 = .ok (.imul, 1) := by decide +kernel
theorem od_Reader_apart_50 : decode prog_6_method_19_code 50 = .ok (.istore 5, 2) := by decide +kernel
theorem od_Reader_apart_52 : decode prog_6_method_19_code 52 = .ok (.iload_n 3, 1) := by decide +kernel
theorem od_Reader_apart_53 : decode prog_6_method_19_code 53 = .ok (.iload 5, 2) := by decide +kernel
theorem od_Reader_apart_55 : decode prog_6_method_19_code 55 = .ok (.if_icmp .le (10), 3) := by decide +kernel
theorem od_Reader_apart_58 : decode prog_6_method_19_code 58 = .ok (.iload 4, 2) := by decide +kernel
theorem od_Reader_apart_60 : decode prog_6_method_19_code 60 = .ok (.iconst 1, 1) := by decide +kernel
theorem od_Reader_apart_61 : decode prog_6_method_19_code 61 = .ok (.iadd, 1) := by decide +kernel
theorem od_Reader_apart_62 : decode prog_6_method_19_code 62 = .ok (.goto (5), 3) := by decide +kernel
theorem od_Reader_apart_65 : decode prog_6_method_19_code 65 = .ok (.iload 4, 2) := by decide +kernel
theorem od_Reader_apart_67 : decode prog_6_method_19_code 67 = .ok (.ireturn, 1) := by decide +kernel
theorem od_Line_stands_0 : decode prog_4_method_7_code 0 = .ok (.iconst 0, 1) := by decide +kernel
theorem od_Line_stands_1 : decode prog_4_method_7_code 1 = .ok (.istore_n 3, 1) := by decide +kernel
theorem od_Line_stands_2 : decode prog_4_method_7_code 2 = .ok (.iload_n 3, 1) := by decide +kernel
theorem od_Line_stands_3 : decode prog_4_method_7_code 3 = .ok (.aload_n 2, 1) := by decide +kernel
theorem od_Line_stands_4 : decode prog_4_method_7_code 4 = .ok (.invokevirtual 35, 3) := by decide +kernel
theorem od_Line_stands_7 : decode prog_4_method_7_code 7 = .ok (.if_icmp .ge (27), 3) := by decide +kernel
theorem od_Line_stands_10 : decode prog_4_method_7_code 10 = .ok (.aload_n 0, 1) := by decide +kernel
theorem od_Line_stands_11 : decode prog_4_method_7_code 11 = .ok (.getfield 34, 3) := by decide +kernel
theorem od_Line_stands_14 : decode prog_4_method_7_code 14 = .ok (.iload_n 1, 1) := by decide +kernel
theorem od_Line_stands_15 : decode prog_4_method_7_code 15 = .ok (.iload_n 3, 1) := by decide +kernel
theorem od_Line_stands_16 : decode prog_4_method_7_code 16 = .ok (.iadd, 1) := by decide +kernel
theorem od_Line_stands_17 : decode prog_4_method_7_code 17 = .ok (.caload, 1) := by decide +kernel
theorem od_Line_stands_18 : decode prog_4_method_7_code 18 = .ok (.aload_n 2, 1) := by decide +kernel
theorem od_Line_stands_19 : decode prog_4_method_7_code 19 = .ok (.iload_n 3, 1) := by decide +kernel
theorem od_Line_stands_20 : decode prog_4_method_7_code 20 = .ok (.invokevirtual 49, 3) := by decide +kernel
theorem od_Line_stands_23 : decode prog_4_method_7_code 23 = .ok (.if_icmp .eq (5), 3) := by decide +kernel
theorem od_Line_stands_26 : decode prog_4_method_7_code 26 = .ok (.iconst 0, 1) := by decide +kernel
theorem od_Line_stands_27 : decode prog_4_method_7_code 27 = .ok (.ireturn, 1) := by decide +kernel
theorem od_Line_stands_28 : decode prog_4_method_7_code 28 = .ok (.iinc 3 (1), 3) := by decide +kernel
theorem od_Line_stands_31 : decode prog_4_method_7_code 31 = .ok (.goto (-29), 3) := by decide +kernel
theorem od_Line_stands_34 : decode prog_4_method_7_code 34 = .ok (.iconst 1, 1) := by decide +kernel
theorem od_Line_stands_35 : decode prog_4_method_7_code 35 = .ok (.ireturn, 1) := by decide +kernel
theorem od_Line_wordIs_0 : decode prog_4_method_4_code 0 = .ok (.iload_n 1, 1) := by decide +kernel
theorem od_Line_wordIs_1 : decode prog_4_method_4_code 1 = .ok (.aload_n 0, 1) := by decide +kernel
theorem od_Line_wordIs_2 : decode prog_4_method_4_code 2 = .ok (.getfield 25, 3) := by decide +kernel
theorem od_Line_wordIs_5 : decode prog_4_method_4_code 5 = .ok (.if_icmp .ge (41), 3) := by decide +kernel
theorem od_Line_wordIs_8 : decode prog_4_method_4_code 8 = .ok (.aload_n 0, 1) := by decide +kernel
theorem od_Line_wordIs_9 : decode prog_4_method_4_code 9 = .ok (.getfield 15, 3) := by decide +kernel
theorem od_Line_wordIs_12 : decode prog_4_method_4_code 12 = .ok (.iload_n 1, 1) := by decide +kernel
theorem od_Line_wordIs_13 : decode prog_4_method_4_code 13 = .ok (.iaload, 1) := by decide +kernel
theorem od_Line_wordIs_14 : decode prog_4_method_4_code 14 = .ok (.aload_n 0, 1) := by decide +kernel
theorem od_Line_wordIs_15 : decode prog_4_method_4_code 15 = .ok (.getfield 11, 3) := by decide +kernel
theorem od_Line_wordIs_18 : decode prog_4_method_4_code 18 = .ok (.iload_n 1, 1) := by decide +kernel
theorem od_Line_wordIs_19 : decode prog_4_method_4_code 19 = .ok (.iaload, 1) := by decide +kernel
theorem od_Line_wordIs_20 : decode prog_4_method_4_code 20 = .ok (.isub, 1) := by decide +kernel
theorem od_Line_wordIs_21 : decode prog_4_method_4_code 21 = .ok (.aload_n 2, 1) := by decide +kernel
theorem od_Line_wordIs_22 : decode prog_4_method_4_code 22 = .ok (.invokevirtual 35, 3) := by decide +kernel
theorem od_Line_wordIs_25 : decode prog_4_method_4_code 25 = .ok (.if_icmp .ne (21), 3) := by decide +kernel
theorem od_Line_wordIs_28 : decode prog_4_method_4_code 28 = .ok (.aload_n 0, 1) := by decide +kernel
theorem od_Line_wordIs_29 : decode prog_4_method_4_code 29 = .ok (.aload_n 0, 1) := by decide +kernel
theorem od_Line_wordIs_30 : decode prog_4_method_4_code 30 = .ok (.getfield 11, 3) := by decide +kernel
theorem od_Line_wordIs_33 : decode prog_4_method_4_code 33 = .ok (.iload_n 1, 1) := by decide +kernel
theorem od_Line_wordIs_34 : decode prog_4_method_4_code 34 = .ok (.iaload, 1) := by decide +kernel
theorem od_Line_wordIs_35 : decode prog_4_method_4_code 35 = .ok (.aload_n 2, 1) := by decide +kernel
theorem od_Line_wordIs_36 : decode prog_4_method_4_code 36 = .ok (.invokevirtual 41, 3) := by decide +kernel
theorem od_Line_wordIs_39 : decode prog_4_method_4_code 39 = .ok (.ifCond .eq (7), 3) := by decide +kernel
theorem od_Line_wordIs_42 : decode prog_4_method_4_code 42 = .ok (.iconst 1, 1) := by decide +kernel
theorem od_Line_wordIs_43 : decode prog_4_method_4_code 43 = .ok (.goto (4), 3) := by decide +kernel
theorem od_Line_wordIs_46 : decode prog_4_method_4_code 46 = .ok (.iconst 0, 1) := by decide +kernel
theorem od_Line_wordIs_47 : decode prog_4_method_4_code 47 = .ok (.ireturn, 1) := by decide +kernel
theorem od_Reader_acceptsEnd_0 : decode prog_6_method_10_code 0 = .ok (.aload_n 0, 1) := by decide +kernel
theorem od_Reader_acceptsEnd_1 : decode prog_6_method_10_code 1 = .ok (.getfield 49, 3) := by decide +kernel
theorem od_Reader_acceptsEnd_4 : decode prog_6_method_10_code 4 = .ok (.getfield 94, 3) := by decide +kernel
theorem od_Reader_acceptsEnd_7 : decode prog_6_method_10_code 7 = .ok (.iconst 1, 1) := by decide +kernel
theorem od_Reader_acceptsEnd_8 : decode prog_6_method_10_code 8 = .ok (.if_icmp .ne (16), 3) := by decide +kernel
theorem od_Reader_acceptsEnd_11 : decode prog_6_method_10_code 11 = .ok (.aload_n 0, 1) := by decide +kernel
theorem od_Reader_acceptsEnd_12 : decode prog_6_method_10_code 12 = .ok (.getfield 49, 3) := by decide +kernel
theorem od_Reader_acceptsEnd_15 : decode prog_6_method_10_code 15 = .ok (.iconst 0, 1) := by decide +kernel
theorem od_Reader_acceptsEnd_16 : decode prog_6_method_10_code 16 = .ok (.ldc 145, 2) := by decide +kernel
theorem od_Reader_acceptsEnd_18 : decode prog_6_method_10_code 18 = .ok (.invokevirtual 102, 3) := by decide +kernel
theorem od_Reader_acceptsEnd_21 : decode prog_6_method_10_code 21 = .ok (.ifCond .ne (5), 3) := by decide +kernel
theorem od_Reader_acceptsEnd_24 : decode prog_6_method_10_code 24 = .ok (.iconst 0, 1) := by decide +kernel
theorem od_Reader_acceptsEnd_25 : decode prog_6_method_10_code 25 = .ok (.ireturn, 1) := by decide +kernel
theorem od_Reader_acceptsEnd_26 : decode prog_6_method_10_code 26 = .ok (.aload_n 0, 1) := by decide +kernel
theorem od_Reader_acceptsEnd_27 : decode prog_6_method_10_code 27 = .ok (.iconst 2, 1) := by decide +kernel
theorem od_Reader_acceptsEnd_28 : decode prog_6_method_10_code 28 = .ok (.putfield 11, 3) := by decide +kernel
theorem od_Reader_acceptsEnd_31 : decode prog_6_method_10_code 31 = .ok (.iconst 1, 1) := by decide +kernel
theorem od_Reader_acceptsEnd_32 : decode prog_6_method_10_code 32 = .ok (.ireturn, 1) := by decide +kernel
theorem od_Reader_acceptsPlace_0 : decode prog_6_method_17_code 0 = .ok (.aload_n 0, 1) := by decide +kernel
theorem od_Reader_acceptsPlace_1 : decode prog_6_method_17_code 1 = .ok (.getfield 21, 3) := by decide +kernel
theorem od_Reader_acceptsPlace_4 : decode prog_6_method_17_code 4 = .ok (.aload_n 0, 1) := by decide +kernel
theorem od_Reader_acceptsPlace_5 : decode prog_6_method_17_code 5 = .ok (.getfield 34, 3) := by decide +kernel
theorem od_Reader_acceptsPlace_8 : decode prog_6_method_17_code 8 = .ok (.if_icmp .lt (8), 3) := by decide +kernel
theorem od_Reader_acceptsPlace_11 : decode prog_6_method_17_code 11 = .ok (.aload_n 0, 1) := by decide +kernel
theorem od_Reader_acceptsPlace_12 : decode prog_6_method_17_code 12 = .ok (.invokevirtual 150, 3) := by decide +kernel
theorem od_Reader_acceptsPlace_15 : decode prog_6_method_17_code 15 = .ok (.ireturn, 1) := by decide +kernel
theorem od_Reader_acceptsPlace_16 : decode prog_6_method_17_code 16 = .ok (.aload_n 0, 1) := by decide +kernel
theorem od_Reader_acceptsPlace_17 : decode prog_6_method_17_code 17 = .ok (.getfield 49, 3) := by decide +kernel
theorem od_Reader_acceptsPlace_20 : decode prog_6_method_17_code 20 = .ok (.iconst 1, 1) := by decide +kernel
theorem od_Reader_acceptsPlace_21 : decode prog_6_method_17_code 21 = .ok (.invokevirtual 119, 3) := by decide +kernel
theorem od_Reader_acceptsPlace_24 : decode prog_6_method_17_code 24 = .ok (.istore_n 1, 1) := by decide +kernel
theorem od_Reader_acceptsPlace_25 : decode prog_6_method_17_code 25 = .ok (.aload_n 0, 1) := by decide +kernel
theorem od_Reader_acceptsPlace_26 : decode prog_6_method_17_code 26 = .ok (.getfield 49, 3) := by decide +kernel
theorem od_Reader_acceptsPlace_29 : decode prog_6_method_17_code 29 = .ok (.iconst 2, 1) := by decide +kernel
theorem od_Reader_acceptsPlace_30 : decode prog_6_method_17_code 30 = .ok (.invokevirtual 119, 3) := by decide +kernel
theorem od_Reader_acceptsPlace_33 : decode prog_6_method_17_code 33 = .ok (.istore_n 2, 1) := by decide +kernel
theorem od_Reader_acceptsPlace_34 : decode prog_6_method_17_code 34 = .ok (.aload_n 0, 1) := by decide +kernel
theorem od_Reader_acceptsPlace_35 : decode prog_6_method_17_code 35 = .ok (.getfield 49, 3) := by decide +kernel
theorem od_Reader_acceptsPlace_38 : decode prog_6_method_17_code 38 = .ok (.getfield 94, 3) := by decide +kernel
theorem od_Reader_acceptsPlace_41 : decode prog_6_method_17_code 41 = .ok (.iconst 3, 1) := by decide +kernel
theorem od_Reader_acceptsPlace_42 : decode prog_6_method_17_code 42 = .ok (.if_icmp .ne (34), 3) := by decide +kernel
theorem od_Reader_acceptsPlace_45 : decode prog_6_method_17_code 45 = .ok (.aload_n 0, 1) := by decide +kernel
theorem od_Reader_acceptsPlace_46 : decode prog_6_method_17_code 46 = .ok (.getfield 49, 3) := by decide +kernel
theorem od_Reader_acceptsPlace_49 : decode prog_6_method_17_code 49 = .ok (.iconst 0, 1) := by decide +kernel
theorem od_Reader_acceptsPlace_50 : decode prog_6_method_17_code 50 = .ok (.invokevirtual 119, 3) := by decide +kernel
theorem od_Reader_acceptsPlace_53 : decode prog_6_method_17_code 53 = .ok (.aload_n 0, 1) := by decide +kernel
theorem od_Reader_acceptsPlace_54 : decode prog_6_method_17_code 54 = .ok (.getfield 21, 3) := by decide +kernel
theorem od_Reader_acceptsPlace_57 : decode prog_6_method_17_code 57 = .ok (.iconst 1, 1) := by decide +kernel
theorem od_Reader_acceptsPlace_58 : decode prog_6_method_17_code 58 = .ok (.iadd, 1) := by decide +kernel
theorem od_Reader_acceptsPlace_59 : decode prog_6_method_17_code 59 = .ok (.if_icmp .ne (17), 3) := by decide +kernel
theorem od_Reader_acceptsPlace_62 : decode prog_6_method_17_code 62 = .ok (.iload_n 1, 1) := by decide +kernel
theorem od_Reader_acceptsPlace_63 : decode prog_6_method_17_code 63 = .ok (.invokestatic 166, 3) := by decide +kernel
theorem od_Reader_acceptsPlace_66 : decode prog_6_method_17_code 66 = .ok (.ifCond .eq (10), 3) := by decide +kernel
theorem od_Reader_acceptsPlace_69 : decode prog_6_method_17_code 69 = .ok (.iload_n 2, 1) := by decide +kernel
theorem od_Reader_acceptsPlace_70 : decode prog_6_method_17_code 70 = .ok (.invokestatic 166, 3) := by decide +kernel
theorem od_Reader_acceptsPlace_73 : decode prog_6_method_17_code 73 = .ok (.ifCond .ne (5), 3) := by decide +kernel
theorem od_Reader_acceptsPlace_76 : decode prog_6_method_17_code 76 = .ok (.iconst 0, 1) := by decide +kernel
theorem od_Reader_acceptsPlace_77 : decode prog_6_method_17_code 77 = .ok (.ireturn, 1) := by decide +kernel
theorem od_Reader_acceptsPlace_78 : decode prog_6_method_17_code 78 = .ok (.aload_n 0, 1) := by decide +kernel
theorem od_Reader_acceptsPlace_79 : decode prog_6_method_17_code 79 = .ok (.getfield 27, 3) := by decide +kernel
theorem od_Reader_acceptsPlace_82 : decode prog_6_method_17_code 82 = .ok (.aload_n 0, 1) := by decide +kernel
theorem od_Reader_acceptsPlace_83 : decode prog_6_method_17_code 83 = .ok (.getfield 21, 3) := by decide +kernel
theorem od_Reader_acceptsPlace_86 : decode prog_6_method_17_code 86 = .ok (.iload_n 1, 1) := by decide +kernel
theorem od_Reader_acceptsPlace_87 : decode prog_6_method_17_code 87 = .ok (.iastore, 1) := by decide +kernel
theorem od_Reader_acceptsPlace_88 : decode prog_6_method_17_code 88 = .ok (.aload_n 0, 1) := by decide +kernel
theorem od_Reader_acceptsPlace_89 : decode prog_6_method_17_code 89 = .ok (.getfield 31, 3) := by decide +kernel
theorem od_Reader_acceptsPlace_92 : decode prog_6_method_17_code 92 = .ok (.aload_n 0, 1) := by decide +kernel
theorem od_Reader_acceptsPlace_93 : decode prog_6_method_17_code 93 = .ok (.getfield 21, 3) := by decide +kernel
theorem od_Reader_acceptsPlace_96 : decode prog_6_method_17_code 96 = .ok (.iload_n 2, 1) := by decide +kernel
theorem od_Reader_acceptsPlace_97 : decode prog_6_method_17_code 97 = .ok (.iastore, 1) := by decide +kernel
theorem od_Reader_acceptsPlace_98 : decode prog_6_method_17_code 98 = .ok (.iconst 0, 1) := by decide +kernel
theorem od_Reader_acceptsPlace_99 : decode prog_6_method_17_code 99 = .ok (.istore_n 3, 1) := by decide +kernel
theorem od_Reader_acceptsPlace_100 : decode prog_6_method_17_code 100 = .ok (.iload_n 3, 1) := by decide +kernel
theorem od_Reader_acceptsPlace_101 : decode prog_6_method_17_code 101 = .ok (.aload_n 0, 1) := by decide +kernel
theorem od_Reader_acceptsPlace_102 : decode prog_6_method_17_code 102 = .ok (.getfield 21, 3) := by decide +kernel
theorem od_Reader_acceptsPlace_105 : decode prog_6_method_17_code 105 = .ok (.if_icmp .ge (69), 3) := by decide +kernel
theorem od_Reader_acceptsPlace_108 : decode prog_6_method_17_code 108 = .ok (.aload_n 0, 1) := by decide +kernel
theorem od_Reader_acceptsPlace_109 : decode prog_6_method_17_code 109 = .ok (.iload_n 1, 1) := by decide +kernel
theorem od_Reader_acceptsPlace_110 : decode prog_6_method_17_code 110 = .ok (.aload_n 0, 1) := by decide +kernel
theorem od_Reader_acceptsPlace_111 : decode prog_6_method_17_code 111 = .ok (.getfield 27, 3) := by decide +kernel
theorem od_Reader_acceptsPlace_114 : decode prog_6_method_17_code 114 = .ok (.iload_n 3, 1) := by decide +kernel
theorem od_Reader_acceptsPlace_115 : decode prog_6_method_17_code 115 = .ok (.iaload, 1) := by decide +kernel
theorem od_Reader_acceptsPlace_116 : decode prog_6_method_17_code 116 = .ok (.isub, 1) := by decide +kernel
theorem od_Reader_acceptsPlace_117 : decode prog_6_method_17_code 117 = .ok (.invokestatic 169, 3) := by decide +kernel
theorem od_Reader_acceptsPlace_120 : decode prog_6_method_17_code 120 = .ok (.iload_n 2, 1) := by decide +kernel
theorem od_Reader_acceptsPlace_121 : decode prog_6_method_17_code 121 = .ok (.aload_n 0, 1) := by decide +kernel
theorem od_Reader_acceptsPlace_122 : decode prog_6_method_17_code 122 = .ok (.getfield 31, 3) := by decide +kernel
theorem od_Reader_acceptsPlace_125 : decode prog_6_method_17_code 125 = .ok (.iload_n 3, 1) := by decide +kernel
theorem od_Reader_acceptsPlace_126 : decode prog_6_method_17_code 126 = .ok (.iaload, 1) := by decide +kernel
theorem od_Reader_acceptsPlace_127 : decode prog_6_method_17_code 127 = .ok (.isub, 1) := by decide +kernel
theorem od_Reader_acceptsPlace_128 : decode prog_6_method_17_code 128 = .ok (.invokestatic 169, 3) := by decide +kernel
theorem od_Reader_acceptsPlace_131 : decode prog_6_method_17_code 131 = .ok (.invokevirtual 174, 3) := by decide +kernel
theorem od_Reader_acceptsPlace_134 : decode prog_6_method_17_code 134 = .ok (.istore 4, 2) := by decide +kernel
theorem od_Reader_acceptsPlace_136 : decode prog_6_method_17_code 136 = .ok (.aload_n 0, 1) := by decide +kernel
theorem od_Reader_acceptsPlace_137 : decode prog_6_method_17_code 137 = .ok (.getfield 37, 3) := by decide +kernel
theorem od_Reader_acceptsPlace_140 : decode prog_6_method_17_code 140 = .ok (.aload_n 0, 1) := by decide +kernel
theorem od_Reader_acceptsPlace_141 : decode prog_6_method_17_code 141 = .ok (.getfield 21, 3) := by decide +kernel
theorem od_Reader_acceptsPlace_144 : decode prog_6_method_17_code 144 = .ok (.bipush (8), 2) := by decide +kernel
theorem od_Reader_acceptsPlace_146 : decode prog_6_method_17_code 146 = .ok (.imul, 1) := by decide +kernel
theorem od_Reader_acceptsPlace_147 : decode prog_6_method_17_code 147 = .ok (.iload_n 3, 1) := by decide +kernel
theorem od_Reader_acceptsPlace_148 : decode prog_6_method_17_code 148 = .ok (.iadd, 1) := by decide +kernel
theorem od_Reader_acceptsPlace_149 : decode prog_6_method_17_code 149 = .ok (.iload 4, 2) := by decide +kernel
theorem od_Reader_acceptsPlace_151 : decode prog_6_method_17_code 151 = .ok (.iastore, 1) := by decide +kernel
theorem od_Reader_acceptsPlace_152 : decode prog_6_method_17_code 152 = .ok (.aload_n 0, 1) := by decide +kernel
theorem od_Reader_acceptsPlace_153 : decode prog_6_method_17_code 153 = .ok (.getfield 37, 3) := by decide +kernel
theorem od_Reader_acceptsPlace_156 : decode prog_6_method_17_code 156 = .ok (.iload_n 3, 1) := by decide +kernel
theorem od_Reader_acceptsPlace_157 : decode prog_6_method_17_code 157 = .ok (.bipush (8), 2) := by decide +kernel
theorem od_Reader_acceptsPlace_159 : decode prog_6_method_17_code 159 = .ok (.imul, 1) := by decide +kernel
theorem od_Reader_acceptsPlace_160 : decode prog_6_method_17_code 160 = .ok (.aload_n 0, 1) := by decide +kernel
theorem od_Reader_acceptsPlace_161 : decode prog_6_method_17_code 161 = .ok (.getfield 21, 3) := by decide +kernel
theorem od_Reader_acceptsPlace_164 : decode prog_6_method_17_code 164 = .ok (.iadd, 1) := by decide +kernel
theorem od_Reader_acceptsPlace_165 : decode prog_6_method_17_code 165 = .ok (.iload 4, 2) := by decide +kernel
theorem od_Reader_acceptsPlace_167 : decode prog_6_method_17_code 167 = .ok (.iastore, 1) := by decide +kernel
theorem od_Reader_acceptsPlace_168 : decode prog_6_method_17_code 168 = .ok (.iinc 3 (1), 3) := by decide +kernel
theorem od_Reader_acceptsPlace_171 : decode prog_6_method_17_code 171 = .ok (.goto (-71), 3) := by decide +kernel
theorem od_Reader_acceptsPlace_174 : decode prog_6_method_17_code 174 = .ok (.aload_n 0, 1) := by decide +kernel
theorem od_Reader_acceptsPlace_175 : decode prog_6_method_17_code 175 = .ok (.dup, 1) := by decide +kernel
theorem od_Reader_acceptsPlace_176 : decode prog_6_method_17_code 176 = .ok (.getfield 21, 3) := by decide +kernel
theorem od_Reader_acceptsPlace_179 : decode prog_6_method_17_code 179 = .ok (.iconst 1, 1) := by decide +kernel
theorem od_Reader_acceptsPlace_180 : decode prog_6_method_17_code 180 = .ok (.iadd, 1) := by decide +kernel
theorem od_Reader_acceptsPlace_181 : decode prog_6_method_17_code 181 = .ok (.putfield 21, 3) := by decide +kernel
theorem od_Reader_acceptsPlace_184 : decode prog_6_method_17_code 184 = .ok (.iconst 1, 1) := by decide +kernel
theorem od_Reader_acceptsPlace_185 : decode prog_6_method_17_code 185 = .ok (.ireturn, 1) := by decide +kernel
theorem od_Reader_rows_0 : decode prog_6_method_13_code 0 = .ok (.aload_n 0, 1) := by decide +kernel
theorem od_Reader_rows_1 : decode prog_6_method_13_code 1 = .ok (.getfield 18, 3) := by decide +kernel
theorem od_Reader_rows_4 : decode prog_6_method_13_code 4 = .ok (.iconst 2, 1) := by decide +kernel
theorem od_Reader_rows_5 : decode prog_6_method_13_code 5 = .ok (.if_icmp .ne (12), 3) := by decide +kernel
theorem od_Reader_rows_8 : decode prog_6_method_13_code 8 = .ok (.aload_n 0, 1) := by decide +kernel
theorem od_Reader_rows_9 : decode prog_6_method_13_code 9 = .ok (.getfield 34, 3) := by decide +kernel
theorem od_Reader_rows_12 : decode prog_6_method_13_code 12 = .ok (.iconst 1, 1) := by decide +kernel
theorem od_Reader_rows_13 : decode prog_6_method_13_code 13 = .ok (.isub, 1) := by decide +kernel
theorem od_Reader_rows_14 : decode prog_6_method_13_code 14 = .ok (.goto (7), 3) := by decide +kernel
theorem od_Reader_rows_17 : decode prog_6_method_13_code 17 = .ok (.aload_n 0, 1) := by decide +kernel
theorem od_Reader_rows_18 : decode prog_6_method_13_code 18 = .ok (.getfield 34, 3) := by decide +kernel
theorem od_Reader_rows_21 : decode prog_6_method_13_code 21 = .ok (.ireturn, 1) := by decide +kernel
theorem od_Line_unsigned_0 : decode prog_4_method_6_code 0 = .ok (.iload_n 1, 1) := by decide +kernel
theorem od_Line_unsigned_1 : decode prog_4_method_6_code 1 = .ok (.aload_n 0, 1) := by decide +kernel
theorem od_Line_unsigned_2 : decode prog_4_method_6_code 2 = .ok (.getfield 25, 3) := by decide +kernel
theorem od_Line_unsigned_5 : decode prog_4_method_6_code 5 = .ok (.if_icmp .ge (22), 3) := by decide +kernel
theorem od_Line_unsigned_8 : decode prog_4_method_6_code 8 = .ok (.aload_n 0, 1) := by decide +kernel
theorem od_Line_unsigned_9 : decode prog_4_method_6_code 9 = .ok (.aload_n 0, 1) := by decide +kernel
theorem od_Line_unsigned_10 : decode prog_4_method_6_code 10 = .ok (.getfield 11, 3) := by decide +kernel
theorem od_Line_unsigned_13 : decode prog_4_method_6_code 13 = .ok (.iload_n 1, 1) := by decide +kernel
theorem od_Line_unsigned_14 : decode prog_4_method_6_code 14 = .ok (.iaload, 1) := by decide +kernel
theorem od_Line_unsigned_15 : decode prog_4_method_6_code 15 = .ok (.aload_n 0, 1) := by decide +kernel
theorem od_Line_unsigned_16 : decode prog_4_method_6_code 16 = .ok (.getfield 15, 3) := by decide +kernel
theorem od_Line_unsigned_19 : decode prog_4_method_6_code 19 = .ok (.iload_n 1, 1) := by decide +kernel
theorem od_Line_unsigned_20 : decode prog_4_method_6_code 20 = .ok (.iaload, 1) := by decide +kernel
theorem od_Line_unsigned_21 : decode prog_4_method_6_code 21 = .ok (.invokevirtual 45, 3) := by decide +kernel
theorem od_Line_unsigned_24 : decode prog_4_method_6_code 24 = .ok (.goto (4), 3) := by decide +kernel
theorem od_Line_unsigned_27 : decode prog_4_method_6_code 27 = .ok (.iconst (-1), 1) := by decide +kernel
theorem od_Line_unsigned_28 : decode prog_4_method_6_code 28 = .ok (.ireturn, 1) := by decide +kernel
theorem od_Reader_fits_0 : decode prog_6_method_12_code 0 = .ok (.aload_n 0, 1) := by decide +kernel
theorem od_Reader_fits_1 : decode prog_6_method_12_code 1 = .ok (.getfield 21, 3) := by decide +kernel
theorem od_Reader_fits_4 : decode prog_6_method_12_code 4 = .ok (.aload_n 0, 1) := by decide +kernel
theorem od_Reader_fits_5 : decode prog_6_method_12_code 5 = .ok (.getfield 24, 3) := by decide +kernel
theorem od_Reader_fits_8 : decode prog_6_method_12_code 8 = .ok (.if_icmp .ne (13), 3) := by decide +kernel
theorem od_Reader_fits_11 : decode prog_6_method_12_code 11 = .ok (.iload_n 1, 1) := by decide +kernel
theorem od_Reader_fits_12 : decode prog_6_method_12_code 12 = .ok (.ifCond .ne (7), 3) := by decide +kernel
theorem od_Reader_fits_15 : decode prog_6_method_12_code 15 = .ok (.iconst 1, 1) := by decide +kernel
theorem od_Reader_fits_16 : decode prog_6_method_12_code 16 = .ok (.goto (4), 3) := by decide +kernel
theorem od_Reader_fits_19 : decode prog_6_method_12_code 19 = .ok (.iconst 0, 1) := by decide +kernel
theorem od_Reader_fits_20 : decode prog_6_method_12_code 20 = .ok (.ireturn, 1) := by decide +kernel
theorem od_Reader_fits_21 : decode prog_6_method_12_code 21 = .ok (.aload_n 0, 1) := by decide +kernel
theorem od_Reader_fits_22 : decode prog_6_method_12_code 22 = .ok (.getfield 18, 3) := by decide +kernel
theorem od_Reader_fits_25 : decode prog_6_method_12_code 25 = .ok (.iconst 1, 1) := by decide +kernel
theorem od_Reader_fits_26 : decode prog_6_method_12_code 26 = .ok (.if_icmp .ne (18), 3) := by decide +kernel
theorem od_Reader_fits_29 : decode prog_6_method_12_code 29 = .ok (.aload_n 0, 1) := by decide +kernel
theorem od_Reader_fits_30 : decode prog_6_method_12_code 30 = .ok (.getfield 24, 3) := by decide +kernel
theorem od_Reader_fits_33 : decode prog_6_method_12_code 33 = .ok (.aload_n 0, 1) := by decide +kernel
theorem od_Reader_fits_34 : decode prog_6_method_12_code 34 = .ok (.getfield 21, 3) := by decide +kernel
theorem od_Reader_fits_37 : decode prog_6_method_12_code 37 = .ok (.if_icmp .ge (7), 3) := by decide +kernel
theorem od_Reader_fits_40 : decode prog_6_method_12_code 40 = .ok (.iconst 1, 1) := by decide +kernel
theorem od_Reader_fits_41 : decode prog_6_method_12_code 41 = .ok (.goto (4), 3) := by decide +kernel
theorem od_Reader_fits_44 : decode prog_6_method_12_code 44 = .ok (.iconst 0, 1) := by decide +kernel
theorem od_Reader_fits_45 : decode prog_6_method_12_code 45 = .ok (.istore_n 2, 1) := by decide +kernel
theorem od_Reader_fits_46 : decode prog_6_method_12_code 46 = .ok (.iload_n 2, 1) := by decide +kernel
theorem od_Reader_fits_47 : decode prog_6_method_12_code 47 = .ok (.ifCond .eq (24), 3) := by decide +kernel
theorem od_Reader_fits_50 : decode prog_6_method_12_code 50 = .ok (.iload_n 1, 1) := by decide +kernel
theorem od_Reader_fits_51 : decode prog_6_method_12_code 51 = .ok (.aload_n 0, 1) := by decide +kernel
theorem od_Reader_fits_52 : decode prog_6_method_12_code 52 = .ok (.getfield 37, 3) := by decide +kernel
theorem od_Reader_fits_55 : decode prog_6_method_12_code 55 = .ok (.aload_n 0, 1) := by decide +kernel
theorem od_Reader_fits_56 : decode prog_6_method_12_code 56 = .ok (.getfield 21, 3) := by decide +kernel
theorem od_Reader_fits_59 : decode prog_6_method_12_code 59 = .ok (.bipush (8), 2) := by decide +kernel
theorem od_Reader_fits_61 : decode prog_6_method_12_code 61 = .ok (.imul, 1) := by decide +kernel
theorem od_Reader_fits_62 : decode prog_6_method_12_code 62 = .ok (.aload_n 0, 1) := by decide +kernel
theorem od_Reader_fits_63 : decode prog_6_method_12_code 63 = .ok (.getfield 24, 3) := by decide +kernel
theorem od_Reader_fits_66 : decode prog_6_method_12_code 66 = .ok (.iadd, 1) := by decide +kernel
theorem od_Reader_fits_67 : decode prog_6_method_12_code 67 = .ok (.iaload, 1) := by decide +kernel
theorem od_Reader_fits_68 : decode prog_6_method_12_code 68 = .ok (.if_icmp .ne (7), 3) := by decide +kernel
theorem od_Reader_fits_71 : decode prog_6_method_12_code 71 = .ok (.iconst 1, 1) := by decide +kernel
theorem od_Reader_fits_72 : decode prog_6_method_12_code 72 = .ok (.goto (4), 3) := by decide +kernel
theorem od_Reader_fits_75 : decode prog_6_method_12_code 75 = .ok (.iconst 0, 1) := by decide +kernel
theorem od_Reader_fits_76 : decode prog_6_method_12_code 76 = .ok (.ireturn, 1) := by decide +kernel
theorem od_Reader_lastColumn_0 : decode prog_6_method_15_code 0 = .ok (.aload_n 0, 1) := by decide +kernel
theorem od_Reader_lastColumn_1 : decode prog_6_method_15_code 1 = .ok (.getfield 18, 3) := by decide +kernel
theorem od_Reader_lastColumn_4 : decode prog_6_method_15_code 4 = .ok (.iconst 3, 1) := by decide +kernel
theorem od_Reader_lastColumn_5 : decode prog_6_method_15_code 5 = .ok (.if_icmp .ne (10), 3) := by decide +kernel
theorem od_Reader_lastColumn_8 : decode prog_6_method_15_code 8 = .ok (.aload_n 0, 1) := by decide +kernel
theorem od_Reader_lastColumn_9 : decode prog_6_method_15_code 9 = .ok (.getfield 21, 3) := by decide +kernel
theorem od_Reader_lastColumn_12 : decode prog_6_method_15_code 12 = .ok (.goto (9), 3) := by decide +kernel
theorem od_Reader_lastColumn_15 : decode prog_6_method_15_code 15 = .ok (.aload_n 0, 1) := by decide +kernel
theorem od_Reader_lastColumn_16 : decode prog_6_method_15_code 16 = .ok (.getfield 34, 3) := by decide +kernel
theorem od_Reader_lastColumn_19 : decode prog_6_method_15_code 19 = .ok (.iconst 1, 1) := by decide +kernel
theorem od_Reader_lastColumn_20 : decode prog_6_method_15_code 20 = .ok (.isub, 1) := by decide +kernel
theorem od_Reader_lastColumn_21 : decode prog_6_method_15_code 21 = .ok (.ireturn, 1) := by decide +kernel
theorem od_Reader_firstColumn_0 : decode prog_6_method_14_code 0 = .ok (.aload_n 0, 1) := by decide +kernel
theorem od_Reader_firstColumn_1 : decode prog_6_method_14_code 1 = .ok (.getfield 18, 3) := by decide +kernel
theorem od_Reader_firstColumn_4 : decode prog_6_method_14_code 4 = .ok (.iconst 2, 1) := by decide +kernel
theorem od_Reader_firstColumn_5 : decode prog_6_method_14_code 5 = .ok (.if_icmp .ne (12), 3) := by decide +kernel
theorem od_Reader_firstColumn_8 : decode prog_6_method_14_code 8 = .ok (.aload_n 0, 1) := by decide +kernel
theorem od_Reader_firstColumn_9 : decode prog_6_method_14_code 9 = .ok (.getfield 21, 3) := by decide +kernel
theorem od_Reader_firstColumn_12 : decode prog_6_method_14_code 12 = .ok (.iconst 1, 1) := by decide +kernel
theorem od_Reader_firstColumn_13 : decode prog_6_method_14_code 13 = .ok (.iadd, 1) := by decide +kernel
theorem od_Reader_firstColumn_14 : decode prog_6_method_14_code 14 = .ok (.goto (4), 3) := by decide +kernel
theorem od_Reader_firstColumn_17 : decode prog_6_method_14_code 17 = .ok (.iconst 0, 1) := by decide +kernel
theorem od_Reader_firstColumn_18 : decode prog_6_method_14_code 18 = .ok (.ireturn, 1) := by decide +kernel
theorem od_Reader_goToNextCell_0 : decode prog_6_method_16_code 0 = .ok (.aload_n 0, 1) := by decide +kernel
theorem od_Reader_goToNextCell_1 : decode prog_6_method_16_code 1 = .ok (.getfield 24, 3) := by decide +kernel
theorem od_Reader_goToNextCell_4 : decode prog_6_method_16_code 4 = .ok (.aload_n 0, 1) := by decide +kernel
theorem od_Reader_goToNextCell_5 : decode prog_6_method_16_code 5 = .ok (.invokevirtual 163, 3) := by decide +kernel
theorem od_Reader_goToNextCell_8 : decode prog_6_method_16_code 8 = .ok (.if_icmp .ge (16), 3) := by decide +kernel
theorem od_Reader_goToNextCell_11 : decode prog_6_method_16_code 11 = .ok (.aload_n 0, 1) := by decide +kernel
theorem od_Reader_goToNextCell_12 : decode prog_6_method_16_code 12 = .ok (.dup, 1) := by decide +kernel
theorem od_Reader_goToNextCell_13 : decode prog_6_method_16_code 13 = .ok (.getfield 24, 3) := by decide +kernel
theorem od_Reader_goToNextCell_16 : decode prog_6_method_16_code 16 = .ok (.iconst 1, 1) := by decide +kernel
theorem od_Reader_goToNextCell_17 : decode prog_6_method_16_code 17 = .ok (.iadd, 1) := by decide +kernel
theorem od_Reader_goToNextCell_18 : decode prog_6_method_16_code 18 = .ok (.putfield 24, 3) := by decide +kernel
theorem od_Reader_goToNextCell_21 : decode prog_6_method_16_code 21 = .ok (.goto (21), 3) := by decide +kernel
theorem od_Reader_goToNextCell_24 : decode prog_6_method_16_code 24 = .ok (.aload_n 0, 1) := by decide +kernel
theorem od_Reader_goToNextCell_25 : decode prog_6_method_16_code 25 = .ok (.dup, 1) := by decide +kernel
theorem od_Reader_goToNextCell_26 : decode prog_6_method_16_code 26 = .ok (.getfield 21, 3) := by decide +kernel
theorem od_Reader_goToNextCell_29 : decode prog_6_method_16_code 29 = .ok (.iconst 1, 1) := by decide +kernel
theorem od_Reader_goToNextCell_30 : decode prog_6_method_16_code 30 = .ok (.iadd, 1) := by decide +kernel
theorem od_Reader_goToNextCell_31 : decode prog_6_method_16_code 31 = .ok (.putfield 21, 3) := by decide +kernel
theorem od_Reader_goToNextCell_34 : decode prog_6_method_16_code 34 = .ok (.aload_n 0, 1) := by decide +kernel
theorem od_Reader_goToNextCell_35 : decode prog_6_method_16_code 35 = .ok (.aload_n 0, 1) := by decide +kernel
theorem od_Reader_goToNextCell_36 : decode prog_6_method_16_code 36 = .ok (.invokevirtual 141, 3) := by decide +kernel
theorem od_Reader_goToNextCell_39 : decode prog_6_method_16_code 39 = .ok (.putfield 24, 3) := by decide +kernel
theorem od_Reader_goToNextCell_42 : decode prog_6_method_16_code 42 = .ok (.return_, 1) := by decide +kernel
theorem od_Reader_acceptsDistances_0 : decode prog_6_method_11_code 0 = .ok (.aload_n 0, 1) := by decide +kernel
theorem od_Reader_acceptsDistances_1 : decode prog_6_method_11_code 1 = .ok (.getfield 21, 3) := by decide +kernel
theorem od_Reader_acceptsDistances_4 : decode prog_6_method_11_code 4 = .ok (.aload_n 0, 1) := by decide +kernel
theorem od_Reader_acceptsDistances_5 : decode prog_6_method_11_code 5 = .ok (.invokevirtual 147, 3) := by decide +kernel
theorem od_Reader_acceptsDistances_8 : decode prog_6_method_11_code 8 = .ok (.if_icmp .lt (18), 3) := by decide +kernel
theorem od_Reader_acceptsDistances_11 : decode prog_6_method_11_code 11 = .ok (.aload_n 0, 1) := by decide +kernel
theorem od_Reader_acceptsDistances_12 : decode prog_6_method_11_code 12 = .ok (.getfield 49, 3) := by decide +kernel
theorem od_Reader_acceptsDistances_15 : decode prog_6_method_11_code 15 = .ok (.getfield 94, 3) := by decide +kernel
theorem od_Reader_acceptsDistances_18 : decode prog_6_method_11_code 18 = .ok (.ifCond .le (8), 3) := by decide +kernel
theorem od_Reader_acceptsDistances_21 : decode prog_6_method_11_code 21 = .ok (.aload_n 0, 1) := by decide +kernel
theorem od_Reader_acceptsDistances_22 : decode prog_6_method_11_code 22 = .ok (.invokevirtual 150, 3) := by decide +kernel
theorem od_Reader_acceptsDistances_25 : decode prog_6_method_11_code 25 = .ok (.ireturn, 1) := by decide +kernel
theorem od_Reader_acceptsDistances_26 : decode prog_6_method_11_code 26 = .ok (.iconst 0, 1) := by decide +kernel
theorem od_Reader_acceptsDistances_27 : decode prog_6_method_11_code 27 = .ok (.istore_n 1, 1) := by decide +kernel
theorem od_Reader_acceptsDistances_28 : decode prog_6_method_11_code 28 = .ok (.iload_n 1, 1) := by decide +kernel
theorem od_Reader_acceptsDistances_29 : decode prog_6_method_11_code 29 = .ok (.aload_n 0, 1) := by decide +kernel
theorem od_Reader_acceptsDistances_30 : decode prog_6_method_11_code 30 = .ok (.getfield 49, 3) := by decide +kernel
theorem od_Reader_acceptsDistances_33 : decode prog_6_method_11_code 33 = .ok (.getfield 94, 3) := by decide +kernel
theorem od_Reader_acceptsDistances_36 : decode prog_6_method_11_code 36 = .ok (.if_icmp .ge (83), 3) := by decide +kernel
theorem od_Reader_acceptsDistances_39 : decode prog_6_method_11_code 39 = .ok (.aload_n 0, 1) := by decide +kernel
theorem od_Reader_acceptsDistances_40 : decode prog_6_method_11_code 40 = .ok (.getfield 49, 3) := by decide +kernel
theorem od_Reader_acceptsDistances_43 : decode prog_6_method_11_code 43 = .ok (.iload_n 1, 1) := by decide +kernel
theorem od_Reader_acceptsDistances_44 : decode prog_6_method_11_code 44 = .ok (.invokevirtual 153, 3) := by decide +kernel
theorem od_Reader_acceptsDistances_47 : decode prog_6_method_11_code 47 = .ok (.istore_n 2, 1) := by decide +kernel
theorem od_Reader_acceptsDistances_48 : decode prog_6_method_11_code 48 = .ok (.aload_n 0, 1) := by decide +kernel
theorem od_Reader_acceptsDistances_49 : decode prog_6_method_11_code 49 = .ok (.getfield 21, 3) := by decide +kernel
theorem od_Reader_acceptsDistances_52 : decode prog_6_method_11_code 52 = .ok (.aload_n 0, 1) := by decide +kernel
theorem od_Reader_acceptsDistances_53 : decode prog_6_method_11_code 53 = .ok (.invokevirtual 147, 3) := by decide +kernel
theorem od_Reader_acceptsDistances_56 : decode prog_6_method_11_code 56 = .ok (.if_icmp .ge (15), 3) := by decide +kernel
theorem od_Reader_acceptsDistances_59 : decode prog_6_method_11_code 59 = .ok (.iload_n 2, 1) := by decide +kernel
theorem od_Reader_acceptsDistances_60 : decode prog_6_method_11_code 60 = .ok (.ifCond .lt (11), 3) := by decide +kernel
theorem od_Reader_acceptsDistances_63 : decode prog_6_method_11_code 63 = .ok (.aload_n 0, 1) := by decide +kernel
theorem od_Reader_acceptsDistances_64 : decode prog_6_method_11_code 64 = .ok (.iload_n 2, 1) := by decide +kernel
theorem od_Reader_acceptsDistances_65 : decode prog_6_method_11_code 65 = .ok (.invokevirtual 156, 3) := by decide +kernel
theorem od_Reader_acceptsDistances_68 : decode prog_6_method_11_code 68 = .ok (.ifCond .ne (5), 3) := by decide +kernel
theorem od_Reader_acceptsDistances_71 : decode prog_6_method_11_code 71 = .ok (.iconst 0, 1) := by decide +kernel
theorem od_Reader_acceptsDistances_72 : decode prog_6_method_11_code 72 = .ok (.ireturn, 1) := by decide +kernel
theorem od_Reader_acceptsDistances_73 : decode prog_6_method_11_code 73 = .ok (.aload_n 0, 1) := by decide +kernel
theorem od_Reader_acceptsDistances_74 : decode prog_6_method_11_code 74 = .ok (.getfield 37, 3) := by decide +kernel
theorem od_Reader_acceptsDistances_77 : decode prog_6_method_11_code 77 = .ok (.aload_n 0, 1) := by decide +kernel
theorem od_Reader_acceptsDistances_78 : decode prog_6_method_11_code 78 = .ok (.getfield 21, 3) := by decide +kernel
theorem od_Reader_acceptsDistances_81 : decode prog_6_method_11_code 81 = .ok (.bipush (8), 2) := by decide +kernel
theorem od_Reader_acceptsDistances_83 : decode prog_6_method_11_code 83 = .ok (.imul, 1) := by decide +kernel
theorem od_Reader_acceptsDistances_84 : decode prog_6_method_11_code 84 = .ok (.aload_n 0, 1) := by decide +kernel
theorem od_Reader_acceptsDistances_85 : decode prog_6_method_11_code 85 = .ok (.getfield 24, 3) := by decide +kernel
theorem od_Reader_acceptsDistances_88 : decode prog_6_method_11_code 88 = .ok (.iadd, 1) := by decide +kernel
theorem od_Reader_acceptsDistances_89 : decode prog_6_method_11_code 89 = .ok (.iload_n 2, 1) := by decide +kernel
theorem od_Reader_acceptsDistances_90 : decode prog_6_method_11_code 90 = .ok (.iastore, 1) := by decide +kernel
theorem od_Reader_acceptsDistances_91 : decode prog_6_method_11_code 91 = .ok (.aload_n 0, 1) := by decide +kernel
theorem od_Reader_acceptsDistances_92 : decode prog_6_method_11_code 92 = .ok (.getfield 37, 3) := by decide +kernel
theorem od_Reader_acceptsDistances_95 : decode prog_6_method_11_code 95 = .ok (.aload_n 0, 1) := by decide +kernel
theorem od_Reader_acceptsDistances_96 : decode prog_6_method_11_code 96 = .ok (.getfield 24, 3) := by decide +kernel
theorem od_Reader_acceptsDistances_99 : decode prog_6_method_11_code 99 = .ok (.bipush (8), 2) := by decide +kernel
theorem od_Reader_acceptsDistances_101 : decode prog_6_method_11_code 101 = .ok (.imul, 1) := by decide +kernel
theorem od_Reader_acceptsDistances_102 : decode prog_6_method_11_code 102 = .ok (.aload_n 0, 1) := by decide +kernel
theorem od_Reader_acceptsDistances_103 : decode prog_6_method_11_code 103 = .ok (.getfield 21, 3) := by decide +kernel
theorem od_Reader_acceptsDistances_106 : decode prog_6_method_11_code 106 = .ok (.iadd, 1) := by decide +kernel
theorem od_Reader_acceptsDistances_107 : decode prog_6_method_11_code 107 = .ok (.iload_n 2, 1) := by decide +kernel
theorem od_Reader_acceptsDistances_108 : decode prog_6_method_11_code 108 = .ok (.iastore, 1) := by decide +kernel
theorem od_Reader_acceptsDistances_109 : decode prog_6_method_11_code 109 = .ok (.aload_n 0, 1) := by decide +kernel
theorem od_Reader_acceptsDistances_110 : decode prog_6_method_11_code 110 = .ok (.invokevirtual 160, 3) := by decide +kernel
theorem od_Reader_acceptsDistances_113 : decode prog_6_method_11_code 113 = .ok (.iinc 1 (1), 3) := by decide +kernel
theorem od_Reader_acceptsDistances_116 : decode prog_6_method_11_code 116 = .ok (.goto (-88), 3) := by decide +kernel
theorem od_Reader_acceptsDistances_119 : decode prog_6_method_11_code 119 = .ok (.iconst 1, 1) := by decide +kernel
theorem od_Reader_acceptsDistances_120 : decode prog_6_method_11_code 120 = .ok (.ireturn, 1) := by decide +kernel
theorem od_Line_beginsWith_0 : decode prog_4_method_3_code 0 = .ok (.aload_n 0, 1) := by decide +kernel
theorem od_Line_beginsWith_1 : decode prog_4_method_3_code 1 = .ok (.getfield 22, 3) := by decide +kernel
theorem od_Line_beginsWith_4 : decode prog_4_method_3_code 4 = .ok (.aload_n 0, 1) := by decide +kernel
theorem od_Line_beginsWith_5 : decode prog_4_method_3_code 5 = .ok (.getfield 18, 3) := by decide +kernel
theorem od_Line_beginsWith_8 : decode prog_4_method_3_code 8 = .ok (.isub, 1) := by decide +kernel
theorem od_Line_beginsWith_9 : decode prog_4_method_3_code 9 = .ok (.aload_n 1, 1) := by decide +kernel
theorem od_Line_beginsWith_10 : decode prog_4_method_3_code 10 = .ok (.invokevirtual 35, 3) := by decide +kernel
theorem od_Line_beginsWith_13 : decode prog_4_method_3_code 13 = .ok (.if_icmp .lt (19), 3) := by decide +kernel
theorem od_Line_beginsWith_16 : decode prog_4_method_3_code 16 = .ok (.aload_n 0, 1) := by decide +kernel
theorem od_Line_beginsWith_17 : decode prog_4_method_3_code 17 = .ok (.aload_n 0, 1) := by decide +kernel
theorem od_Line_beginsWith_18 : decode prog_4_method_3_code 18 = .ok (.getfield 18, 3) := by decide +kernel
theorem od_Line_beginsWith_21 : decode prog_4_method_3_code 21 = .ok (.aload_n 1, 1) := by decide +kernel
theorem od_Line_beginsWith_22 : decode prog_4_method_3_code 22 = .ok (.invokevirtual 41, 3) := by decide +kernel
theorem od_Line_beginsWith_25 : decode prog_4_method_3_code 25 = .ok (.ifCond .eq (7), 3) := by decide +kernel
theorem od_Line_beginsWith_28 : decode prog_4_method_3_code 28 = .ok (.iconst 1, 1) := by decide +kernel
theorem od_Line_beginsWith_29 : decode prog_4_method_3_code 29 = .ok (.goto (4), 3) := by decide +kernel
theorem od_Line_beginsWith_32 : decode prog_4_method_3_code 32 = .ok (.iconst 0, 1) := by decide +kernel
theorem od_Line_beginsWith_33 : decode prog_4_method_3_code 33 = .ok (.ireturn, 1) := by decide +kernel
theorem od_Reader_acceptsFormat_0 : decode prog_6_method_8_code 0 = .ok (.aload_n 0, 1) := by decide +kernel
theorem od_Reader_acceptsFormat_1 : decode prog_6_method_8_code 1 = .ok (.getfield 15, 3) := by decide +kernel
theorem od_Reader_acceptsFormat_4 : decode prog_6_method_8_code 4 = .ok (.iconst 1, 1) := by decide +kernel
theorem od_Reader_acceptsFormat_5 : decode prog_6_method_8_code 5 = .ok (.if_icmp .ne (10), 3) := by decide +kernel
theorem od_Reader_acceptsFormat_8 : decode prog_6_method_8_code 8 = .ok (.aload_n 0, 1) := by decide +kernel
theorem od_Reader_acceptsFormat_9 : decode prog_6_method_8_code 9 = .ok (.getfield 18, 3) := by decide +kernel
theorem od_Reader_acceptsFormat_12 : decode prog_6_method_8_code 12 = .ok (.ifCond .eq (5), 3) := by decide +kernel
theorem od_Reader_acceptsFormat_15 : decode prog_6_method_8_code 15 = .ok (.iconst 0, 1) := by decide +kernel
theorem od_Reader_acceptsFormat_16 : decode prog_6_method_8_code 16 = .ok (.ireturn, 1) := by decide +kernel
theorem od_Reader_acceptsFormat_17 : decode prog_6_method_8_code 17 = .ok (.aload_n 0, 1) := by decide +kernel
theorem od_Reader_acceptsFormat_18 : decode prog_6_method_8_code 18 = .ok (.getfield 49, 3) := by decide +kernel
theorem od_Reader_acceptsFormat_21 : decode prog_6_method_8_code 21 = .ok (.iconst 1, 1) := by decide +kernel
theorem od_Reader_acceptsFormat_22 : decode prog_6_method_8_code 22 = .ok (.ldc 131, 2) := by decide +kernel
theorem od_Reader_acceptsFormat_24 : decode prog_6_method_8_code 24 = .ok (.invokevirtual 102, 3) := by decide +kernel
theorem od_Reader_acceptsFormat_27 : decode prog_6_method_8_code 27 = .ok (.ifCond .eq (11), 3) := by decide +kernel
theorem od_Reader_acceptsFormat_30 : decode prog_6_method_8_code 30 = .ok (.aload_n 0, 1) := by decide +kernel
theorem od_Reader_acceptsFormat_31 : decode prog_6_method_8_code 31 = .ok (.iconst 1, 1) := by decide +kernel
theorem od_Reader_acceptsFormat_32 : decode prog_6_method_8_code 32 = .ok (.putfield 18, 3) := by decide +kernel
theorem od_Reader_acceptsFormat_35 : decode prog_6_method_8_code 35 = .ok (.goto (42), 3) := by decide +kernel
theorem od_Reader_acceptsFormat_38 : decode prog_6_method_8_code 38 = .ok (.aload_n 0, 1) := by decide +kernel
theorem od_Reader_acceptsFormat_39 : decode prog_6_method_8_code 39 = .ok (.getfield 49, 3) := by decide +kernel
theorem od_Reader_acceptsFormat_42 : decode prog_6_method_8_code 42 = .ok (.iconst 1, 1) := by decide +kernel
theorem od_Reader_acceptsFormat_43 : decode prog_6_method_8_code 43 = .ok (.ldc 133, 2) := by decide +kernel
theorem od_Reader_acceptsFormat_45 : decode prog_6_method_8_code 45 = .ok (.invokevirtual 102, 3) := by decide +kernel
theorem od_Reader_acceptsFormat_48 : decode prog_6_method_8_code 48 = .ok (.ifCond .eq (11), 3) := by decide +kernel
theorem od_Reader_acceptsFormat_51 : decode prog_6_method_8_code 51 = .ok (.aload_n 0, 1) := by decide +kernel
theorem od_Reader_acceptsFormat_52 : decode prog_6_method_8_code 52 = .ok (.iconst 2, 1) := by decide +kernel
theorem od_Reader_acceptsFormat_53 : decode prog_6_method_8_code 53 = .ok (.putfield 18, 3) := by decide +kernel
theorem od_Reader_acceptsFormat_56 : decode prog_6_method_8_code 56 = .ok (.goto (21), 3) := by decide +kernel
theorem od_Reader_acceptsFormat_59 : decode prog_6_method_8_code 59 = .ok (.aload_n 0, 1) := by decide +kernel
theorem od_Reader_acceptsFormat_60 : decode prog_6_method_8_code 60 = .ok (.getfield 49, 3) := by decide +kernel
theorem od_Reader_acceptsFormat_63 : decode prog_6_method_8_code 63 = .ok (.iconst 1, 1) := by decide +kernel
theorem od_Reader_acceptsFormat_64 : decode prog_6_method_8_code 64 = .ok (.ldc 135, 2) := by decide +kernel
theorem od_Reader_acceptsFormat_66 : decode prog_6_method_8_code 66 = .ok (.invokevirtual 102, 3) := by decide +kernel
theorem od_Reader_acceptsFormat_69 : decode prog_6_method_8_code 69 = .ok (.ifCond .eq (8), 3) := by decide +kernel
theorem od_Reader_acceptsFormat_72 : decode prog_6_method_8_code 72 = .ok (.aload_n 0, 1) := by decide +kernel
theorem od_Reader_acceptsFormat_73 : decode prog_6_method_8_code 73 = .ok (.iconst 3, 1) := by decide +kernel
theorem od_Reader_acceptsFormat_74 : decode prog_6_method_8_code 74 = .ok (.putfield 18, 3) := by decide +kernel
theorem od_Reader_acceptsFormat_77 : decode prog_6_method_8_code 77 = .ok (.aload_n 0, 1) := by decide +kernel
theorem od_Reader_acceptsFormat_78 : decode prog_6_method_8_code 78 = .ok (.getfield 18, 3) := by decide +kernel
theorem od_Reader_acceptsFormat_81 : decode prog_6_method_8_code 81 = .ok (.ifCond .eq (7), 3) := by decide +kernel
theorem od_Reader_acceptsFormat_84 : decode prog_6_method_8_code 84 = .ok (.iconst 1, 1) := by decide +kernel
theorem od_Reader_acceptsFormat_85 : decode prog_6_method_8_code 85 = .ok (.goto (4), 3) := by decide +kernel
theorem od_Reader_acceptsFormat_88 : decode prog_6_method_8_code 88 = .ok (.iconst 0, 1) := by decide +kernel
theorem od_Reader_acceptsFormat_89 : decode prog_6_method_8_code 89 = .ok (.ireturn, 1) := by decide +kernel
theorem od_Reader_acceptsType_0 : decode prog_6_method_7_code 0 = .ok (.aload_n 0, 1) := by decide +kernel
theorem od_Reader_acceptsType_1 : decode prog_6_method_7_code 1 = .ok (.getfield 15, 3) := by decide +kernel
theorem od_Reader_acceptsType_4 : decode prog_6_method_7_code 4 = .ok (.ifCond .eq (5), 3) := by decide +kernel
theorem od_Reader_acceptsType_7 : decode prog_6_method_7_code 7 = .ok (.iconst 0, 1) := by decide +kernel
theorem od_Reader_acceptsType_8 : decode prog_6_method_7_code 8 = .ok (.ireturn, 1) := by decide +kernel
theorem od_Reader_acceptsType_9 : decode prog_6_method_7_code 9 = .ok (.aload_n 0, 1) := by decide +kernel
theorem od_Reader_acceptsType_10 : decode prog_6_method_7_code 10 = .ok (.getfield 49, 3) := by decide +kernel
theorem od_Reader_acceptsType_13 : decode prog_6_method_7_code 13 = .ok (.iconst 1, 1) := by decide +kernel
theorem od_Reader_acceptsType_14 : decode prog_6_method_7_code 14 = .ok (.ldc 123, 2) := by decide +kernel
theorem od_Reader_acceptsType_16 : decode prog_6_method_7_code 16 = .ok (.invokevirtual 102, 3) := by decide +kernel
theorem od_Reader_acceptsType_19 : decode prog_6_method_7_code 19 = .ok (.ifCond .eq (11), 3) := by decide +kernel
theorem od_Reader_acceptsType_22 : decode prog_6_method_7_code 22 = .ok (.aload_n 0, 1) := by decide +kernel
theorem od_Reader_acceptsType_23 : decode prog_6_method_7_code 23 = .ok (.iconst 1, 1) := by decide +kernel
theorem od_Reader_acceptsType_24 : decode prog_6_method_7_code 24 = .ok (.putfield 15, 3) := by decide +kernel
theorem od_Reader_acceptsType_27 : decode prog_6_method_7_code 27 = .ok (.goto (63), 3) := by decide +kernel
theorem od_Reader_acceptsType_30 : decode prog_6_method_7_code 30 = .ok (.aload_n 0, 1) := by decide +kernel
theorem od_Reader_acceptsType_31 : decode prog_6_method_7_code 31 = .ok (.getfield 49, 3) := by decide +kernel
theorem od_Reader_acceptsType_34 : decode prog_6_method_7_code 34 = .ok (.iconst 1, 1) := by decide +kernel
theorem od_Reader_acceptsType_35 : decode prog_6_method_7_code 35 = .ok (.ldc 125, 2) := by decide +kernel
theorem od_Reader_acceptsType_37 : decode prog_6_method_7_code 37 = .ok (.invokevirtual 102, 3) := by decide +kernel
theorem od_Reader_acceptsType_40 : decode prog_6_method_7_code 40 = .ok (.ifCond .eq (11), 3) := by decide +kernel
theorem od_Reader_acceptsType_43 : decode prog_6_method_7_code 43 = .ok (.aload_n 0, 1) := by decide +kernel
theorem od_Reader_acceptsType_44 : decode prog_6_method_7_code 44 = .ok (.iconst 2, 1) := by decide +kernel
theorem od_Reader_acceptsType_45 : decode prog_6_method_7_code 45 = .ok (.putfield 15, 3) := by decide +kernel
theorem od_Reader_acceptsType_48 : decode prog_6_method_7_code 48 = .ok (.goto (42), 3) := by decide +kernel
theorem od_Reader_acceptsType_51 : decode prog_6_method_7_code 51 = .ok (.aload_n 0, 1) := by decide +kernel
theorem od_Reader_acceptsType_52 : decode prog_6_method_7_code 52 = .ok (.getfield 49, 3) := by decide +kernel
theorem od_Reader_acceptsType_55 : decode prog_6_method_7_code 55 = .ok (.iconst 1, 1) := by decide +kernel
theorem od_Reader_acceptsType_56 : decode prog_6_method_7_code 56 = .ok (.ldc 127, 2) := by decide +kernel
theorem od_Reader_acceptsType_58 : decode prog_6_method_7_code 58 = .ok (.invokevirtual 102, 3) := by decide +kernel
theorem od_Reader_acceptsType_61 : decode prog_6_method_7_code 61 = .ok (.ifCond .eq (11), 3) := by decide +kernel
theorem od_Reader_acceptsType_64 : decode prog_6_method_7_code 64 = .ok (.aload_n 0, 1) := by decide +kernel
theorem od_Reader_acceptsType_65 : decode prog_6_method_7_code 65 = .ok (.iconst 3, 1) := by decide +kernel
theorem od_Reader_acceptsType_66 : decode prog_6_method_7_code 66 = .ok (.putfield 15, 3) := by decide +kernel
theorem od_Reader_acceptsType_69 : decode prog_6_method_7_code 69 = .ok (.goto (21), 3) := by decide +kernel
theorem od_Reader_acceptsType_72 : decode prog_6_method_7_code 72 = .ok (.aload_n 0, 1) := by decide +kernel
theorem od_Reader_acceptsType_73 : decode prog_6_method_7_code 73 = .ok (.getfield 49, 3) := by decide +kernel
theorem od_Reader_acceptsType_76 : decode prog_6_method_7_code 76 = .ok (.iconst 1, 1) := by decide +kernel
theorem od_Reader_acceptsType_77 : decode prog_6_method_7_code 77 = .ok (.ldc 129, 2) := by decide +kernel
theorem od_Reader_acceptsType_79 : decode prog_6_method_7_code 79 = .ok (.invokevirtual 102, 3) := by decide +kernel
theorem od_Reader_acceptsType_82 : decode prog_6_method_7_code 82 = .ok (.ifCond .eq (8), 3) := by decide +kernel
theorem od_Reader_acceptsType_85 : decode prog_6_method_7_code 85 = .ok (.aload_n 0, 1) := by decide +kernel
theorem od_Reader_acceptsType_86 : decode prog_6_method_7_code 86 = .ok (.iconst 4, 1) := by decide +kernel
theorem od_Reader_acceptsType_87 : decode prog_6_method_7_code 87 = .ok (.putfield 15, 3) := by decide +kernel
theorem od_Reader_acceptsType_90 : decode prog_6_method_7_code 90 = .ok (.aload_n 0, 1) := by decide +kernel
theorem od_Reader_acceptsType_91 : decode prog_6_method_7_code 91 = .ok (.getfield 15, 3) := by decide +kernel
theorem od_Reader_acceptsType_94 : decode prog_6_method_7_code 94 = .ok (.ifCond .eq (7), 3) := by decide +kernel
theorem od_Reader_acceptsType_97 : decode prog_6_method_7_code 97 = .ok (.iconst 1, 1) := by decide +kernel
theorem od_Reader_acceptsType_98 : decode prog_6_method_7_code 98 = .ok (.goto (4), 3) := by decide +kernel
theorem od_Reader_acceptsType_101 : decode prog_6_method_7_code 101 = .ok (.iconst 0, 1) := by decide +kernel
theorem od_Reader_acceptsType_102 : decode prog_6_method_7_code 102 = .ok (.ireturn, 1) := by decide +kernel
theorem od_Reader_acceptsDimension_0 : decode prog_6_method_6_code 0 = .ok (.aload_n 0, 1) := by decide +kernel
theorem od_Reader_acceptsDimension_1 : decode prog_6_method_6_code 1 = .ok (.getfield 49, 3) := by decide +kernel
theorem od_Reader_acceptsDimension_4 : decode prog_6_method_6_code 4 = .ok (.iconst 1, 1) := by decide +kernel
theorem od_Reader_acceptsDimension_5 : decode prog_6_method_6_code 5 = .ok (.invokevirtual 119, 3) := by decide +kernel
theorem od_Reader_acceptsDimension_8 : decode prog_6_method_6_code 8 = .ok (.istore_n 1, 1) := by decide +kernel
theorem od_Reader_acceptsDimension_9 : decode prog_6_method_6_code 9 = .ok (.aload_n 0, 1) := by decide +kernel
theorem od_Reader_acceptsDimension_10 : decode prog_6_method_6_code 10 = .ok (.getfield 34, 3) := by decide +kernel
theorem od_Reader_acceptsDimension_13 : decode prog_6_method_6_code 13 = .ok (.ifCond .ne (14), 3) := by decide +kernel
theorem od_Reader_acceptsDimension_16 : decode prog_6_method_6_code 16 = .ok (.iload_n 1, 1) := by decide +kernel
theorem od_Reader_acceptsDimension_17 : decode prog_6_method_6_code 17 = .ok (.iconst 3, 1) := by decide +kernel
theorem od_Reader_acceptsDimension_18 : decode prog_6_method_6_code 18 = .ok (.if_icmp .lt (9), 3) := by decide +kernel
theorem od_Reader_acceptsDimension_21 : decode prog_6_method_6_code 21 = .ok (.iload_n 1, 1) := by decide +kernel
theorem od_Reader_acceptsDimension_22 : decode prog_6_method_6_code 22 = .ok (.bipush (8), 2) := by decide +kernel
theorem od_Reader_acceptsDimension_24 : decode prog_6_method_6_code 24 = .ok (.if_icmp .le (5), 3) := by decide +kernel
theorem od_Reader_acceptsDimension_27 : decode prog_6_method_6_code 27 = .ok (.iconst 0, 1) := by decide +kernel
theorem od_Reader_acceptsDimension_28 : decode prog_6_method_6_code 28 = .ok (.ireturn, 1) := by decide +kernel
theorem od_Reader_acceptsDimension_29 : decode prog_6_method_6_code 29 = .ok (.aload_n 0, 1) := by decide +kernel
theorem od_Reader_acceptsDimension_30 : decode prog_6_method_6_code 30 = .ok (.iload_n 1, 1) := by decide +kernel
theorem od_Reader_acceptsDimension_31 : decode prog_6_method_6_code 31 = .ok (.putfield 34, 3) := by decide +kernel
theorem od_Reader_acceptsDimension_34 : decode prog_6_method_6_code 34 = .ok (.iconst 1, 1) := by decide +kernel
theorem od_Reader_acceptsDimension_35 : decode prog_6_method_6_code 35 = .ok (.ireturn, 1) := by decide +kernel
theorem od_Reader_acceptsSection_0 : decode prog_6_method_9_code 0 = .ok (.aload_n 0, 1) := by decide +kernel
theorem od_Reader_acceptsSection_1 : decode prog_6_method_9_code 1 = .ok (.getfield 34, 3) := by decide +kernel
theorem od_Reader_acceptsSection_4 : decode prog_6_method_9_code 4 = .ok (.ifCond .eq (25), 3) := by decide +kernel
theorem od_Reader_acceptsSection_7 : decode prog_6_method_9_code 7 = .ok (.aload_n 0, 1) := by decide +kernel
theorem od_Reader_acceptsSection_8 : decode prog_6_method_9_code 8 = .ok (.getfield 15, 3) := by decide +kernel
theorem od_Reader_acceptsSection_11 : decode prog_6_method_9_code 11 = .ok (.ifCond .eq (18), 3) := by decide +kernel
theorem od_Reader_acceptsSection_14 : decode prog_6_method_9_code 14 = .ok (.aload_n 0, 1) := by decide +kernel
theorem od_Reader_acceptsSection_15 : decode prog_6_method_9_code 15 = .ok (.getfield 15, 3) := by decide +kernel
theorem od_Reader_acceptsSection_18 : decode prog_6_method_9_code 18 = .ok (.iconst 1, 1) := by decide +kernel
theorem od_Reader_acceptsSection_19 : decode prog_6_method_9_code 19 = .ok (.if_icmp .ne (12), 3) := by decide +kernel
theorem od_Reader_acceptsSection_22 : decode prog_6_method_9_code 22 = .ok (.aload_n 0, 1) := by decide +kernel
theorem od_Reader_acceptsSection_23 : decode prog_6_method_9_code 23 = .ok (.getfield 18, 3) := by decide +kernel
theorem od_Reader_acceptsSection_26 : decode prog_6_method_9_code 26 = .ok (.ifCond .ne (5), 3) := by decide +kernel
theorem od_Reader_acceptsSection_29 : decode prog_6_method_9_code 29 = .ok (.iconst 0, 1) := by decide +kernel
theorem od_Reader_acceptsSection_30 : decode prog_6_method_9_code 30 = .ok (.ireturn, 1) := by decide +kernel
theorem od_Reader_acceptsSection_31 : decode prog_6_method_9_code 31 = .ok (.aload_n 0, 1) := by decide +kernel
theorem od_Reader_acceptsSection_32 : decode prog_6_method_9_code 32 = .ok (.getfield 15, 3) := by decide +kernel
theorem od_Reader_acceptsSection_35 : decode prog_6_method_9_code 35 = .ok (.iconst 1, 1) := by decide +kernel
theorem od_Reader_acceptsSection_36 : decode prog_6_method_9_code 36 = .ok (.if_icmp .ne (8), 3) := by decide +kernel
theorem od_Reader_acceptsSection_39 : decode prog_6_method_9_code 39 = .ok (.ldc 137, 2) := by decide +kernel
theorem od_Reader_acceptsSection_41 : decode prog_6_method_9_code 41 = .ok (.goto (5), 3) := by decide +kernel
theorem od_Reader_acceptsSection_44 : decode prog_6_method_9_code 44 = .ok (.ldc 139, 2) := by decide +kernel
theorem od_Reader_acceptsSection_46 : decode prog_6_method_9_code 46 = .ok (.astore_n 1, 1) := by decide +kernel
theorem od_Reader_acceptsSection_47 : decode prog_6_method_9_code 47 = .ok (.aload_n 0, 1) := by decide +kernel
theorem od_Reader_acceptsSection_48 : decode prog_6_method_9_code 48 = .ok (.getfield 49, 3) := by decide +kernel
theorem od_Reader_acceptsSection_51 : decode prog_6_method_9_code 51 = .ok (.iconst 0, 1) := by decide +kernel
theorem od_Reader_acceptsSection_52 : decode prog_6_method_9_code 52 = .ok (.aload_n 1, 1) := by decide +kernel
theorem od_Reader_acceptsSection_53 : decode prog_6_method_9_code 53 = .ok (.invokevirtual 102, 3) := by decide +kernel
theorem od_Reader_acceptsSection_56 : decode prog_6_method_9_code 56 = .ok (.ifCond .ne (5), 3) := by decide +kernel
theorem od_Reader_acceptsSection_59 : decode prog_6_method_9_code 59 = .ok (.iconst 0, 1) := by decide +kernel
theorem od_Reader_acceptsSection_60 : decode prog_6_method_9_code 60 = .ok (.ireturn, 1) := by decide +kernel
theorem od_Reader_acceptsSection_61 : decode prog_6_method_9_code 61 = .ok (.aload_n 0, 1) := by decide +kernel
theorem od_Reader_acceptsSection_62 : decode prog_6_method_9_code 62 = .ok (.iconst 1, 1) := by decide +kernel
theorem od_Reader_acceptsSection_63 : decode prog_6_method_9_code 63 = .ok (.putfield 11, 3) := by decide +kernel
theorem od_Reader_acceptsSection_66 : decode prog_6_method_9_code 66 = .ok (.aload_n 0, 1) := by decide +kernel
theorem od_Reader_acceptsSection_67 : decode prog_6_method_9_code 67 = .ok (.iconst 0, 1) := by decide +kernel
theorem od_Reader_acceptsSection_68 : decode prog_6_method_9_code 68 = .ok (.putfield 21, 3) := by decide +kernel
theorem od_Reader_acceptsSection_71 : decode prog_6_method_9_code 71 = .ok (.aload_n 0, 1) := by decide +kernel
theorem od_Reader_acceptsSection_72 : decode prog_6_method_9_code 72 = .ok (.aload_n 0, 1) := by decide +kernel
theorem od_Reader_acceptsSection_73 : decode prog_6_method_9_code 73 = .ok (.invokevirtual 141, 3) := by decide +kernel
theorem od_Reader_acceptsSection_76 : decode prog_6_method_9_code 76 = .ok (.putfield 24, 3) := by decide +kernel
theorem od_Reader_acceptsSection_79 : decode prog_6_method_9_code 79 = .ok (.iconst 1, 1) := by decide +kernel
theorem od_Reader_acceptsSection_80 : decode prog_6_method_9_code 80 = .ok (.ireturn, 1) := by decide +kernel
theorem od_Reader_acceptsHead_0 : decode prog_6_method_5_code 0 = .ok (.aload_n 0, 1) := by decide +kernel
theorem od_Reader_acceptsHead_1 : decode prog_6_method_5_code 1 = .ok (.getfield 49, 3) := by decide +kernel
theorem od_Reader_acceptsHead_4 : decode prog_6_method_5_code 4 = .ok (.ldc 88, 2) := by decide +kernel
theorem od_Reader_acceptsHead_6 : decode prog_6_method_5_code 6 = .ok (.invokevirtual 90, 3) := by decide +kernel
theorem od_Reader_acceptsHead_9 : decode prog_6_method_5_code 9 = .ok (.ifCond .eq (5), 3) := by decide +kernel
theorem od_Reader_acceptsHead_12 : decode prog_6_method_5_code 12 = .ok (.iconst 1, 1) := by decide +kernel
theorem od_Reader_acceptsHead_13 : decode prog_6_method_5_code 13 = .ok (.ireturn, 1) := by decide +kernel
theorem od_Reader_acceptsHead_14 : decode prog_6_method_5_code 14 = .ok (.aload_n 0, 1) := by decide +kernel
theorem od_Reader_acceptsHead_15 : decode prog_6_method_5_code 15 = .ok (.getfield 49, 3) := by decide +kernel
theorem od_Reader_acceptsHead_18 : decode prog_6_method_5_code 18 = .ok (.getfield 94, 3) := by decide +kernel
theorem od_Reader_acceptsHead_21 : decode prog_6_method_5_code 21 = .ok (.iconst 1, 1) := by decide +kernel
theorem od_Reader_acceptsHead_22 : decode prog_6_method_5_code 22 = .ok (.if_icmp .ne (8), 3) := by decide +kernel
theorem od_Reader_acceptsHead_25 : decode prog_6_method_5_code 25 = .ok (.aload_n 0, 1) := by decide +kernel
theorem od_Reader_acceptsHead_26 : decode prog_6_method_5_code 26 = .ok (.invokevirtual 97, 3) := by decide +kernel
theorem od_Reader_acceptsHead_29 : decode prog_6_method_5_code 29 = .ok (.ireturn, 1) := by decide +kernel
theorem od_Reader_acceptsHead_30 : decode prog_6_method_5_code 30 = .ok (.aload_n 0, 1) := by decide +kernel
theorem od_Reader_acceptsHead_31 : decode prog_6_method_5_code 31 = .ok (.getfield 49, 3) := by decide +kernel
theorem od_Reader_acceptsHead_34 : decode prog_6_method_5_code 34 = .ok (.getfield 94, 3) := by decide +kernel
theorem od_Reader_acceptsHead_37 : decode prog_6_method_5_code 37 = .ok (.iconst 2, 1) := by decide +kernel
theorem od_Reader_acceptsHead_38 : decode prog_6_method_5_code 38 = .ok (.if_icmp .eq (5), 3) := by decide +kernel
theorem od_Reader_acceptsHead_41 : decode prog_6_method_5_code 41 = .ok (.iconst 0, 1) := by decide +kernel
theorem od_Reader_acceptsHead_42 : decode prog_6_method_5_code 42 = .ok (.ireturn, 1) := by decide +kernel
theorem od_Reader_acceptsHead_43 : decode prog_6_method_5_code 43 = .ok (.aload_n 0, 1) := by decide +kernel
theorem od_Reader_acceptsHead_44 : decode prog_6_method_5_code 44 = .ok (.getfield 49, 3) := by decide +kernel
theorem od_Reader_acceptsHead_47 : decode prog_6_method_5_code 47 = .ok (.iconst 0, 1) := by decide +kernel
theorem od_Reader_acceptsHead_48 : decode prog_6_method_5_code 48 = .ok (.ldc 100, 2) := by decide +kernel
theorem od_Reader_acceptsHead_50 : decode prog_6_method_5_code 50 = .ok (.invokevirtual 102, 3) := by decide +kernel
theorem od_Reader_acceptsHead_53 : decode prog_6_method_5_code 53 = .ok (.ifCond .eq (8), 3) := by decide +kernel
theorem od_Reader_acceptsHead_56 : decode prog_6_method_5_code 56 = .ok (.aload_n 0, 1) := by decide +kernel
theorem od_Reader_acceptsHead_57 : decode prog_6_method_5_code 57 = .ok (.invokevirtual 106, 3) := by decide +kernel
theorem od_Reader_acceptsHead_60 : decode prog_6_method_5_code 60 = .ok (.ireturn, 1) := by decide +kernel
theorem od_Reader_acceptsHead_61 : decode prog_6_method_5_code 61 = .ok (.aload_n 0, 1) := by decide +kernel
