theorem od_Mo_begins_27 : decode prog_11_method_7_code 27 = .ok (.caload, 1) := by decide +kernel
theorem od_Mo_begins_28 : decode prog_11_method_7_code 28 = .ok (.iload_n 1, 1) := by decide +kernel
theorem od_Mo_begins_29 : decode prog_11_method_7_code 29 = .ok (.iload_n 3, 1) := by decide +kernel
theorem od_Mo_begins_30 : decode prog_11_method_7_code 30 = .ok (.invokestatic 121, 3) := by decide +kernel
theorem od_Mo_begins_33 : decode prog_11_method_7_code 33 = .ok (.if_icmp .eq (5), 3) := by decide +kernel
theorem od_Mo_begins_36 : decode prog_11_method_7_code 36 = .ok (.iconst 0, 1) := by decide +kernel
theorem od_Mo_begins_37 : decode prog_11_method_7_code 37 = .ok (.ireturn, 1) := by decide +kernel
theorem od_Mo_begins_38 : decode prog_11_method_7_code 38 = .ok (.iinc 3 (1), 3) := by decide +kernel
theorem od_Mo_begins_41 : decode prog_11_method_7_code 41 = .ok (.goto (-39), 3) := by decide +kernel
theorem od_Mo_begins_44 : decode prog_11_method_7_code 44 = .ok (.iload_n 3, 1) := by decide +kernel
theorem od_Mo_begins_45 : decode prog_11_method_7_code 45 = .ok (.ireturn, 1) := by decide +kernel
theorem od_Mo_is_0 : decode prog_11_method_8_code 0 = .ok (.aload_n 0, 1) := by decide +kernel
theorem od_Mo_is_1 : decode prog_11_method_8_code 1 = .ok (.getfield 112, 3) := by decide +kernel
theorem od_Mo_is_4 : decode prog_11_method_8_code 4 = .ok (.aload_n 0, 1) := by decide +kernel
theorem od_Mo_is_5 : decode prog_11_method_8_code 5 = .ok (.getfield 118, 3) := by decide +kernel
theorem od_Mo_is_8 : decode prog_11_method_8_code 8 = .ok (.if_icmp .le (28), 3) := by decide +kernel
theorem od_Mo_is_11 : decode prog_11_method_8_code 11 = .ok (.aload_n 0, 1) := by decide +kernel
theorem od_Mo_is_12 : decode prog_11_method_8_code 12 = .ok (.iload_n 1, 1) := by decide +kernel
theorem od_Mo_is_13 : decode prog_11_method_8_code 13 = .ok (.aload_n 0, 1) := by decide +kernel
theorem od_Mo_is_14 : decode prog_11_method_8_code 14 = .ok (.getfield 118, 3) := by decide +kernel
theorem od_Mo_is_17 : decode prog_11_method_8_code 17 = .ok (.invokevirtual 125, 3) := by decide +kernel
theorem od_Mo_is_20 : decode prog_11_method_8_code 20 = .ok (.aload_n 0, 1) := by decide +kernel
theorem od_Mo_is_21 : decode prog_11_method_8_code 21 = .ok (.getfield 112, 3) := by decide +kernel
theorem od_Mo_is_24 : decode prog_11_method_8_code 24 = .ok (.aload_n 0, 1) := by decide +kernel
theorem od_Mo_is_25 : decode prog_11_method_8_code 25 = .ok (.getfield 118, 3) := by decide +kernel
theorem od_Mo_is_28 : decode prog_11_method_8_code 28 = .ok (.isub, 1) := by decide +kernel
theorem od_Mo_is_29 : decode prog_11_method_8_code 29 = .ok (.if_icmp .ne (7), 3) := by decide +kernel
theorem od_Mo_is_32 : decode prog_11_method_8_code 32 = .ok (.iconst 1, 1) := by decide +kernel
theorem od_Mo_is_33 : decode prog_11_method_8_code 33 = .ok (.goto (4), 3) := by decide +kernel
theorem od_Mo_is_36 : decode prog_11_method_8_code 36 = .ok (.iconst 0, 1) := by decide +kernel
theorem od_Mo_is_37 : decode prog_11_method_8_code 37 = .ok (.ireturn, 1) := by decide +kernel
theorem od_Mo_choice_0 : decode prog_11_method_12_code 0 = .ok (.aload_n 0, 1) := by decide +kernel
theorem od_Mo_choice_1 : decode prog_11_method_12_code 1 = .ok (.invokevirtual 128, 3) := by decide +kernel
theorem od_Mo_choice_4 : decode prog_11_method_12_code 4 = .ok (.istore_n 3, 1) := by decide +kernel
theorem od_Mo_choice_5 : decode prog_11_method_12_code 5 = .ok (.iconst (-1), 1) := by decide +kernel
theorem od_Mo_choice_6 : decode prog_11_method_12_code 6 = .ok (.istore 4, 2) := by decide +kernel
theorem od_Mo_choice_8 : decode prog_11_method_12_code 8 = .ok (.iload_n 1, 1) := by decide +kernel
theorem od_Mo_choice_9 : decode prog_11_method_12_code 9 = .ok (.istore 5, 2) := by decide +kernel
theorem od_Mo_choice_11 : decode prog_11_method_12_code 11 = .ok (.iload 5, 2) := by decide +kernel
theorem od_Mo_choice_13 : decode prog_11_method_12_code 13 = .ok (.iload_n 2, 1) := by decide +kernel
theorem od_Mo_choice_14 : decode prog_11_method_12_code 14 = .ok (.if_icmp .gt (31), 3) := by decide +kernel
theorem od_Mo_choice_17 : decode prog_11_method_12_code 17 = .ok (.iload_n 3, 1) := by decide +kernel
theorem od_Mo_choice_18 : decode prog_11_method_12_code 18 = .ok (.ifCond .eq (27), 3) := by decide +kernel
theorem od_Mo_choice_21 : decode prog_11_method_12_code 21 = .ok (.aload_n 0, 1) := by decide +kernel
theorem od_Mo_choice_22 : decode prog_11_method_12_code 22 = .ok (.iload 5, 2) := by decide +kernel
theorem od_Mo_choice_24 : decode prog_11_method_12_code 24 = .ok (.invokevirtual 132, 3) := by decide +kernel
theorem od_Mo_choice_27 : decode prog_11_method_12_code 27 = .ok (.ifCond .eq (8), 3) := by decide +kernel
theorem od_Mo_choice_30 : decode prog_11_method_12_code 30 = .ok (.iload 5, 2) := by decide +kernel
theorem od_Mo_choice_32 : decode prog_11_method_12_code 32 = .ok (.goto (5), 3) := by decide +kernel
theorem od_Mo_choice_35 : decode prog_11_method_12_code 35 = .ok (.iload 4, 2) := by decide +kernel
theorem od_Mo_choice_37 : decode prog_11_method_12_code 37 = .ok (.istore 4, 2) := by decide +kernel
theorem od_Mo_choice_39 : decode prog_11_method_12_code 39 = .ok (.iinc 5 (1), 3) := by decide +kernel
theorem od_Mo_choice_42 : decode prog_11_method_12_code 42 = .ok (.goto (-31), 3) := by decide +kernel
theorem od_Mo_choice_45 : decode prog_11_method_12_code 45 = .ok (.aload_n 0, 1) := by decide +kernel
theorem od_Mo_choice_46 : decode prog_11_method_12_code 46 = .ok (.invokevirtual 136, 3) := by decide +kernel
theorem od_Mo_choice_49 : decode prog_11_method_12_code 49 = .ok (.ifCond .eq (8), 3) := by decide +kernel
theorem od_Mo_choice_52 : decode prog_11_method_12_code 52 = .ok (.iload 4, 2) := by decide +kernel
theorem od_Mo_choice_54 : decode prog_11_method_12_code 54 = .ok (.goto (4), 3) := by decide +kernel
theorem od_Mo_choice_57 : decode prog_11_method_12_code 57 = .ok (.iconst (-1), 1) := by decide +kernel
theorem od_Mo_choice_58 : decode prog_11_method_12_code 58 = .ok (.ireturn, 1) := by decide +kernel
theorem od_Mo_header_0 : decode prog_11_method_13_code 0 = .ok (.aload_n 0, 1) := by decide +kernel
theorem od_Mo_header_1 : decode prog_11_method_13_code 1 = .ok (.iconst 0, 1) := by decide +kernel
theorem od_Mo_header_2 : decode prog_11_method_13_code 2 = .ok (.aload_n 0, 1) := by decide +kernel
theorem od_Mo_header_3 : decode prog_11_method_13_code 3 = .ok (.getfield 112, 3) := by decide +kernel
theorem od_Mo_header_6 : decode prog_11_method_13_code 6 = .ok (.invokevirtual 125, 3) := by decide +kernel
theorem od_Mo_header_9 : decode prog_11_method_13_code 9 = .ok (.ifCond .le (5), 3) := by decide +kernel
theorem od_Mo_header_12 : decode prog_11_method_13_code 12 = .ok (.iconst 1, 1) := by decide +kernel
theorem od_Mo_header_13 : decode prog_11_method_13_code 13 = .ok (.ireturn, 1) := by decide +kernel
theorem od_Mo_header_14 : decode prog_11_method_13_code 14 = .ok (.aload_n 0, 1) := by decide +kernel
theorem od_Mo_header_15 : decode prog_11_method_13_code 15 = .ok (.invokevirtual 128, 3) := by decide +kernel
theorem od_Mo_header_18 : decode prog_11_method_13_code 18 = .ok (.ifCond .ne (5), 3) := by decide +kernel
theorem od_Mo_header_21 : decode prog_11_method_13_code 21 = .ok (.iconst 0, 1) := by decide +kernel
theorem od_Mo_header_22 : decode prog_11_method_13_code 22 = .ok (.ireturn, 1) := by decide +kernel
theorem od_Mo_header_23 : decode prog_11_method_13_code 23 = .ok (.aload_n 0, 1) := by decide +kernel
theorem od_Mo_header_24 : decode prog_11_method_13_code 24 = .ok (.iconst 1, 1) := by decide +kernel
theorem od_Mo_header_25 : decode prog_11_method_13_code 25 = .ok (.invokevirtual 132, 3) := by decide +kernel
theorem od_Mo_header_28 : decode prog_11_method_13_code 28 = .ok (.ifCond .eq (87), 3) := by decide +kernel
theorem od_Mo_header_31 : decode prog_11_method_13_code 31 = .ok (.aload_n 0, 1) := by decide +kernel
theorem od_Mo_header_32 : decode prog_11_method_13_code 32 = .ok (.getfield 139, 3) := by decide +kernel
theorem od_Mo_header_35 : decode prog_11_method_13_code 35 = .ok (.ifCond .ne (21), 3) := by decide +kernel
theorem od_Mo_header_38 : decode prog_11_method_13_code 38 = .ok (.aload_n 0, 1) := by decide +kernel
theorem od_Mo_header_39 : decode prog_11_method_13_code 39 = .ok (.invokevirtual 128, 3) := by decide +kernel
theorem od_Mo_header_42 : decode prog_11_method_13_code 42 = .ok (.ifCond .eq (14), 3) := by decide +kernel
theorem od_Mo_header_45 : decode prog_11_method_13_code 45 = .ok (.aload_n 0, 1) := by decide +kernel
theorem od_Mo_header_46 : decode prog_11_method_13_code 46 = .ok (.invokevirtual 142, 3) := by decide +kernel
theorem od_Mo_header_49 : decode prog_11_method_13_code 49 = .ok (.ifCond .eq (7), 3) := by decide +kernel
theorem od_Mo_header_52 : decode prog_11_method_13_code 52 = .ok (.iconst 1, 1) := by decide +kernel
theorem od_Mo_header_53 : decode prog_11_method_13_code 53 = .ok (.goto (4), 3) := by decide +kernel
theorem od_Mo_header_56 : decode prog_11_method_13_code 56 = .ok (.iconst 0, 1) := by decide +kernel
theorem od_Mo_header_57 : decode prog_11_method_13_code 57 = .ok (.istore_n 1, 1) := by decide +kernel
theorem od_Mo_header_58 : decode prog_11_method_13_code 58 = .ok (.iload_n 1, 1) := by decide +kernel
theorem od_Mo_header_59 : decode prog_11_method_13_code 59 = .ok (.ifCond .eq (10), 3) := by decide +kernel
theorem od_Mo_header_62 : decode prog_11_method_13_code 62 = .ok (.aload_n 0, 1) := by decide +kernel
theorem od_Mo_header_63 : decode prog_11_method_13_code 63 = .ok (.invokevirtual 145, 3) := by decide +kernel
theorem od_Mo_header_66 : decode prog_11_method_13_code 66 = .ok (.goto (4), 3) := by decide +kernel
theorem od_Mo_header_69 : decode prog_11_method_13_code 69 = .ok (.iconst 0, 1) := by decide +kernel
theorem od_Mo_header_70 : decode prog_11_method_13_code 70 = .ok (.istore_n 2, 1) := by decide +kernel
theorem od_Mo_header_71 : decode prog_11_method_13_code 71 = .ok (.aload_n 0, 1) := by decide +kernel
theorem od_Mo_header_72 : decode prog_11_method_13_code 72 = .ok (.iload_n 1, 1) := by decide +kernel
theorem od_Mo_header_73 : decode prog_11_method_13_code 73 = .ok (.ifCond .eq (7), 3) := by decide +kernel
theorem od_Mo_header_76 : decode prog_11_method_13_code 76 = .ok (.iload_n 2, 1) := by decide +kernel
theorem od_Mo_header_77 : decode prog_11_method_13_code 77 = .ok (.goto (7), 3) := by decide +kernel
theorem od_Mo_header_80 : decode prog_11_method_13_code 80 = .ok (.aload_n 0, 1) := by decide +kernel
theorem od_Mo_header_81 : decode prog_11_method_13_code 81 = .ok (.getfield 139, 3) := by decide +kernel
theorem od_Mo_header_84 : decode prog_11_method_13_code 84 = .ok (.putfield 139, 3) := by decide +kernel
theorem od_Mo_header_87 : decode prog_11_method_13_code 87 = .ok (.iload_n 1, 1) := by decide +kernel
theorem od_Mo_header_88 : decode prog_11_method_13_code 88 = .ok (.ifCond .eq (25), 3) := by decide +kernel
theorem od_Mo_header_91 : decode prog_11_method_13_code 91 = .ok (.iload_n 2, 1) := by decide +kernel
theorem od_Mo_header_92 : decode prog_11_method_13_code 92 = .ok (.iconst 3, 1) := by decide +kernel
theorem od_Mo_header_93 : decode prog_11_method_13_code 93 = .ok (.if_icmp .lt (20), 3) := by decide +kernel
theorem od_Mo_header_96 : decode prog_11_method_13_code 96 = .ok (.iload_n 2, 1) := by decide +kernel
theorem od_Mo_header_97 : decode prog_11_method_13_code 97 = .ok (.bipush (8), 2) := by decide +kernel
theorem od_Mo_header_99 : decode prog_11_method_13_code 99 = .ok (.if_icmp .gt (14), 3) := by decide +kernel
theorem od_Mo_header_102 : decode prog_11_method_13_code 102 = .ok (.aload_n 0, 1) := by decide +kernel
theorem od_Mo_header_103 : decode prog_11_method_13_code 103 = .ok (.invokevirtual 136, 3) := by decide +kernel
theorem od_Mo_header_106 : decode prog_11_method_13_code 106 = .ok (.ifCond .eq (7), 3) := by decide +kernel
theorem od_Mo_header_109 : decode prog_11_method_13_code 109 = .ok (.iconst 1, 1) := by decide +kernel
theorem od_Mo_header_110 : decode prog_11_method_13_code 110 = .ok (.goto (4), 3) := by decide +kernel
theorem od_Mo_header_113 : decode prog_11_method_13_code 113 = .ok (.iconst 0, 1) := by decide +kernel
theorem od_Mo_header_114 : decode prog_11_method_13_code 114 = .ok (.ireturn, 1) := by decide +kernel
theorem od_Mo_header_115 : decode prog_11_method_13_code 115 = .ok (.aload_n 0, 1) := by decide +kernel
theorem od_Mo_header_116 : decode prog_11_method_13_code 116 = .ok (.iconst 2, 1) := by decide +kernel
theorem od_Mo_header_117 : decode prog_11_method_13_code 117 = .ok (.invokevirtual 132, 3) := by decide +kernel
theorem od_Mo_header_120 : decode prog_11_method_13_code 120 = .ok (.ifCond .eq (44), 3) := by decide +kernel
theorem od_Mo_header_123 : decode prog_11_method_13_code 123 = .ok (.aload_n 0, 1) := by decide +kernel
theorem od_Mo_header_124 : decode prog_11_method_13_code 124 = .ok (.getfield 149, 3) := by decide +kernel
theorem od_Mo_header_127 : decode prog_11_method_13_code 127 = .ok (.ifCond .ge (7), 3) := by decide +kernel
theorem od_Mo_header_130 : decode prog_11_method_13_code 130 = .ok (.iconst 1, 1) := by decide +kernel
theorem od_Mo_header_131 : decode prog_11_method_13_code 131 = .ok (.goto (4), 3) := by decide +kernel
theorem od_Mo_header_134 : decode prog_11_method_13_code 134 = .ok (.iconst 0, 1) := by decide +kernel
theorem od_Mo_header_135 : decode prog_11_method_13_code 135 = .ok (.istore_n 1, 1) := by decide +kernel
theorem od_Mo_header_136 : decode prog_11_method_13_code 136 = .ok (.aload_n 0, 1) := by decide +kernel
theorem od_Mo_header_137 : decode prog_11_method_13_code 137 = .ok (.aload_n 0, 1) := by decide +kernel
theorem od_Mo_header_138 : decode prog_11_method_13_code 138 = .ok (.iconst 4, 1) := by decide +kernel
theorem od_Mo_header_139 : decode prog_11_method_13_code 139 = .ok (.bipush (7), 2) := by decide +kernel
theorem od_Mo_header_141 : decode prog_11_method_13_code 141 = .ok (.invokevirtual 152, 3) := by decide +kernel
theorem od_Mo_header_144 : decode prog_11_method_13_code 144 = .ok (.putfield 149, 3) := by decide +kernel
theorem od_Mo_header_147 : decode prog_11_method_13_code 147 = .ok (.iload_n 1, 1) := by decide +kernel
theorem od_Mo_header_148 : decode prog_11_method_13_code 148 = .ok (.ifCond .eq (14), 3) := by decide +kernel
theorem od_Mo_header_151 : decode prog_11_method_13_code 151 = .ok (.aload_n 0, 1) := by decide +kernel
theorem od_Mo_header_152 : decode prog_11_method_13_code 152 = .ok (.getfield 149, 3) := by decide +kernel
theorem od_Mo_header_155 : decode prog_11_method_13_code 155 = .ok (.ifCond .lt (7), 3) := by decide +kernel
theorem od_Mo_header_158 : decode prog_11_method_13_code 158 = .ok (.iconst 1, 1) := by decide +kernel
theorem od_Mo_header_159 : decode prog_11_method_13_code 159 = .ok (.goto (4), 3) := by decide +kernel
theorem od_Mo_header_162 : decode prog_11_method_13_code 162 = .ok (.iconst 0, 1) := by decide +kernel
theorem od_Mo_header_163 : decode prog_11_method_13_code 163 = .ok (.ireturn, 1) := by decide +kernel
theorem od_Mo_header_164 : decode prog_11_method_13_code 164 = .ok (.aload_n 0, 1) := by decide +kernel
theorem od_Mo_header_165 : decode prog_11_method_13_code 165 = .ok (.iconst 3, 1) := by decide +kernel
theorem od_Mo_header_166 : decode prog_11_method_13_code 166 = .ok (.invokevirtual 132, 3) := by decide +kernel
theorem od_Mo_header_169 : decode prog_11_method_13_code 169 = .ok (.ifCond .eq (53), 3) := by decide +kernel
theorem od_Mo_header_172 : decode prog_11_method_13_code 172 = .ok (.aload_n 0, 1) := by decide +kernel
theorem od_Mo_header_173 : decode prog_11_method_13_code 173 = .ok (.getfield 155, 3) := by decide +kernel
theorem od_Mo_header_176 : decode prog_11_method_13_code 176 = .ok (.ifCond .ge (15), 3) := by decide +kernel
theorem od_Mo_header_179 : decode prog_11_method_13_code 179 = .ok (.aload_n 0, 1) := by decide +kernel
theorem od_Mo_header_180 : decode prog_11_method_13_code 180 = .ok (.getfield 149, 3) := by decide +kernel
theorem od_Mo_header_183 : decode prog_11_method_13_code 183 = .ok (.iconst 4, 1) := by decide +kernel
theorem od_Mo_header_184 : decode prog_11_method_13_code 184 = .ok (.if_icmp .ne (7), 3) := by decide +kernel
theorem od_Mo_header_187 : decode prog_11_method_13_code 187 = .ok (.iconst 1, 1) := by decide +kernel
theorem od_Mo_header_188 : decode prog_11_method_13_code 188 = .ok (.goto (4), 3) := by decide +kernel
theorem od_Mo_header_191 : decode prog_11_method_13_code 191 = .ok (.iconst 0, 1) := by decide +kernel
theorem od_Mo_header_192 : decode prog_11_method_13_code 192 = .ok (.istore_n 1, 1) := by decide +kernel
theorem od_Mo_header_193 : decode prog_11_method_13_code 193 = .ok (.aload_n 0, 1) := by decide +kernel
theorem od_Mo_header_194 : decode prog_11_method_13_code 194 = .ok (.aload_n 0, 1) := by decide +kernel
theorem od_Mo_header_195 : decode prog_11_method_13_code 195 = .ok (.bipush (8), 2) := by decide +kernel
theorem od_Mo_header_197 : decode prog_11_method_13_code 197 = .ok (.bipush (10), 2) := by decide +kernel
theorem od_Mo_header_199 : decode prog_11_method_13_code 199 = .ok (.invokevirtual 152, 3) := by decide +kernel
theorem od_Mo_header_202 : decode prog_11_method_13_code 202 = .ok (.putfield 155, 3) := by decide +kernel
theorem od_Mo_header_205 : decode prog_11_method_13_code 205 = .ok (.iload_n 1, 1) := by decide +kernel
theorem od_Mo_header_206 : decode prog_11_method_13_code 206 = .ok (.ifCond .eq (14), 3) := by decide +kernel
theorem od_Mo_header_209 : decode prog_11_method_13_code 209 = .ok (.aload_n 0, 1) := by decide +kernel
theorem od_Mo_header_210 : decode prog_11_method_13_code 210 = .ok (.getfield 155, 3) := by decide +kernel
theorem od_Mo_header_213 : decode prog_11_method_13_code 213 = .ok (.ifCond .lt (7), 3) := by decide +kernel
theorem od_Mo_header_216 : decode prog_11_method_13_code 216 = .ok (.iconst 1, 1) := by decide +kernel
theorem od_Mo_header_217 : decode prog_11_method_13_code 217 = .ok (.goto (4), 3) := by decide +kernel
theorem od_Mo_header_220 : decode prog_11_method_13_code 220 = .ok (.iconst 0, 1) := by decide +kernel
theorem od_Mo_header_221 : decode prog_11_method_13_code 221 = .ok (.ireturn, 1) := by decide +kernel
theorem od_Mo_header_222 : decode prog_11_method_13_code 222 = .ok (.aload_n 0, 1) := by decide +kernel
theorem od_Mo_header_223 : decode prog_11_method_13_code 223 = .ok (.getfield 139, 3) := by decide +kernel
theorem od_Mo_header_226 : decode prog_11_method_13_code 226 = .ok (.ifCond .le (29), 3) := by decide +kernel
theorem od_Mo_header_229 : decode prog_11_method_13_code 229 = .ok (.aload_n 0, 1) := by decide +kernel
theorem od_Mo_header_230 : decode prog_11_method_13_code 230 = .ok (.getfield 149, 3) := by decide +kernel
theorem od_Mo_header_233 : decode prog_11_method_13_code 233 = .ok (.ifCond .lt (22), 3) := by decide +kernel
theorem od_Mo_header_236 : decode prog_11_method_13_code 236 = .ok (.aload_n 0, 1) := by decide +kernel
theorem od_Mo_header_237 : decode prog_11_method_13_code 237 = .ok (.getfield 149, 3) := by decide +kernel
theorem od_Mo_header_240 : decode prog_11_method_13_code 240 = .ok (.iconst 4, 1) := by decide +kernel
theorem od_Mo_header_241 : decode prog_11_method_13_code 241 = .ok (.if_icmp .gt (10), 3) := by decide +kernel
theorem od_Mo_header_244 : decode prog_11_method_13_code 244 = .ok (.aload_n 0, 1) := by decide +kernel
theorem od_Mo_header_245 : decode prog_11_method_13_code 245 = .ok (.getfield 155, 3) := by decide +kernel
theorem od_Mo_header_248 : decode prog_11_method_13_code 248 = .ok (.ifCond .lt (7), 3) := by decide +kernel
theorem od_Mo_header_251 : decode prog_11_method_13_code 251 = .ok (.iconst 1, 1) := by decide +kernel
theorem od_Mo_header_252 : decode prog_11_method_13_code 252 = .ok (.goto (4), 3) := by decide +kernel
theorem od_Mo_header_255 : decode prog_11_method_13_code 255 = .ok (.iconst 0, 1) := by decide +kernel
theorem od_Mo_header_256 : decode prog_11_method_13_code 256 = .ok (.istore_n 1, 1) := by decide +kernel
theorem od_Mo_header_257 : decode prog_11_method_13_code 257 = .ok (.aload_n 0, 1) := by decide +kernel
theorem od_Mo_header_258 : decode prog_11_method_13_code 258 = .ok (.iload_n 1, 1) := by decide +kernel
theorem od_Mo_header_259 : decode prog_11_method_13_code 259 = .ok (.ifCond .eq (36), 3) := by decide +kernel
theorem od_Mo_header_262 : decode prog_11_method_13_code 262 = .ok (.aload_n 0, 1) := by decide +kernel
theorem od_Mo_header_263 : decode prog_11_method_13_code 263 = .ok (.aload_n 0, 1) := by decide +kernel
theorem od_Mo_header_264 : decode prog_11_method_13_code 264 = .ok (.getfield 149, 3) := by decide +kernel
theorem od_Mo_header_267 : decode prog_11_method_13_code 267 = .ok (.iconst 4, 1) := by decide +kernel
theorem od_Mo_header_268 : decode prog_11_method_13_code 268 = .ok (.if_icmp .ne (8), 3) := by decide +kernel
theorem od_Mo_header_271 : decode prog_11_method_13_code 271 = .ok (.bipush (11), 2) := by decide +kernel
theorem od_Mo_header_273 : decode prog_11_method_13_code 273 = .ok (.goto (5), 3) := by decide +kernel
theorem od_Mo_header_276 : decode prog_11_method_13_code 276 = .ok (.bipush (12), 2) := by decide +kernel
theorem od_Mo_header_278 : decode prog_11_method_13_code 278 = .ok (.invokevirtual 132, 3) := by decide +kernel
theorem od_Mo_header_281 : decode prog_11_method_13_code 281 = .ok (.ifCond .eq (14), 3) := by decide +kernel
theorem od_Mo_header_284 : decode prog_11_method_13_code 284 = .ok (.aload_n 0, 1) := by decide +kernel
theorem od_Mo_header_285 : decode prog_11_method_13_code 285 = .ok (.invokevirtual 136, 3) := by decide +kernel
theorem od_Mo_header_288 : decode prog_11_method_13_code 288 = .ok (.ifCond .eq (7), 3) := by decide +kernel
theorem od_Mo_header_291 : decode prog_11_method_13_code 291 = .ok (.iconst 1, 1) := by decide +kernel
theorem od_Mo_header_292 : decode prog_11_method_13_code 292 = .ok (.goto (4), 3) := by decide +kernel
theorem od_Mo_header_295 : decode prog_11_method_13_code 295 = .ok (.iconst 0, 1) := by decide +kernel
theorem od_Mo_header_296 : decode prog_11_method_13_code 296 = .ok (.putfield 158, 3) := by decide +kernel
theorem od_Mo_header_299 : decode prog_11_method_13_code 299 = .ok (.aload_n 0, 1) := by decide +kernel
theorem od_Mo_header_300 : decode prog_11_method_13_code 300 = .ok (.getfield 158, 3) := by decide +kernel
theorem od_Mo_header_303 : decode prog_11_method_13_code 303 = .ok (.ireturn, 1) := by decide +kernel
theorem od_Mo_line_0 : decode prog_11_method_19_code 0 = .ok (.aload_n 0, 1) := by decide +kernel
theorem od_Mo_line_1 : decode prog_11_method_19_code 1 = .ok (.iload_n 1, 1) := by decide +kernel
theorem od_Mo_line_2 : decode prog_11_method_19_code 2 = .ok (.putfield 112, 3) := by decide +kernel
theorem od_Mo_line_5 : decode prog_11_method_19_code 5 = .ok (.aload_n 0, 1) := by decide +kernel
theorem od_Mo_line_6 : decode prog_11_method_19_code 6 = .ok (.getfield 175, 3) := by decide +kernel
theorem od_Mo_line_9 : decode prog_11_method_19_code 9 = .ok (.ifCond .eq (5), 3) := by decide +kernel
theorem od_Mo_line_12 : decode prog_11_method_19_code 12 = .ok (.iconst 0, 1) := by decide +kernel
theorem od_Mo_line_13 : decode prog_11_method_19_code 13 = .ok (.ireturn, 1) := by decide +kernel
theorem od_Mo_line_14 : decode prog_11_method_19_code 14 = .ok (.aload_n 0, 1) := by decide +kernel
theorem od_Mo_line_15 : decode prog_11_method_19_code 15 = .ok (.getfield 158, 3) := by decide +kernel
theorem od_Mo_line_18 : decode prog_11_method_19_code 18 = .ok (.ifCond .ne (8), 3) := by decide +kernel
theorem od_Mo_line_21 : decode prog_11_method_19_code 21 = .ok (.aload_n 0, 1) := by decide +kernel
theorem od_Mo_line_22 : decode prog_11_method_19_code 22 = .ok (.invokevirtual 178, 3) := by decide +kernel
theorem od_Mo_line_25 : decode prog_11_method_19_code 25 = .ok (.ireturn, 1) := by decide +kernel
theorem od_Mo_line_26 : decode prog_11_method_19_code 26 = .ok (.aload_n 0, 1) := by decide +kernel
theorem od_Mo_line_27 : decode prog_11_method_19_code 27 = .ok (.getfield 162, 3) := by decide +kernel
theorem od_Mo_line_30 : decode prog_11_method_19_code 30 = .ok (.aload_n 0, 1) := by decide +kernel
theorem od_Mo_line_31 : decode prog_11_method_19_code 31 = .ok (.invokevirtual 165, 3) := by decide +kernel
theorem od_Mo_line_34 : decode prog_11_method_19_code 34 = .ok (.if_icmp .ne (67), 3) := by decide +kernel
theorem od_Mo_line_37 : decode prog_11_method_19_code 37 = .ok (.aload_n 0, 1) := by decide +kernel
theorem od_Mo_line_38 : decode prog_11_method_19_code 38 = .ok (.invokevirtual 128, 3) := by decide +kernel
theorem od_Mo_line_41 : decode prog_11_method_19_code 41 = .ok (.ifCond .eq (23), 3) := by decide +kernel
theorem od_Mo_line_44 : decode prog_11_method_19_code 44 = .ok (.aload_n 0, 1) := by decide +kernel
theorem od_Mo_line_45 : decode prog_11_method_19_code 45 = .ok (.bipush (13), 2) := by decide +kernel
theorem od_Mo_line_47 : decode prog_11_method_19_code 47 = .ok (.invokevirtual 132, 3) := by decide +kernel
theorem od_Mo_line_50 : decode prog_11_method_19_code 50 = .ok (.ifCond .eq (14), 3) := by decide +kernel
theorem od_Mo_line_53 : decode prog_11_method_19_code 53 = .ok (.aload_n 0, 1) := by decide +kernel
theorem od_Mo_line_54 : decode prog_11_method_19_code 54 = .ok (.invokevirtual 136, 3) := by decide +kernel
theorem od_Mo_line_57 : decode prog_11_method_19_code 57 = .ok (.ifCond .eq (7), 3) := by decide +kernel
theorem od_Mo_line_60 : decode prog_11_method_19_code 60 = .ok (.iconst 1, 1) := by decide +kernel
theorem od_Mo_line_61 : decode prog_11_method_19_code 61 = .ok (.goto (4), 3) := by decide +kernel
theorem od_Mo_line_64 : decode prog_11_method_19_code 64 = .ok (.iconst 0, 1) := by decide +kernel
theorem od_Mo_line_65 : decode prog_11_method_19_code 65 = .ok (.istore_n 2, 1) := by decide +kernel
theorem od_Mo_line_66 : decode prog_11_method_19_code 66 = .ok (.aload_n 0, 1) := by decide +kernel
theorem od_Mo_line_67 : decode prog_11_method_19_code 67 = .ok (.iload_n 2, 1) := by decide +kernel
theorem od_Mo_line_68 : decode prog_11_method_19_code 68 = .ok (.putfield 175, 3) := by decide +kernel
theorem od_Mo_line_71 : decode prog_11_method_19_code 71 = .ok (.aload_n 0, 1) := by decide +kernel
theorem od_Mo_line_72 : decode prog_11_method_19_code 72 = .ok (.iload_n 1, 1) := by decide +kernel
theorem od_Mo_line_73 : decode prog_11_method_19_code 73 = .ok (.putfield 112, 3) := by decide +kernel
theorem od_Mo_line_76 : decode prog_11_method_19_code 76 = .ok (.iload_n 2, 1) := by decide +kernel
theorem od_Mo_line_77 : decode prog_11_method_19_code 77 = .ok (.ifCond .ne (18), 3) := by decide +kernel
theorem od_Mo_line_80 : decode prog_11_method_19_code 80 = .ok (.aload_n 0, 1) := by decide +kernel
theorem od_Mo_line_81 : decode prog_11_method_19_code 81 = .ok (.getfield 149, 3) := by decide +kernel
theorem od_Mo_line_84 : decode prog_11_method_19_code 84 = .ok (.iconst 4, 1) := by decide +kernel
theorem od_Mo_line_85 : decode prog_11_method_19_code 85 = .ok (.if_icmp .ne (14), 3) := by decide +kernel
theorem od_Mo_line_88 : decode prog_11_method_19_code 88 = .ok (.aload_n 0, 1) := by decide +kernel
theorem od_Mo_line_89 : decode prog_11_method_19_code 89 = .ok (.invokevirtual 136, 3) := by decide +kernel
theorem od_Mo_line_92 : decode prog_11_method_19_code 92 = .ok (.ifCond .eq (7), 3) := by decide +kernel
theorem od_Mo_line_95 : decode prog_11_method_19_code 95 = .ok (.iconst 1, 1) := by decide +kernel
theorem od_Mo_line_96 : decode prog_11_method_19_code 96 = .ok (.goto (4), 3) := by decide +kernel
theorem od_Mo_line_99 : decode prog_11_method_19_code 99 = .ok (.iconst 0, 1) := by decide +kernel
theorem od_Mo_line_100 : decode prog_11_method_19_code 100 = .ok (.ireturn, 1) := by decide +kernel
theorem od_Mo_line_101 : decode prog_11_method_19_code 101 = .ok (.aload_n 0, 1) := by decide +kernel
theorem od_Mo_line_102 : decode prog_11_method_19_code 102 = .ok (.getfield 149, 3) := by decide +kernel
theorem od_Mo_line_105 : decode prog_11_method_19_code 105 = .ok (.iconst 4, 1) := by decide +kernel
theorem od_Mo_line_106 : decode prog_11_method_19_code 106 = .ok (.if_icmp .ne (10), 3) := by decide +kernel
theorem od_Mo_line_109 : decode prog_11_method_19_code 109 = .ok (.aload_n 0, 1) := by decide +kernel
theorem od_Mo_line_110 : decode prog_11_method_19_code 110 = .ok (.invokevirtual 181, 3) := by decide +kernel
theorem od_Mo_line_113 : decode prog_11_method_19_code 113 = .ok (.goto (7), 3) := by decide +kernel
theorem od_Mo_line_116 : decode prog_11_method_19_code 116 = .ok (.aload_n 0, 1) := by decide +kernel
theorem od_Mo_line_117 : decode prog_11_method_19_code 117 = .ok (.invokevirtual 184, 3) := by decide +kernel
theorem od_Mo_line_120 : decode prog_11_method_19_code 120 = .ok (.ireturn, 1) := by decide +kernel
theorem od_Mo_load_0 : decode prog_11_method_22_code 0 = .ok (.aload_n 0, 1) := by decide +kernel
theorem od_Mo_load_1 : decode prog_11_method_22_code 1 = .ok (.iconst 0, 1) := by decide +kernel
theorem od_Mo_load_2 : decode prog_11_method_22_code 2 = .ok (.putfield 139, 3) := by decide +kernel
theorem od_Mo_load_5 : decode prog_11_method_22_code 5 = .ok (.aload_n 0, 1) := by decide +kernel
theorem od_Mo_load_6 : decode prog_11_method_22_code 6 = .ok (.iconst (-1), 1) := by decide +kernel
theorem od_Mo_load_7 : decode prog_11_method_22_code 7 = .ok (.putfield 149, 3) := by decide +kernel
theorem od_Mo_load_10 : decode prog_11_method_22_code 10 = .ok (.aload_n 0, 1) := by decide +kernel
theorem od_Mo_load_11 : decode prog_11_method_22_code 11 = .ok (.iconst (-1), 1) := by decide +kernel
theorem od_Mo_load_12 : decode prog_11_method_22_code 12 = .ok (.putfield 155, 3) := by decide +kernel
theorem od_Mo_load_15 : decode prog_11_method_22_code 15 = .ok (.aload_n 0, 1) := by decide +kernel
theorem od_Mo_load_16 : decode prog_11_method_22_code 16 = .ok (.iconst 0, 1) := by decide +kernel
theorem od_Mo_load_17 : decode prog_11_method_22_code 17 = .ok (.putfield 158, 3) := by decide +kernel
theorem od_Mo_load_20 : decode prog_11_method_22_code 20 = .ok (.aload_n 0, 1) := by decide +kernel
theorem od_Mo_load_21 : decode prog_11_method_22_code 21 = .ok (.iconst 0, 1) := by decide +kernel
theorem od_Mo_load_22 : decode prog_11_method_22_code 22 = .ok (.putfield 175, 3) := by decide +kernel
theorem od_Mo_load_25 : decode prog_11_method_22_code 25 = .ok (.aload_n 0, 1) := by decide +kernel
theorem od_Mo_load_26 : decode prog_11_method_22_code 26 = .ok (.iconst 0, 1) := by decide +kernel
theorem od_Mo_load_27 : decode prog_11_method_22_code 27 = .ok (.putfield 162, 3) := by decide +kernel
theorem od_Mo_load_30 : decode prog_11_method_22_code 30 = .ok (.iconst 1, 1) := by decide +kernel
theorem od_Mo_load_31 : decode prog_11_method_22_code 31 = .ok (.istore_n 1, 1) := by decide +kernel
theorem od_Mo_load_32 : decode prog_11_method_22_code 32 = .ok (.iconst 0, 1) := by decide +kernel
theorem od_Mo_load_33 : decode prog_11_method_22_code 33 = .ok (.istore_n 2, 1) := by decide +kernel
theorem od_Mo_load_34 : decode prog_11_method_22_code 34 = .ok (.iload_n 2, 1) := by decide +kernel
theorem od_Mo_load_35 : decode prog_11_method_22_code 35 = .ok (.aload_n 0, 1) := by decide +kernel
theorem od_Mo_load_36 : decode prog_11_method_22_code 36 = .ok (.getfield 56, 3) := by decide +kernel
theorem od_Mo_load_39 : decode prog_11_method_22_code 39 = .ok (.if_icmp .ge (81), 3) := by decide +kernel
theorem od_Mo_load_42 : decode prog_11_method_22_code 42 = .ok (.aload_n 0, 1) := by decide +kernel
theorem od_Mo_load_43 : decode prog_11_method_22_code 43 = .ok (.iload_n 2, 1) := by decide +kernel
theorem od_Mo_load_44 : decode prog_11_method_22_code 44 = .ok (.putfield 115, 3) := by decide +kernel
theorem od_Mo_load_47 : decode prog_11_method_22_code 47 = .ok (.aload_n 0, 1) := by decide +kernel
theorem od_Mo_load_48 : decode prog_11_method_22_code 48 = .ok (.getfield 115, 3) := by decide +kernel
theorem od_Mo_load_51 : decode prog_11_method_22_code 51 = .ok (.aload_n 0, 1) := by decide +kernel
theorem od_Mo_load_52 : decode prog_11_method_22_code 52 = .ok (.getfield 56, 3) := by decide +kernel
theorem od_Mo_load_55 : decode prog_11_method_22_code 55 = .ok (.if_icmp .ge (30), 3) := by decide +kernel
theorem od_Mo_load_58 : decode prog_11_method_22_code 58 = .ok (.aload_n 0, 1) := by decide +kernel
theorem od_Mo_load_59 : decode prog_11_method_22_code 59 = .ok (.getfield 7, 3) := by decide +kernel
theorem od_Mo_load_62 : decode prog_11_method_22_code 62 = .ok (.aload_n 0, 1) := by decide +kernel
theorem od_Mo_load_63 : decode prog_11_method_22_code 63 = .ok (.getfield 115, 3) := by decide +kernel
theorem od_Mo_load_66 : decode prog_11_method_22_code 66 = .ok (.caload, 1) := by decide +kernel
theorem od_Mo_load_67 : decode prog_11_method_22_code 67 = .ok (.bipush (10), 2) := by decide +kernel
theorem od_Mo_load_69 : decode prog_11_method_22_code 69 = .ok (.if_icmp .eq (16), 3) := by decide +kernel
theorem od_Mo_load_72 : decode prog_11_method_22_code 72 = .ok (.aload_n 0, 1) := by decide +kernel
theorem od_Mo_load_73 : decode prog_11_method_22_code 73 = .ok (.dup, 1) := by decide +kernel
theorem od_Mo_load_74 : decode prog_11_method_22_code 74 = .ok (.getfield 115, 3) := by decide +kernel
theorem od_Mo_load_77 : decode prog_11_method_22_code 77 = .ok (.iconst 1, 1) := by decide +kernel
theorem od_Mo_load_78 : decode prog_11_method_22_code 78 = .ok (.iadd, 1) := by decide +kernel
theorem od_Mo_load_79 : decode prog_11_method_22_code 79 = .ok (.putfield 115, 3) := by decide +kernel
theorem od_Mo_load_82 : decode prog_11_method_22_code 82 = .ok (.goto (-35), 3) := by decide +kernel
theorem od_Mo_load_85 : decode prog_11_method_22_code 85 = .ok (.aload_n 0, 1) := by decide +kernel
theorem od_Mo_load_86 : decode prog_11_method_22_code 86 = .ok (.getfield 115, 3) := by decide +kernel
theorem od_Mo_load_89 : decode prog_11_method_22_code 89 = .ok (.aload_n 0, 1) := by decide +kernel
theorem od_Mo_load_90 : decode prog_11_method_22_code 90 = .ok (.getfield 56, 3) := by decide +kernel
theorem od_Mo_load_93 : decode prog_11_method_22_code 93 = .ok (.if_icmp .eq (11), 3) := by decide +kernel
theorem od_Mo_load_96 : decode prog_11_method_22_code 96 = .ok (.aload_n 0, 1) := by decide +kernel
theorem od_Mo_load_97 : decode prog_11_method_22_code 97 = .ok (.iload_n 2, 1) := by decide +kernel
theorem od_Mo_load_98 : decode prog_11_method_22_code 98 = .ok (.invokevirtual 199, 3) := by decide +kernel
theorem od_Mo_load_101 : decode prog_11_method_22_code 101 = .ok (.ifCond .ne (6), 3) := by decide +kernel
theorem od_Mo_load_104 : decode prog_11_method_22_code 104 = .ok (.iload_n 1, 1) := by decide +kernel
theorem od_Mo_load_105 : decode prog_11_method_22_code 105 = .ok (.ineg, 1) := by decide +kernel
theorem od_Mo_load_106 : decode prog_11_method_22_code 106 = .ok (.ireturn, 1) := by decide +kernel
theorem od_Mo_load_107 : decode prog_11_method_22_code 107 = .ok (.aload_n 0, 1) := by decide +kernel
theorem od_Mo_load_108 : decode prog_11_method_22_code 108 = .ok (.getfield 115, 3) := by decide +kernel
theorem od_Mo_load_111 : decode prog_11_method_22_code 111 = .ok (.iconst 1, 1) := by decide +kernel
theorem od_Mo_load_112 : decode prog_11_method_22_code 112 = .ok (.iadd, 1) := by decide +kernel
theorem od_Mo_load_113 : decode prog_11_method_22_code 113 = .ok (.istore_n 2, 1) := by decide +kernel
theorem od_Mo_load_114 : decode prog_11_method_22_code 114 = .ok (.iinc 1 (1), 3) := by decide +kernel
theorem od_Mo_load_117 : decode prog_11_method_22_code 117 = .ok (.goto (-83), 3) := by decide +kernel
theorem od_Mo_load_120 : decode prog_11_method_22_code 120 = .ok (.aload_n 0, 1) := by decide +kernel
theorem od_Mo_load_121 : decode prog_11_method_22_code 121 = .ok (.getfield 175, 3) := by decide +kernel
theorem od_Mo_load_124 : decode prog_11_method_22_code 124 = .ok (.ifCond .ne (6), 3) := by decide +kernel
theorem od_Mo_load_127 : decode prog_11_method_22_code 127 = .ok (.iload_n 1, 1) := by decide +kernel
theorem od_Mo_load_128 : decode prog_11_method_22_code 128 = .ok (.ineg, 1) := by decide +kernel
theorem od_Mo_load_129 : decode prog_11_method_22_code 129 = .ok (.ireturn, 1) := by decide +kernel
theorem od_Mo_load_130 : decode prog_11_method_22_code 130 = .ok (.aload_n 0, 1) := by decide +kernel
theorem od_Mo_load_131 : decode prog_11_method_22_code 131 = .ok (.invokevirtual 202, 3) := by decide +kernel
theorem od_Mo_load_134 : decode prog_11_method_22_code 134 = .ok (.iconst 0, 1) := by decide +kernel
theorem od_Mo_load_135 : decode prog_11_method_22_code 135 = .ok (.ireturn, 1) := by decide +kernel
theorem od_Mo_size_0 : decode prog_11_method_23_code 0 = .ok (.aload_n 0, 1) := by decide +kernel
theorem od_Mo_size_1 : decode prog_11_method_23_code 1 = .ok (.getfield 187, 3) := by decide +kernel
theorem od_Mo_size_4 : decode prog_11_method_23_code 4 = .ok (.ireturn, 1) := by decide +kernel
theorem od_Mo_city_0 : decode prog_11_method_24_code 0 = .ok (.iload_n 1, 1) := by decide +kernel
theorem od_Mo_city_1 : decode prog_11_method_24_code 1 = .ok (.ifCond .lt (15), 3) := by decide +kernel
theorem od_Mo_city_4 : decode prog_11_method_24_code 4 = .ok (.iload_n 1, 1) := by decide +kernel
theorem od_Mo_city_5 : decode prog_11_method_24_code 5 = .ok (.aload_n 0, 1) := by decide +kernel
theorem od_Mo_city_6 : decode prog_11_method_24_code 6 = .ok (.getfield 187, 3) := by decide +kernel
theorem od_Mo_city_9 : decode prog_11_method_24_code 9 = .ok (.if_icmp .ge (7), 3) := by decide +kernel
theorem od_Mo_city_12 : decode prog_11_method_24_code 12 = .ok (.iconst 1, 1) := by decide +kernel
theorem od_Mo_city_13 : decode prog_11_method_24_code 13 = .ok (.goto (4), 3) := by decide +kernel
theorem od_Mo_city_16 : decode prog_11_method_24_code 16 = .ok (.iconst 0, 1) := by decide +kernel
theorem od_Mo_city_17 : decode prog_11_method_24_code 17 = .ok (.ireturn, 1) := by decide +kernel
theorem od_Mo_distance_0 : decode prog_11_method_25_code 0 = .ok (.aload_n 0, 1) := by decide +kernel
theorem od_Mo_distance_1 : decode prog_11_method_25_code 1 = .ok (.iload_n 1, 1) := by decide +kernel
theorem od_Mo_distance_2 : decode prog_11_method_25_code 2 = .ok (.invokevirtual 205, 3) := by decide +kernel
theorem od_Mo_distance_5 : decode prog_11_method_25_code 5 = .ok (.ifCond .eq (25), 3) := by decide +kernel
theorem od_Mo_distance_8 : decode prog_11_method_25_code 8 = .ok (.aload_n 0, 1) := by decide +kernel
theorem od_Mo_distance_9 : decode prog_11_method_25_code 9 = .ok (.iload_n 2, 1) := by decide +kernel
theorem od_Mo_distance_10 : decode prog_11_method_25_code 10 = .ok (.invokevirtual 205, 3) := by decide +kernel
theorem od_Mo_distance_13 : decode prog_11_method_25_code 13 = .ok (.ifCond .eq (17), 3) := by decide +kernel
theorem od_Mo_distance_16 : decode prog_11_method_25_code 16 = .ok (.aload_n 0, 1) := by decide +kernel
theorem od_Mo_distance_17 : decode prog_11_method_25_code 17 = .ok (.getfield 13, 3) := by decide +kernel
theorem od_Mo_distance_20 : decode prog_11_method_25_code 20 = .ok (.bipush (8), 2) := by decide +kernel
theorem od_Mo_distance_22 : decode prog_11_method_25_code 22 = .ok (.iload_n 1, 1) := by decide +kernel
theorem od_Mo_distance_23 : decode prog_11_method_25_code 23 = .ok (.imul, 1) := by decide +kernel
theorem od_Mo_distance_24 : decode prog_11_method_25_code 24 = .ok (.iload_n 2, 1) := by decide +kernel
theorem od_Mo_distance_25 : decode prog_11_method_25_code 25 = .ok (.iadd, 1) := by decide +kernel
theorem od_Mo_distance_26 : decode prog_11_method_25_code 26 = .ok (.iaload, 1) := by decide +kernel
theorem od_Mo_distance_27 : decode prog_11_method_25_code 27 = .ok (.goto (4), 3) := by decide +kernel
theorem od_Mo_distance_30 : decode prog_11_method_25_code 30 = .ok (.iconst (-1), 1) := by decide +kernel
theorem od_Mo_distance_31 : decode prog_11_method_25_code 31 = .ok (.ireturn, 1) := by decide +kernel
theorem od_Mo_mark_0 : decode prog_11_method_26_code 0 = .ok (.aload_n 0, 1) := by decide +kernel
theorem od_Mo_mark_1 : decode prog_11_method_26_code 1 = .ok (.iload_n 1, 1) := by decide +kernel
theorem od_Mo_mark_2 : decode prog_11_method_26_code 2 = .ok (.invokevirtual 205, 3) := by decide +kernel
theorem od_Mo_mark_5 : decode prog_11_method_26_code 5 = .ok (.ifCond .eq (25), 3) := by decide +kernel
theorem od_Mo_mark_8 : decode prog_11_method_26_code 8 = .ok (.aload_n 0, 1) := by decide +kernel
theorem od_Mo_mark_9 : decode prog_11_method_26_code 9 = .ok (.iload_n 2, 1) := by decide +kernel
theorem od_Mo_mark_10 : decode prog_11_method_26_code 10 = .ok (.invokevirtual 205, 3) := by decide +kernel
theorem od_Mo_mark_13 : decode prog_11_method_26_code 13 = .ok (.ifCond .eq (17), 3) := by decide +kernel
theorem od_Mo_mark_16 : decode prog_11_method_26_code 16 = .ok (.iload_n 1, 1) := by decide +kernel
theorem od_Mo_mark_17 : decode prog_11_method_26_code 17 = .ok (.iload_n 2, 1) := by decide +kernel
theorem od_Mo_mark_18 : decode prog_11_method_26_code 18 = .ok (.if_icmp .eq (12), 3) := by decide +kernel
theorem od_Mo_mark_21 : decode prog_11_method_26_code 21 = .ok (.iload_n 3, 1) := by decide +kernel
theorem od_Mo_mark_22 : decode prog_11_method_26_code 22 = .ok (.ifCond .lt (8), 3) := by decide +kernel
theorem od_Mo_mark_25 : decode prog_11_method_26_code 25 = .ok (.iload_n 3, 1) := by decide +kernel
theorem od_Mo_mark_26 : decode prog_11_method_26_code 26 = .ok (.iconst 2, 1) := by decide +kernel
theorem od_Mo_mark_27 : decode prog_11_method_26_code 27 = .ok (.if_icmp .le (5), 3) := by decide +kernel
theorem od_Mo_mark_30 : decode prog_11_method_26_code 30 = .ok (.iconst 0, 1) := by decide +kernel
theorem od_Mo_mark_31 : decode prog_11_method_26_code 31 = .ok (.ireturn, 1) := by decide +kernel
theorem od_Mo_mark_32 : decode prog_11_method_26_code 32 = .ok (.aload_n 0, 1) := by decide +kernel
theorem od_Mo_mark_33 : decode prog_11_method_26_code 33 = .ok (.getfield 17, 3) := by decide +kernel
theorem od_Mo_mark_36 : decode prog_11_method_26_code 36 = .ok (.bipush (8), 2) := by decide +kernel
theorem od_Mo_mark_38 : decode prog_11_method_26_code 38 = .ok (.iload_n 1, 1) := by decide +kernel
theorem od_Mo_mark_39 : decode prog_11_method_26_code 39 = .ok (.imul, 1) := by decide +kernel
theorem od_Mo_mark_40 : decode prog_11_method_26_code 40 = .ok (.iload_n 2, 1) := by decide +kernel
theorem od_Mo_mark_41 : decode prog_11_method_26_code 41 = .ok (.iadd, 1) := by decide +kernel
theorem od_Mo_mark_42 : decode prog_11_method_26_code 42 = .ok (.iload_n 3, 1) := by decide +kernel
theorem od_Mo_mark_43 : decode prog_11_method_26_code 43 = .ok (.iastore, 1) := by decide +kernel
theorem od_Mo_mark_44 : decode prog_11_method_26_code 44 = .ok (.aload_n 0, 1) := by decide +kernel
theorem od_Mo_mark_45 : decode prog_11_method_26_code 45 = .ok (.getfield 17, 3) := by decide +kernel
theorem od_Mo_mark_48 : decode prog_11_method_26_code 48 = .ok (.bipush (8), 2) := by decide +kernel
theorem od_Mo_mark_50 : decode prog_11_method_26_code 50 = .ok (.iload_n 2, 1) := by decide +kernel
theorem od_Mo_mark_51 : decode prog_11_method_26_code 51 = .ok (.imul, 1) := by decide +kernel
theorem od_Mo_mark_52 : decode prog_11_method_26_code 52 = .ok (.iload_n 1, 1) := by decide +kernel
theorem od_Mo_mark_53 : decode prog_11_method_26_code 53 = .ok (.iadd, 1) := by decide +kernel
theorem od_Mo_mark_54 : decode prog_11_method_26_code 54 = .ok (.iload_n 3, 1) := by decide +kernel
theorem od_Mo_mark_55 : decode prog_11_method_26_code 55 = .ok (.iastore, 1) := by decide +kernel
theorem od_Mo_mark_56 : decode prog_11_method_26_code 56 = .ok (.iconst 1, 1) := by decide +kernel
theorem od_Mo_mark_57 : decode prog_11_method_26_code 57 = .ok (.ireturn, 1) := by decide +kernel
theorem od_Mo_lift_0 : decode prog_11_method_27_code 0 = .ok (.aload_n 0, 1) := by decide +kernel
theorem od_Mo_lift_1 : decode prog_11_method_27_code 1 = .ok (.iload_n 1, 1) := by decide +kernel
theorem od_Mo_lift_2 : decode prog_11_method_27_code 2 = .ok (.invokevirtual 205, 3) := by decide +kernel
theorem od_Mo_lift_5 : decode prog_11_method_27_code 5 = .ok (.ifCond .eq (15), 3) := by decide +kernel
theorem od_Mo_lift_8 : decode prog_11_method_27_code 8 = .ok (.iload_n 2, 1) := by decide +kernel
theorem od_Mo_lift_9 : decode prog_11_method_27_code 9 = .ok (.ldc 208, 2) := by decide +kernel
theorem od_Mo_lift_11 : decode prog_11_method_27_code 11 = .ok (.if_icmp .lt (9), 3) := by decide +kernel
theorem od_Mo_lift_14 : decode prog_11_method_27_code 14 = .ok (.iload_n 2, 1) := by decide +kernel
theorem od_Mo_lift_15 : decode prog_11_method_27_code 15 = .ok (.ldc 209, 2) := by decide +kernel
theorem od_Mo_lift_17 : decode prog_11_method_27_code 17 = .ok (.if_icmp .le (5), 3) := by decide +kernel
theorem od_Mo_lift_20 : decode prog_11_method_27_code 20 = .ok (.iconst 0, 1) := by decide +kernel
theorem od_Mo_lift_21 : decode prog_11_method_27_code 21 = .ok (.ireturn, 1) := by decide +kernel
theorem od_Mo_lift_22 : decode prog_11_method_27_code 22 = .ok (.aload_n 0, 1) := by decide +kernel
theorem od_Mo_lift_23 : decode prog_11_method_27_code 23 = .ok (.getfield 20, 3) := by decide +kernel
theorem od_Mo_lift_26 : decode prog_11_method_27_code 26 = .ok (.iload_n 1, 1) := by decide +kernel
theorem od_Mo_lift_27 : decode prog_11_method_27_code 27 = .ok (.iload_n 2, 1) := by decide +kernel
theorem od_Mo_lift_28 : decode prog_11_method_27_code 28 = .ok (.iastore, 1) := by decide +kernel
theorem od_Mo_lift_29 : decode prog_11_method_27_code 29 = .ok (.iconst 1, 1) := by decide +kernel
theorem od_Mo_lift_30 : decode prog_11_method_27_code 30 = .ok (.ireturn, 1) := by decide +kernel
theorem od_Mo_potential_0 : decode prog_11_method_28_code 0 = .ok (.aload_n 0, 1) := by decide +kernel
theorem od_Mo_potential_1 : decode prog_11_method_28_code 1 = .ok (.iload_n 1, 1) := by decide +kernel
theorem od_Mo_potential_2 : decode prog_11_method_28_code 2 = .ok (.invokevirtual 205, 3) := by decide +kernel
theorem od_Mo_potential_5 : decode prog_11_method_28_code 5 = .ok (.ifCond .eq (12), 3) := by decide +kernel
theorem od_Mo_potential_8 : decode prog_11_method_28_code 8 = .ok (.aload_n 0, 1) := by decide +kernel
theorem od_Mo_potential_9 : decode prog_11_method_28_code 9 = .ok (.getfield 20, 3) := by decide +kernel
theorem od_Mo_potential_12 : decode prog_11_method_28_code 12 = .ok (.iload_n 1, 1) := by decide +kernel
theorem od_Mo_potential_13 : decode prog_11_method_28_code 13 = .ok (.iaload, 1) := by decide +kernel
theorem od_Mo_potential_14 : decode prog_11_method_28_code 14 = .ok (.goto (4), 3) := by decide +kernel
theorem od_Mo_potential_17 : decode prog_11_method_28_code 17 = .ok (.iconst 0, 1) := by decide +kernel
theorem od_Mo_potential_18 : decode prog_11_method_28_code 18 = .ok (.ireturn, 1) := by decide +kernel
theorem od_Mo_ownRules_0 : decode prog_11_method_36_code 0 = .ok (.iconst 0, 1) := by decide +kernel
theorem od_Mo_ownRules_1 : decode prog_11_method_36_code 1 = .ok (.istore_n 1, 1) := by decide +kernel
theorem od_Mo_ownRules_2 : decode prog_11_method_36_code 2 = .ok (.iload_n 1, 1) := by decide +kernel
theorem od_Mo_ownRules_3 : decode prog_11_method_36_code 3 = .ok (.bipush (64), 2) := by decide +kernel
theorem od_Mo_ownRules_5 : decode prog_11_method_36_code 5 = .ok (.if_icmp .ge (21), 3) := by decide +kernel
theorem od_Mo_ownRules_8 : decode prog_11_method_36_code 8 = .ok (.aload_n 0, 1) := by decide +kernel
theorem od_Mo_ownRules_9 : decode prog_11_method_36_code 9 = .ok (.getfield 45, 3) := by decide +kernel
theorem od_Mo_ownRules_12 : decode prog_11_method_36_code 12 = .ok (.iload_n 1, 1) := by decide +kernel
theorem od_Mo_ownRules_13 : decode prog_11_method_36_code 13 = .ok (.aload_n 0, 1) := by decide +kernel
theorem od_Mo_ownRules_14 : decode prog_11_method_36_code 14 = .ok (.getfield 17, 3) := by decide +kernel
theorem od_Mo_ownRules_17 : decode prog_11_method_36_code 17 = .ok (.iload_n 1, 1) := by decide +kernel
theorem od_Mo_ownRules_18 : decode prog_11_method_36_code 18 = .ok (.iaload, 1) := by decide +kernel
theorem od_Mo_ownRules_19 : decode prog_11_method_36_code 19 = .ok (.iastore, 1) := by decide +kernel
theorem od_Mo_ownRules_20 : decode prog_11_method_36_code 20 = .ok (.iinc 1 (1), 3) := by decide +kernel
theorem od_Mo_ownRules_23 : decode prog_11_method_36_code 23 = .ok (.goto (-21), 3) := by decide +kernel
theorem od_Mo_ownRules_26 : decode prog_11_method_36_code 26 = .ok (.return_, 1) := by decide +kernel
theorem od_Mo_weight_0 : decode prog_11_method_29_code 0 = .ok (.aload_n 0, 1) := by decide +kernel
theorem od_Mo_weight_1 : decode prog_11_method_29_code 1 = .ok (.getfield 13, 3) := by decide +kernel
theorem od_Mo_weight_4 : decode prog_11_method_29_code 4 = .ok (.bipush (8), 2) := by decide +kernel
theorem od_Mo_weight_6 : decode prog_11_method_29_code 6 = .ok (.iload_n 1, 1) := by decide +kernel
theorem od_Mo_weight_7 : decode prog_11_method_29_code 7 = .ok (.imul, 1) := by decide +kernel
theorem od_Mo_weight_8 : decode prog_11_method_29_code 8 = .ok (.iload_n 2, 1) := by decide +kernel
theorem od_Mo_weight_9 : decode prog_11_method_29_code 9 = .ok (.iadd, 1) := by decide +kernel
theorem od_Mo_weight_10 : decode prog_11_method_29_code 10 = .ok (.iaload, 1) := by decide +kernel
theorem od_Mo_weight_11 : decode prog_11_method_29_code 11 = .ok (.aload_n 0, 1) := by decide +kernel
theorem od_Mo_weight_12 : decode prog_11_method_29_code 12 = .ok (.getfield 20, 3) := by decide +kernel
theorem od_Mo_weight_15 : decode prog_11_method_29_code 15 = .ok (.iload_n 1, 1) := by decide +kernel
theorem od_Mo_weight_16 : decode prog_11_method_29_code 16 = .ok (.iaload, 1) := by decide +kernel
theorem od_Mo_weight_17 : decode prog_11_method_29_code 17 = .ok (.iadd, 1) := by decide +kernel
theorem od_Mo_weight_18 : decode prog_11_method_29_code 18 = .ok (.aload_n 0, 1) := by decide +kernel
theorem od_Mo_weight_19 : decode prog_11_method_29_code 19 = .ok (.getfield 20, 3) := by decide +kernel
theorem od_Mo_weight_22 : decode prog_11_method_29_code 22 = .ok (.iload_n 2, 1) := by decide +kernel
theorem od_Mo_weight_23 : decode prog_11_method_29_code 23 = .ok (.iaload, 1) := by decide +kernel
theorem od_Mo_weight_24 : decode prog_11_method_29_code 24 = .ok (.iadd, 1) := by decide +kernel
theorem od_Mo_weight_25 : decode prog_11_method_29_code 25 = .ok (.ireturn, 1) := by decide +kernel
theorem od_Mo_worse_0 : decode prog_11_method_32_code 0 = .ok (.aload_n 0, 1) := by decide +kernel
theorem od_Mo_worse_1 : decode prog_11_method_32_code 1 = .ok (.iload_n 1, 1) := by decide +kernel
theorem od_Mo_worse_2 : decode prog_11_method_32_code 2 = .ok (.bipush (8), 2) := by decide +kernel
theorem od_Mo_worse_4 : decode prog_11_method_32_code 4 = .ok (.idiv, 1) := by decide +kernel
theorem od_Mo_worse_5 : decode prog_11_method_32_code 5 = .ok (.iload_n 1, 1) := by decide +kernel
theorem od_Mo_worse_6 : decode prog_11_method_32_code 6 = .ok (.bipush (8), 2) := by decide +kernel
theorem od_Mo_worse_8 : decode prog_11_method_32_code 8 = .ok (.irem, 1) := by decide +kernel
theorem od_Mo_worse_9 : decode prog_11_method_32_code 9 = .ok (.invokevirtual 214, 3) := by decide +kernel
theorem od_Mo_worse_12 : decode prog_11_method_32_code 12 = .ok (.istore_n 3, 1) := by decide +kernel
theorem od_Mo_worse_13 : decode prog_11_method_32_code 13 = .ok (.aload_n 0, 1) := by decide +kernel
theorem od_Mo_worse_14 : decode prog_11_method_32_code 14 = .ok (.iload_n 2, 1) := by decide +kernel
theorem od_Mo_worse_15 : decode prog_11_method_32_code 15 = .ok (.bipush (8), 2) := by decide +kernel
theorem od_Mo_worse_17 : decode prog_11_method_32_code 17 = .ok (.idiv, 1) := by decide +kernel
theorem od_Mo_worse_18 : decode prog_11_method_32_code 18 = .ok (.iload_n 2, 1) := by decide +kernel
theorem od_Mo_worse_19 : decode prog_11_method_32_code 19 = .ok (.bipush (8), 2) := by decide +kernel
theorem od_Mo_worse_21 : decode prog_11_method_32_code 21 = .ok (.irem, 1) := by decide +kernel
theorem od_Mo_worse_22 : decode prog_11_method_32_code 22 = .ok (.invokevirtual 214, 3) := by decide +kernel
theorem od_Mo_worse_25 : decode prog_11_method_32_code 25 = .ok (.istore 4, 2) := by decide +kernel
theorem od_Mo_worse_27 : decode prog_11_method_32_code 27 = .ok (.iload_n 3, 1) := by decide +kernel
theorem od_Mo_worse_28 : decode prog_11_method_32_code 28 = .ok (.iload 4, 2) := by decide +kernel
theorem od_Mo_worse_30 : decode prog_11_method_32_code 30 = .ok (.if_icmp .eq (17), 3) := by decide +kernel
theorem od_Mo_worse_33 : decode prog_11_method_32_code 33 = .ok (.iload_n 3, 1) := by decide +kernel
theorem od_Mo_worse_34 : decode prog_11_method_32_code 34 = .ok (.iload 4, 2) := by decide +kernel
theorem od_Mo_worse_36 : decode prog_11_method_32_code 36 = .ok (.if_icmp .le (7), 3) := by decide +kernel
theorem od_Mo_worse_39 : decode prog_11_method_32_code 39 = .ok (.iconst 1, 1) := by decide +kernel
theorem od_Mo_worse_40 : decode prog_11_method_32_code 40 = .ok (.goto (17), 3) := by decide +kernel
theorem od_Mo_worse_43 : decode prog_11_method_32_code 43 = .ok (.iconst 0, 1) := by decide +kernel
theorem od_Mo_worse_44 : decode prog_11_method_32_code 44 = .ok (.goto (13), 3) := by decide +kernel
theorem od_Mo_worse_47 : decode prog_11_method_32_code 47 = .ok (.iload_n 1, 1) := by decide +kernel
theorem od_Mo_worse_48 : decode prog_11_method_32_code 48 = .ok (.iload_n 2, 1) := by decide +kernel
theorem od_Mo_worse_49 : decode prog_11_method_32_code 49 = .ok (.if_icmp .le (7), 3) := by decide +kernel
theorem od_Mo_worse_52 : decode prog_11_method_32_code 52 = .ok (.iconst 1, 1) := by decide +kernel
theorem od_Mo_worse_53 : decode prog_11_method_32_code 53 = .ok (.goto (4), 3) := by decide +kernel
theorem od_Mo_worse_56 : decode prog_11_method_32_code 56 = .ok (.iconst 0, 1) := by decide +kernel
theorem od_Mo_worse_57 : decode prog_11_method_32_code 57 = .ok (.ireturn, 1) := by decide +kernel
theorem od_Mo_worst_0 : decode prog_11_method_31_code 0 = .ok (.iconst (-1), 1) := by decide +kernel
theorem od_Mo_worst_1 : decode prog_11_method_31_code 1 = .ok (.istore_n 3, 1) := by decide +kernel
theorem od_Mo_worst_2 : decode prog_11_method_31_code 2 = .ok (.iconst 0, 1) := by decide +kernel
theorem od_Mo_worst_3 : decode prog_11_method_31_code 3 = .ok (.istore 4, 2) := by decide +kernel
theorem od_Mo_worst_5 : decode prog_11_method_31_code 5 = .ok (.iload 4, 2) := by decide +kernel
theorem od_Mo_worst_7 : decode prog_11_method_31_code 7 = .ok (.aload_n 0, 1) := by decide +kernel
theorem od_Mo_worst_8 : decode prog_11_method_31_code 8 = .ok (.getfield 187, 3) := by decide +kernel
theorem od_Mo_worst_11 : decode prog_11_method_31_code 11 = .ok (.if_icmp .ge (122), 3) := by decide +kernel
theorem od_Mo_worst_14 : decode prog_11_method_31_code 14 = .ok (.iload 4, 2) := by decide +kernel
theorem od_Mo_worst_16 : decode prog_11_method_31_code 16 = .ok (.iconst 1, 1) := by decide +kernel
theorem od_Mo_worst_17 : decode prog_11_method_31_code 17 = .ok (.iadd, 1) := by decide +kernel
theorem od_Mo_worst_18 : decode prog_11_method_31_code 18 = .ok (.istore 5, 2) := by decide +kernel
theorem od_Mo_worst_20 : decode prog_11_method_31_code 20 = .ok (.iload 5, 2) := by decide +kernel
theorem od_Mo_worst_22 : decode prog_11_method_31_code 22 = .ok (.aload_n 0, 1) := by decide +kernel
theorem od_Mo_worst_23 : decode prog_11_method_31_code 23 = .ok (.getfield 187, 3) := by decide +kernel
theorem od_Mo_worst_26 : decode prog_11_method_31_code 26 = .ok (.if_icmp .ge (101), 3) := by decide +kernel
theorem od_Mo_worst_29 : decode prog_11_method_31_code 29 = .ok (.bipush (8), 2) := by decide +kernel
theorem od_Mo_worst_31 : decode prog_11_method_31_code 31 = .ok (.iload 4, 2) := by decide +kernel
theorem od_Mo_worst_33 : decode prog_11_method_31_code 33 = .ok (.imul, 1) := by decide +kernel
theorem od_Mo_worst_34 : decode prog_11_method_31_code 34 = .ok (.iload 5, 2) := by decide +kernel
theorem od_Mo_worst_36 : decode prog_11_method_31_code 36 = .ok (.iadd, 1) := by decide +kernel
theorem od_Mo_worst_37 : decode prog_11_method_31_code 37 = .ok (.istore 6, 2) := by decide +kernel
theorem od_Mo_worst_39 : decode prog_11_method_31_code 39 = .ok (.aload_n 0, 1) := by decide +kernel
theorem od_Mo_worst_40 : decode prog_11_method_31_code 40 = .ok (.getfield 41, 3) := by decide +kernel
theorem od_Mo_worst_43 : decode prog_11_method_31_code 43 = .ok (.iload 6, 2) := by decide +kernel
theorem od_Mo_worst_45 : decode prog_11_method_31_code 45 = .ok (.baload, 1) := by decide +kernel
theorem od_Mo_worst_46 : decode prog_11_method_31_code 46 = .ok (.ifCond .eq (46), 3) := by decide +kernel
theorem od_Mo_worst_49 : decode prog_11_method_31_code 49 = .ok (.aload_n 0, 1) := by decide +kernel
theorem od_Mo_worst_50 : decode prog_11_method_31_code 50 = .ok (.getfield 45, 3) := by decide +kernel
theorem od_Mo_worst_53 : decode prog_11_method_31_code 53 = .ok (.iload 6, 2) := by decide +kernel
theorem od_Mo_worst_55 : decode prog_11_method_31_code 55 = .ok (.iaload, 1) := by decide +kernel
theorem od_Mo_worst_56 : decode prog_11_method_31_code 56 = .ok (.iconst 1, 1) := by decide +kernel
theorem od_Mo_worst_57 : decode prog_11_method_31_code 57 = .ok (.if_icmp .eq (35), 3) := by decide +kernel
theorem od_Mo_worst_60 : decode prog_11_method_31_code 60 = .ok (.iload 4, 2) := by decide +kernel
theorem od_Mo_worst_62 : decode prog_11_method_31_code 62 = .ok (.ifCond .ne (7), 3) := by decide +kernel
theorem od_Mo_worst_65 : decode prog_11_method_31_code 65 = .ok (.iconst 1, 1) := by decide +kernel
theorem od_Mo_worst_66 : decode prog_11_method_31_code 66 = .ok (.goto (4), 3) := by decide +kernel
theorem od_Mo_worst_69 : decode prog_11_method_31_code 69 = .ok (.iconst 0, 1) := by decide +kernel
theorem od_Mo_worst_70 : decode prog_11_method_31_code 70 = .ok (.iload_n 1, 1) := by decide +kernel
theorem od_Mo_worst_71 : decode prog_11_method_31_code 71 = .ok (.if_icmp .ne (21), 3) := by decide +kernel
theorem od_Mo_worst_74 : decode prog_11_method_31_code 74 = .ok (.iload_n 2, 1) := by decide +kernel
theorem od_Mo_worst_75 : decode prog_11_method_31_code 75 = .ok (.ifCond .lt (13), 3) := by decide +kernel
theorem od_Mo_worst_78 : decode prog_11_method_31_code 78 = .ok (.aload_n 0, 1) := by decide +kernel
theorem od_Mo_worst_79 : decode prog_11_method_31_code 79 = .ok (.iload_n 2, 1) := by decide +kernel
theorem od_Mo_worst_80 : decode prog_11_method_31_code 80 = .ok (.iload 6, 2) := by decide +kernel
theorem od_Mo_worst_82 : decode prog_11_method_31_code 82 = .ok (.invokevirtual 210, 3) := by decide +kernel
theorem od_Mo_worst_85 : decode prog_11_method_31_code 85 = .ok (.ifCond .eq (7), 3) := by decide +kernel
theorem od_Mo_worst_88 : decode prog_11_method_31_code 88 = .ok (.iconst 1, 1) := by decide +kernel
theorem od_Mo_worst_89 : decode prog_11_method_31_code 89 = .ok (.goto (4), 3) := by decide +kernel
theorem od_Mo_worst_92 : decode prog_11_method_31_code 92 = .ok (.iconst 0, 1) := by decide +kernel
theorem od_Mo_worst_93 : decode prog_11_method_31_code 93 = .ok (.istore 7, 2) := by decide +kernel
theorem od_Mo_worst_95 : decode prog_11_method_31_code 95 = .ok (.iload 7, 2) := by decide +kernel
theorem od_Mo_worst_97 : decode prog_11_method_31_code 97 = .ok (.ifCond .eq (22), 3) := by decide +kernel
theorem od_Mo_worst_100 : decode prog_11_method_31_code 100 = .ok (.iload_n 3, 1) := by decide +kernel
theorem od_Mo_worst_101 : decode prog_11_method_31_code 101 = .ok (.ifCond .lt (13), 3) := by decide +kernel
theorem od_Mo_worst_104 : decode prog_11_method_31_code 104 = .ok (.aload_n 0, 1) := by decide +kernel
theorem od_Mo_worst_105 : decode prog_11_method_31_code 105 = .ok (.iload 6, 2) := by decide +kernel
theorem od_Mo_worst_107 : decode prog_11_method_31_code 107 = .ok (.iload_n 3, 1) := by decide +kernel
theorem od_Mo_worst_108 : decode prog_11_method_31_code 108 = .ok (.invokevirtual 210, 3) := by decide +kernel
theorem od_Mo_worst_111 : decode prog_11_method_31_code 111 = .ok (.ifCond .eq (8), 3) := by decide +kernel
theorem od_Mo_worst_114 : decode prog_11_method_31_code 114 = .ok (.iload 6, 2) := by decide +kernel
theorem od_Mo_worst_116 : decode prog_11_method_31_code 116 = .ok (.goto (4), 3) := by decide +kernel
theorem od_Mo_worst_119 : decode prog_11_method_31_code 119 = .ok (.iload_n 3, 1) := by decide +kernel
theorem od_Mo_worst_120 : decode prog_11_method_31_code 120 = .ok (.istore_n 3, 1) := by decide +kernel
theorem od_Mo_worst_121 : decode prog_11_method_31_code 121 = .ok (.iinc 5 (1), 3) := by decide +kernel
theorem od_Mo_worst_124 : decode prog_11_method_31_code 124 = .ok (.goto (-104), 3) := by decide +kernel
theorem od_Mo_worst_127 : decode prog_11_method_31_code 127 = .ok (.iinc 4 (1), 3) := by decide +kernel
theorem od_Mo_worst_130 : decode prog_11_method_31_code 130 = .ok (.goto (-125), 3) := by decide +kernel
theorem od_Mo_worst_133 : decode prog_11_method_31_code 133 = .ok (.iload_n 3, 1) := by decide +kernel
theorem od_Mo_worst_134 : decode prog_11_method_31_code 134 = .ok (.ireturn, 1) := by decide +kernel
theorem od_Mo_count_0 : decode prog_11_method_33_code 0 = .ok (.iconst 0, 1) := by decide +kernel
theorem od_Mo_count_1 : decode prog_11_method_33_code 1 = .ok (.istore_n 2, 1) := by decide +kernel
theorem od_Mo_count_2 : decode prog_11_method_33_code 2 = .ok (.iconst 0, 1) := by decide +kernel
theorem od_Mo_count_3 : decode prog_11_method_33_code 3 = .ok (.istore_n 3, 1) := by decide +kernel
theorem od_Mo_count_4 : decode prog_11_method_33_code 4 = .ok (.iload_n 3, 1) := by decide +kernel
theorem od_Mo_count_5 : decode prog_11_method_33_code 5 = .ok (.aload_n 0, 1) := by decide +kernel
theorem od_Mo_count_6 : decode prog_11_method_33_code 6 = .ok (.getfield 187, 3) := by decide +kernel
theorem od_Mo_count_9 : decode prog_11_method_33_code 9 = .ok (.if_icmp .ge (65), 3) := by decide +kernel
theorem od_Mo_count_12 : decode prog_11_method_33_code 12 = .ok (.iload_n 3, 1) := by decide +kernel
theorem od_Mo_count_13 : decode prog_11_method_33_code 13 = .ok (.iconst 1, 1) := by decide +kernel
theorem od_Mo_count_14 : decode prog_11_method_33_code 14 = .ok (.iadd, 1) := by decide +kernel
theorem od_Mo_count_15 : decode prog_11_method_33_code 15 = .ok (.istore 4, 2) := by decide +kernel
theorem od_Mo_count_17 : decode prog_11_method_33_code 17 = .ok (.iload 4, 2) := by decide +kernel
theorem od_Mo_count_19 : decode prog_11_method_33_code 19 = .ok (.aload_n 0, 1) := by decide +kernel
theorem od_Mo_count_20 : decode prog_11_method_33_code 20 = .ok (.getfield 187, 3) := by decide +kernel
theorem od_Mo_count_23 : decode prog_11_method_33_code 23 = .ok (.if_icmp .ge (45), 3) := by decide +kernel
theorem od_Mo_count_26 : decode prog_11_method_33_code 26 = .ok (.iload_n 2, 1) := by decide +kernel
theorem od_Mo_count_27 : decode prog_11_method_33_code 27 = .ok (.aload_n 0, 1) := by decide +kernel
theorem od_Mo_count_28 : decode prog_11_method_33_code 28 = .ok (.getfield 41, 3) := by decide +kernel
theorem od_Mo_count_31 : decode prog_11_method_33_code 31 = .ok (.bipush (8), 2) := by decide +kernel
theorem od_Mo_count_33 : decode prog_11_method_33_code 33 = .ok (.iload_n 3, 1) := by decide +kernel
theorem od_Mo_count_34 : decode prog_11_method_33_code 34 = .ok (.imul, 1) := by decide +kernel
theorem od_Mo_count_35 : decode prog_11_method_33_code 35 = .ok (.iload 4, 2) := by decide +kernel
theorem od_Mo_count_37 : decode prog_11_method_33_code 37 = .ok (.iadd, 1) := by decide +kernel
theorem od_Mo_count_38 : decode prog_11_method_33_code 38 = .ok (.baload, 1) := by decide +kernel
theorem od_Mo_count_39 : decode prog_11_method_33_code 39 = .ok (.ifCond .eq (20), 3) := by decide +kernel
theorem od_Mo_count_42 : decode prog_11_method_33_code 42 = .ok (.iload_n 3, 1) := by decide +kernel
theorem od_Mo_count_43 : decode prog_11_method_33_code 43 = .ok (.ifCond .ne (7), 3) := by decide +kernel
theorem od_Mo_count_46 : decode prog_11_method_33_code 46 = .ok (.iconst 1, 1) := by decide +kernel
theorem od_Mo_count_47 : decode prog_11_method_33_code 47 = .ok (.goto (4), 3) := by decide +kernel
theorem od_Mo_count_50 : decode prog_11_method_33_code 50 = .ok (.iconst 0, 1) := by decide +kernel
theorem od_Mo_count_51 : decode prog_11_method_33_code 51 = .ok (.iload_n 1, 1) := by decide +kernel
theorem od_Mo_count_52 : decode prog_11_method_33_code 52 = .ok (.if_icmp .ne (7), 3) := by decide +kernel
theorem od_Mo_count_55 : decode prog_11_method_33_code 55 = .ok (.iconst 1, 1) := by decide +kernel
theorem od_Mo_count_56 : decode prog_11_method_33_code 56 = .ok (.goto (4), 3) := by decide +kernel
theorem od_Mo_count_59 : decode prog_11_method_33_code 59 = .ok (.iconst 0, 1) := by decide +kernel
theorem od_Mo_count_60 : decode prog_11_method_33_code 60 = .ok (.iadd, 1) := by decide +kernel
theorem od_Mo_count_61 : decode prog_11_method_33_code 61 = .ok (.istore_n 2, 1) := by decide +kernel
theorem od_Mo_count_62 : decode prog_11_method_33_code 62 = .ok (.iinc 4 (1), 3) := by decide +kernel
theorem od_Mo_count_65 : decode prog_11_method_33_code 65 = .ok (.goto (-48), 3) := by decide +kernel
theorem od_Mo_count_68 : decode prog_11_method_33_code 68 = .ok (.iinc 3 (1), 3) := by decide +kernel
theorem od_Mo_count_71 : decode prog_11_method_33_code 71 = .ok (.goto (-67), 3) := by decide +kernel
theorem od_Mo_count_74 : decode prog_11_method_33_code 74 = .ok (.iload_n 2, 1) := by decide +kernel
theorem od_Mo_count_75 : decode prog_11_method_33_code 75 = .ok (.ireturn, 1) := by decide +kernel
theorem od_Mo_joins_0 : decode prog_11_method_30_code 0 = .ok (.iconst 0, 1) := by decide +kernel
theorem od_Mo_joins_1 : decode prog_11_method_30_code 1 = .ok (.istore_n 3, 1) := by decide +kernel
theorem od_Mo_joins_2 : decode prog_11_method_30_code 2 = .ok (.iload_n 3, 1) := by decide +kernel
theorem od_Mo_joins_3 : decode prog_11_method_30_code 3 = .ok (.aload_n 0, 1) := by decide +kernel
theorem od_Mo_joins_4 : decode prog_11_method_30_code 4 = .ok (.getfield 187, 3) := by decide +kernel
theorem od_Mo_joins_7 : decode prog_11_method_30_code 7 = .ok (.if_icmp .ge (25), 3) := by decide +kernel
theorem od_Mo_joins_10 : decode prog_11_method_30_code 10 = .ok (.aload_n 0, 1) := by decide +kernel
theorem od_Mo_joins_11 : decode prog_11_method_30_code 11 = .ok (.getfield 48, 3) := by decide +kernel
theorem od_Mo_joins_14 : decode prog_11_method_30_code 14 = .ok (.iload_n 3, 1) := by decide +kernel
theorem od_Mo_joins_15 : decode prog_11_method_30_code 15 = .ok (.iload_n 3, 1) := by decide +kernel
theorem od_Mo_joins_16 : decode prog_11_method_30_code 16 = .ok (.iconst 1, 1) := by decide +kernel
theorem od_Mo_joins_17 : decode prog_11_method_30_code 17 = .ok (.if_icmp .ne (7), 3) := by decide +kernel
theorem od_Mo_joins_20 : decode prog_11_method_30_code 20 = .ok (.iconst 1, 1) := by decide +kernel
theorem od_Mo_joins_21 : decode prog_11_method_30_code 21 = .ok (.goto (4), 3) := by decide +kernel
theorem od_Mo_joins_24 : decode prog_11_method_30_code 24 = .ok (.iconst 0, 1) := by decide +kernel
theorem od_Mo_joins_25 : decode prog_11_method_30_code 25 = .ok (.iastore, 1) := by decide +kernel
theorem od_Mo_joins_26 : decode prog_11_method_30_code 26 = .ok (.iinc 3 (1), 3) := by decide +kernel
theorem od_Mo_joins_29 : decode prog_11_method_30_code 29 = .ok (.goto (-27), 3) := by decide +kernel
theorem od_Mo_joins_32 : decode prog_11_method_30_code 32 = .ok (.iconst 1, 1) := by decide +kernel
theorem od_Mo_joins_33 : decode prog_11_method_30_code 33 = .ok (.istore_n 3, 1) := by decide +kernel
theorem od_Mo_joins_34 : decode prog_11_method_30_code 34 = .ok (.iload_n 3, 1) := by decide +kernel
theorem od_Mo_joins_35 : decode prog_11_method_30_code 35 = .ok (.ifCond .eq (122), 3) := by decide +kernel
theorem od_Mo_joins_38 : decode prog_11_method_30_code 38 = .ok (.iconst 0, 1) := by decide +kernel
theorem od_Mo_joins_39 : decode prog_11_method_30_code 39 = .ok (.istore_n 3, 1) := by decide +kernel
theorem od_Mo_joins_40 : decode prog_11_method_30_code 40 = .ok (.iconst 1, 1) := by decide +kernel
theorem od_Mo_joins_41 : decode prog_11_method_30_code 41 = .ok (.istore 4, 2) := by decide +kernel
theorem od_Mo_joins_43 : decode prog_11_method_30_code 43 = .ok (.iload 4, 2) := by decide +kernel
theorem od_Mo_joins_45 : decode prog_11_method_30_code 45 = .ok (.aload_n 0, 1) := by decide +kernel
theorem od_Mo_joins_46 : decode prog_11_method_30_code 46 = .ok (.getfield 187, 3) := by decide +kernel
theorem od_Mo_joins_49 : decode prog_11_method_30_code 49 = .ok (.if_icmp .ge (105), 3) := by decide +kernel
theorem od_Mo_joins_52 : decode prog_11_method_30_code 52 = .ok (.iload 4, 2) := by decide +kernel
theorem od_Mo_joins_54 : decode prog_11_method_30_code 54 = .ok (.iconst 1, 1) := by decide +kernel
theorem od_Mo_joins_55 : decode prog_11_method_30_code 55 = .ok (.iadd, 1) := by decide +kernel
theorem od_Mo_joins_56 : decode prog_11_method_30_code 56 = .ok (.istore 5, 2) := by decide +kernel
theorem od_Mo_joins_58 : decode prog_11_method_30_code 58 = .ok (.iload 5, 2) := by decide +kernel
theorem od_Mo_joins_60 : decode prog_11_method_30_code 60 = .ok (.aload_n 0, 1) := by decide +kernel
theorem od_Mo_joins_61 : decode prog_11_method_30_code 61 = .ok (.getfield 187, 3) := by decide +kernel
theorem od_Mo_joins_64 : decode prog_11_method_30_code 64 = .ok (.if_icmp .ge (84), 3) := by decide +kernel
theorem od_Mo_joins_67 : decode prog_11_method_30_code 67 = .ok (.aload_n 0, 1) := by decide +kernel
theorem od_Mo_joins_68 : decode prog_11_method_30_code 68 = .ok (.getfield 41, 3) := by decide +kernel
theorem od_Mo_joins_71 : decode prog_11_method_30_code 71 = .ok (.bipush (8), 2) := by decide +kernel
theorem od_Mo_joins_73 : decode prog_11_method_30_code 73 = .ok (.iload 4, 2) := by decide +kernel
theorem od_Mo_joins_75 : decode prog_11_method_30_code 75 = .ok (.imul, 1) := by decide +kernel
theorem od_Mo_joins_76 : decode prog_11_method_30_code 76 = .ok (.iload 5, 2) := by decide +kernel
theorem od_Mo_joins_78 : decode prog_11_method_30_code 78 = .ok (.iadd, 1) := by decide +kernel
theorem od_Mo_joins_79 : decode prog_11_method_30_code 79 = .ok (.baload, 1) := by decide +kernel
theorem od_Mo_joins_80 : decode prog_11_method_30_code 80 = .ok (.ifCond .eq (19), 3) := by decide +kernel
theorem od_Mo_joins_83 : decode prog_11_method_30_code 83 = .ok (.iload 4, 2) := by decide +kernel
theorem od_Mo_joins_85 : decode prog_11_method_30_code 85 = .ok (.iload_n 1, 1) := by decide +kernel
theorem od_Mo_joins_86 : decode prog_11_method_30_code 86 = .ok (.if_icmp .ne (9), 3) := by decide +kernel
theorem od_Mo_joins_89 : decode prog_11_method_30_code 89 = .ok (.iload 5, 2) := by decide +kernel
theorem od_Mo_joins_91 : decode prog_11_method_30_code 91 = .ok (.iload_n 2, 1) := by decide +kernel
theorem od_Mo_joins_92 : decode prog_11_method_30_code 92 = .ok (.if_icmp .eq (7), 3) := by decide +kernel
theorem od_Mo_joins_95 : decode prog_11_method_30_code 95 = .ok (.iconst 1, 1) := by decide +kernel
theorem od_Mo_joins_96 : decode prog_11_method_30_code 96 = .ok (.goto (4), 3) := by decide +kernel
theorem od_Mo_joins_99 : decode prog_11_method_30_code 99 = .ok (.iconst 0, 1) := by decide +kernel
theorem od_Mo_joins_100 : decode prog_11_method_30_code 100 = .ok (.istore 6, 2) := by decide +kernel
theorem od_Mo_joins_102 : decode prog_11_method_30_code 102 = .ok (.iload 6, 2) := by decide +kernel
theorem od_Mo_joins_104 : decode prog_11_method_30_code 104 = .ok (.ifCond .eq (38), 3) := by decide +kernel
theorem od_Mo_joins_107 : decode prog_11_method_30_code 107 = .ok (.aload_n 0, 1) := by decide +kernel
theorem od_Mo_joins_108 : decode prog_11_method_30_code 108 = .ok (.getfield 48, 3) := by decide +kernel
theorem od_Mo_joins_111 : decode prog_11_method_30_code 111 = .ok (.iload 4, 2) := by decide +kernel
theorem od_Mo_joins_113 : decode prog_11_method_30_code 113 = .ok (.iaload, 1) := by decide +kernel
theorem od_Mo_joins_114 : decode prog_11_method_30_code 114 = .ok (.aload_n 0, 1) := by decide +kernel
theorem od_Mo_joins_115 : decode prog_11_method_30_code 115 = .ok (.getfield 48, 3) := by decide +kernel
theorem od_Mo_joins_118 : decode prog_11_method_30_code 118 = .ok (.iload 5, 2) := by decide +kernel
theorem od_Mo_joins_120 : decode prog_11_method_30_code 120 = .ok (.iaload, 1) := by decide +kernel
theorem od_Mo_joins_121 : decode prog_11_method_30_code 121 = .ok (.if_icmp .eq (21), 3) := by decide +kernel
theorem od_Mo_joins_124 : decode prog_11_method_30_code 124 = .ok (.aload_n 0, 1) := by decide +kernel
theorem od_Mo_joins_125 : decode prog_11_method_30_code 125 = .ok (.getfield 48, 3) := by decide +kernel
theorem od_Mo_joins_128 : decode prog_11_method_30_code 128 = .ok (.iload 4, 2) := by decide +kernel
theorem od_Mo_joins_130 : decode prog_11_method_30_code 130 = .ok (.iconst 1, 1) := by decide +kernel
theorem od_Mo_joins_131 : decode prog_11_method_30_code 131 = .ok (.iastore, 1) := by decide +kernel
theorem od_Mo_joins_132 : decode prog_11_method_30_code 132 = .ok (.aload_n 0, 1) := by decide +kernel
theorem od_Mo_joins_133 : decode prog_11_method_30_code 133 = .ok (.getfield 48, 3) := by decide +kernel
theorem od_Mo_joins_136 : decode prog_11_method_30_code 136 = .ok (.iload 5, 2) := by decide +kernel
theorem od_Mo_joins_138 : decode prog_11_method_30_code 138 = .ok (.iconst 1, 1) := by decide +kernel
theorem od_Mo_joins_139 : decode prog_11_method_30_code 139 = .ok (.iastore, 1) := by decide +kernel
theorem od_Mo_joins_140 : decode prog_11_method_30_code 140 = .ok (.iconst 1, 1) := by decide +kernel
theorem od_Mo_joins_141 : decode prog_11_method_30_code 141 = .ok (.istore_n 3, 1) := by decide +kernel
theorem od_Mo_joins_142 : decode prog_11_method_30_code 142 = .ok (.iinc 5 (1), 3) := by decide +kernel
theorem od_Mo_joins_145 : decode prog_11_method_30_code 145 = .ok (.goto (-87), 3) := by decide +kernel
theorem od_Mo_joins_148 : decode prog_11_method_30_code 148 = .ok (.iinc 4 (1), 3) := by decide +kernel
theorem od_Mo_joins_151 : decode prog_11_method_30_code 151 = .ok (.goto (-108), 3) := by decide +kernel
theorem od_Mo_joins_154 : decode prog_11_method_30_code 154 = .ok (.goto (-120), 3) := by decide +kernel
theorem od_Mo_joins_157 : decode prog_11_method_30_code 157 = .ok (.iconst 0, 1) := by decide +kernel
theorem od_Mo_joins_158 : decode prog_11_method_30_code 158 = .ok (.istore 4, 2) := by decide +kernel
theorem od_Mo_joins_160 : decode prog_11_method_30_code 160 = .ok (.iconst 1, 1) := by decide +kernel
theorem od_Mo_joins_161 : decode prog_11_method_30_code 161 = .ok (.istore 5, 2) := by decide +kernel
theorem od_Mo_joins_163 : decode prog_11_method_30_code 163 = .ok (.iload 5, 2) := by decide +kernel
theorem od_Mo_joins_165 : decode prog_11_method_30_code 165 = .ok (.aload_n 0, 1) := by decide +kernel
theorem od_Mo_joins_166 : decode prog_11_method_30_code 166 = .ok (.getfield 187, 3) := by decide +kernel
theorem od_Mo_joins_169 : decode prog_11_method_30_code 169 = .ok (.if_icmp .ge (21), 3) := by decide +kernel
theorem od_Mo_joins_172 : decode prog_11_method_30_code 172 = .ok (.iload 4, 2) := by decide +kernel
theorem od_Mo_joins_174 : decode prog_11_method_30_code 174 = .ok (.aload_n 0, 1) := by decide +kernel
theorem od_Mo_joins_175 : decode prog_11_method_30_code 175 = .ok (.getfield 48, 3) := by decide +kernel
theorem od_Mo_joins_178 : decode prog_11_method_30_code 178 = .ok (.iload 5, 2) := by decide +kernel
theorem od_Mo_joins_180 : decode prog_11_method_30_code 180 = .ok (.iaload, 1) := by decide +kernel
theorem od_Mo_joins_181 : decode prog_11_method_30_code 181 = .ok (.iadd, 1) := by decide +kernel
theorem od_Mo_joins_182 : decode prog_11_method_30_code 182 = .ok (.istore 4, 2) := by decide +kernel
theorem od_Mo_joins_184 : decode prog_11_method_30_code 184 = .ok (.iinc 5 (1), 3) := by decide +kernel
theorem od_Mo_joins_187 : decode prog_11_method_30_code 187 = .ok (.goto (-24), 3) := by decide +kernel
theorem od_Mo_joins_190 : decode prog_11_method_30_code 190 = .ok (.iload 4, 2) := by decide +kernel
theorem od_Mo_joins_192 : decode prog_11_method_30_code 192 = .ok (.aload_n 0, 1) := by decide +kernel
theorem od_Mo_joins_193 : decode prog_11_method_30_code 193 = .ok (.getfield 187, 3) := by decide +kernel
theorem od_Mo_joins_196 : decode prog_11_method_30_code 196 = .ok (.iconst 1, 1) := by decide +kernel
theorem od_Mo_joins_197 : decode prog_11_method_30_code 197 = .ok (.isub, 1) := by decide +kernel
theorem od_Mo_joins_198 : decode prog_11_method_30_code 198 = .ok (.if_icmp .ne (7), 3) := by decide +kernel
theorem od_Mo_joins_201 : decode prog_11_method_30_code 201 = .ok (.iconst 1, 1) := by decide +kernel
theorem od_Mo_joins_202 : decode prog_11_method_30_code 202 = .ok (.goto (4), 3) := by decide +kernel
theorem od_Mo_joins_205 : decode prog_11_method_30_code 205 = .ok (.iconst 0, 1) := by decide +kernel
theorem od_Mo_joins_206 : decode prog_11_method_30_code 206 = .ok (.ireturn, 1) := by decide +kernel
theorem od_Mo_tree_0 : decode prog_11_method_34_code 0 = .ok (.aload_n 0, 1) := by decide +kernel
theorem od_Mo_tree_1 : decode prog_11_method_34_code 1 = .ok (.getfield 187, 3) := by decide +kernel
theorem od_Mo_tree_4 : decode prog_11_method_34_code 4 = .ok (.ifCond .ne (5), 3) := by decide +kernel
theorem od_Mo_tree_7 : decode prog_11_method_34_code 7 = .ok (.iconst 0, 1) := by decide +kernel
theorem od_Mo_tree_8 : decode prog_11_method_34_code 8 = .ok (.ireturn, 1) := by decide +kernel
theorem od_Mo_tree_9 : decode prog_11_method_34_code 9 = .ok (.iconst 0, 1) := by decide +kernel
theorem od_Mo_tree_10 : decode prog_11_method_34_code 10 = .ok (.istore_n 1, 1) := by decide +kernel
theorem od_Mo_tree_11 : decode prog_11_method_34_code 11 = .ok (.iload_n 1, 1) := by decide +kernel
theorem od_Mo_tree_12 : decode prog_11_method_34_code 12 = .ok (.aload_n 0, 1) := by decide +kernel
theorem od_Mo_tree_13 : decode prog_11_method_34_code 13 = .ok (.getfield 187, 3) := by decide +kernel
theorem od_Mo_tree_16 : decode prog_11_method_34_code 16 = .ok (.if_icmp .ge (58), 3) := by decide +kernel
theorem od_Mo_tree_19 : decode prog_11_method_34_code 19 = .ok (.iload_n 1, 1) := by decide +kernel
theorem od_Mo_tree_20 : decode prog_11_method_34_code 20 = .ok (.iconst 1, 1) := by decide +kernel
theorem od_Mo_tree_21 : decode prog_11_method_34_code 21 = .ok (.iadd, 1) := by decide +kernel
theorem od_Mo_tree_22 : decode prog_11_method_34_code 22 = .ok (.istore_n 2, 1) := by decide +kernel
theorem od_Mo_tree_23 : decode prog_11_method_34_code 23 = .ok (.iload_n 2, 1) := by decide +kernel
theorem od_Mo_tree_24 : decode prog_11_method_34_code 24 = .ok (.aload_n 0, 1) := by decide +kernel
theorem od_Mo_tree_25 : decode prog_11_method_34_code 25 = .ok (.getfield 187, 3) := by decide +kernel
theorem od_Mo_tree_28 : decode prog_11_method_34_code 28 = .ok (.if_icmp .ge (40), 3) := by decide +kernel
theorem od_Mo_tree_31 : decode prog_11_method_34_code 31 = .ok (.aload_n 0, 1) := by decide +kernel
theorem od_Mo_tree_32 : decode prog_11_method_34_code 32 = .ok (.getfield 41, 3) := by decide +kernel
theorem od_Mo_tree_35 : decode prog_11_method_34_code 35 = .ok (.bipush (8), 2) := by decide +kernel
theorem od_Mo_tree_37 : decode prog_11_method_34_code 37 = .ok (.iload_n 1, 1) := by decide +kernel
theorem od_Mo_tree_38 : decode prog_11_method_34_code 38 = .ok (.imul, 1) := by decide +kernel
theorem od_Mo_tree_39 : decode prog_11_method_34_code 39 = .ok (.iload_n 2, 1) := by decide +kernel
theorem od_Mo_tree_40 : decode prog_11_method_34_code 40 = .ok (.iadd, 1) := by decide +kernel
theorem od_Mo_tree_41 : decode prog_11_method_34_code 41 = .ok (.aload_n 0, 1) := by decide +kernel
theorem od_Mo_tree_42 : decode prog_11_method_34_code 42 = .ok (.getfield 45, 3) := by decide +kernel
theorem od_Mo_tree_45 : decode prog_11_method_34_code 45 = .ok (.bipush (8), 2) := by decide +kernel
theorem od_Mo_tree_47 : decode prog_11_method_34_code 47 = .ok (.iload_n 1, 1) := by decide +kernel
theorem od_Mo_tree_48 : decode prog_11_method_34_code 48 = .ok (.imul, 1) := by decide +kernel
theorem od_Mo_tree_49 : decode prog_11_method_34_code 49 = .ok (.iload_n 2, 1) := by decide +kernel
theorem od_Mo_tree_50 : decode prog_11_method_34_code 50 = .ok (.iadd, 1) := by decide +kernel
theorem od_Mo_tree_51 : decode prog_11_method_34_code 51 = .ok (.iaload, 1) := by decide +kernel
theorem od_Mo_tree_52 : decode prog_11_method_34_code 52 = .ok (.iconst 2, 1) := by decide +kernel
theorem od_Mo_tree_53 : decode prog_11_method_34_code 53 = .ok (.if_icmp .eq (7), 3) := by decide +kernel
theorem od_Mo_tree_56 : decode prog_11_method_34_code 56 = .ok (.iconst 1, 1) := by decide +kernel
theorem od_Mo_tree_57 : decode prog_11_method_34_code 57 = .ok (.goto (4), 3) := by decide +kernel
theorem od_Mo_tree_60 : decode prog_11_method_34_code 60 = .ok (.iconst 0, 1) := by decide +kernel
theorem od_Mo_tree_61 : decode prog_11_method_34_code 61 = .ok (.bastore, 1) := by decide +kernel
theorem od_Mo_tree_62 : decode prog_11_method_34_code 62 = .ok (.iinc 2 (1), 3) := by decide +kernel
theorem od_Mo_tree_65 : decode prog_11_method_34_code 65 = .ok (.goto (-42), 3) := by decide +kernel
theorem od_Mo_tree_68 : decode prog_11_method_34_code 68 = .ok (.iinc 1 (1), 3) := by decide +kernel
theorem od_Mo_tree_71 : decode prog_11_method_34_code 71 = .ok (.goto (-60), 3) := by decide +kernel
theorem od_Mo_tree_74 : decode prog_11_method_34_code 74 = .ok (.aload_n 0, 1) := by decide +kernel
theorem od_Mo_tree_75 : decode prog_11_method_34_code 75 = .ok (.iconst 1, 1) := by decide +kernel
theorem od_Mo_tree_76 : decode prog_11_method_34_code 76 = .ok (.iconst (-1), 1) := by decide +kernel
theorem od_Mo_tree_77 : decode prog_11_method_34_code 77 = .ok (.invokevirtual 217, 3) := by decide +kernel
theorem od_Mo_tree_80 : decode prog_11_method_34_code 80 = .ok (.istore_n 1, 1) := by decide +kernel
theorem od_Mo_tree_81 : decode prog_11_method_34_code 81 = .ok (.aload_n 0, 1) := by decide +kernel
theorem od_Mo_tree_82 : decode prog_11_method_34_code 82 = .ok (.iconst 1, 1) := by decide +kernel
theorem od_Mo_tree_83 : decode prog_11_method_34_code 83 = .ok (.invokevirtual 221, 3) := by decide +kernel
theorem od_Mo_tree_86 : decode prog_11_method_34_code 86 = .ok (.iconst 2, 1) := by decide +kernel
theorem od_Mo_tree_87 : decode prog_11_method_34_code 87 = .ok (.if_icmp .le (24), 3) := by decide +kernel
theorem od_Mo_tree_90 : decode prog_11_method_34_code 90 = .ok (.iload_n 1, 1) := by decide +kernel
theorem od_Mo_tree_91 : decode prog_11_method_34_code 91 = .ok (.ifCond .lt (20), 3) := by decide +kernel
theorem od_Mo_tree_94 : decode prog_11_method_34_code 94 = .ok (.aload_n 0, 1) := by decide +kernel
theorem od_Mo_tree_95 : decode prog_11_method_34_code 95 = .ok (.getfield 41, 3) := by decide +kernel
theorem od_Mo_tree_98 : decode prog_11_method_34_code 98 = .ok (.iload_n 1, 1) := by decide +kernel
theorem od_Mo_tree_99 : decode prog_11_method_34_code 99 = .ok (.iconst 0, 1) := by decide +kernel
theorem od_Mo_tree_100 : decode prog_11_method_34_code 100 = .ok (.bastore, 1) := by decide +kernel
theorem od_Mo_tree_101 : decode prog_11_method_34_code 101 = .ok (.aload_n 0, 1) := by decide +kernel
theorem od_Mo_tree_102 : decode prog_11_method_34_code 102 = .ok (.iconst 1, 1) := by decide +kernel
theorem od_Mo_tree_103 : decode prog_11_method_34_code 103 = .ok (.iconst (-1), 1) := by decide +kernel
theorem od_Mo_tree_104 : decode prog_11_method_34_code 104 = .ok (.invokevirtual 217, 3) := by decide +kernel
theorem od_Mo_tree_107 : decode prog_11_method_34_code 107 = .ok (.istore_n 1, 1) := by decide +kernel
theorem od_Mo_tree_108 : decode prog_11_method_34_code 108 = .ok (.goto (-27), 3) := by decide +kernel
theorem od_Mo_tree_111 : decode prog_11_method_34_code 111 = .ok (.aload_n 0, 1) := by decide +kernel
theorem od_Mo_tree_112 : decode prog_11_method_34_code 112 = .ok (.iconst 1, 1) := by decide +kernel
theorem od_Mo_tree_113 : decode prog_11_method_34_code 113 = .ok (.invokevirtual 221, 3) := by decide +kernel
theorem od_Mo_tree_116 : decode prog_11_method_34_code 116 = .ok (.iconst 2, 1) := by decide +kernel
theorem od_Mo_tree_117 : decode prog_11_method_34_code 117 = .ok (.if_icmp .ne (12), 3) := by decide +kernel
theorem od_Mo_tree_120 : decode prog_11_method_34_code 120 = .ok (.aload_n 0, 1) := by decide +kernel
theorem od_Mo_tree_121 : decode prog_11_method_34_code 121 = .ok (.iconst (-1), 1) := by decide +kernel
theorem od_Mo_tree_122 : decode prog_11_method_34_code 122 = .ok (.iconst (-1), 1) := by decide +kernel
theorem od_Mo_tree_123 : decode prog_11_method_34_code 123 = .ok (.invokevirtual 225, 3) := by decide +kernel
theorem od_Mo_tree_126 : decode prog_11_method_34_code 126 = .ok (.ifCond .ne (5), 3) := by decide +kernel
theorem od_Mo_tree_129 : decode prog_11_method_34_code 129 = .ok (.iconst 0, 1) := by decide +kernel
theorem od_Mo_tree_130 : decode prog_11_method_34_code 130 = .ok (.ireturn, 1) := by decide +kernel
theorem od_Mo_tree_131 : decode prog_11_method_34_code 131 = .ok (.aload_n 0, 1) := by decide +kernel
theorem od_Mo_tree_132 : decode prog_11_method_34_code 132 = .ok (.iconst 0, 1) := by decide +kernel
theorem od_Mo_tree_133 : decode prog_11_method_34_code 133 = .ok (.iconst (-1), 1) := by decide +kernel
theorem od_Mo_tree_134 : decode prog_11_method_34_code 134 = .ok (.invokevirtual 217, 3) := by decide +kernel
theorem od_Mo_tree_137 : decode prog_11_method_34_code 137 = .ok (.istore_n 2, 1) := by decide +kernel
theorem od_Mo_tree_138 : decode prog_11_method_34_code 138 = .ok (.iload_n 2, 1) := by decide +kernel
theorem od_Mo_tree_139 : decode prog_11_method_34_code 139 = .ok (.ifCond .lt (35), 3) := by decide +kernel
theorem od_Mo_tree_142 : decode prog_11_method_34_code 142 = .ok (.aload_n 0, 1) := by decide +kernel
theorem od_Mo_tree_143 : decode prog_11_method_34_code 143 = .ok (.iload_n 2, 1) := by decide +kernel
theorem od_Mo_tree_144 : decode prog_11_method_34_code 144 = .ok (.bipush (8), 2) := by decide +kernel
theorem od_Mo_tree_146 : decode prog_11_method_34_code 146 = .ok (.idiv, 1) := by decide +kernel
theorem od_Mo_tree_147 : decode prog_11_method_34_code 147 = .ok (.iload_n 2, 1) := by decide +kernel
theorem od_Mo_tree_148 : decode prog_11_method_34_code 148 = .ok (.bipush (8), 2) := by decide +kernel
theorem od_Mo_tree_150 : decode prog_11_method_34_code 150 = .ok (.irem, 1) := by decide +kernel
theorem od_Mo_tree_151 : decode prog_11_method_34_code 151 = .ok (.invokevirtual 225, 3) := by decide +kernel
theorem od_Mo_tree_154 : decode prog_11_method_34_code 154 = .ok (.ifCond .eq (10), 3) := by decide +kernel
theorem od_Mo_tree_157 : decode prog_11_method_34_code 157 = .ok (.aload_n 0, 1) := by decide +kernel
theorem od_Mo_tree_158 : decode prog_11_method_34_code 158 = .ok (.getfield 41, 3) := by decide +kernel
theorem od_Mo_tree_161 : decode prog_11_method_34_code 161 = .ok (.iload_n 2, 1) := by decide +kernel
theorem od_Mo_tree_162 : decode prog_11_method_34_code 162 = .ok (.iconst 0, 1) := by decide +kernel
theorem od_Mo_tree_163 : decode prog_11_method_34_code 163 = .ok (.bastore, 1) := by decide +kernel
theorem od_Mo_tree_164 : decode prog_11_method_34_code 164 = .ok (.aload_n 0, 1) := by decide +kernel
theorem od_Mo_tree_165 : decode prog_11_method_34_code 165 = .ok (.iconst 0, 1) := by decide +kernel
theorem od_Mo_tree_166 : decode prog_11_method_34_code 166 = .ok (.iload_n 2, 1) := by decide +kernel
theorem od_Mo_tree_167 : decode prog_11_method_34_code 167 = .ok (.invokevirtual 217, 3) := by decide +kernel
theorem od_Mo_tree_170 : decode prog_11_method_34_code 170 = .ok (.istore_n 2, 1) := by decide +kernel
theorem od_Mo_tree_171 : decode prog_11_method_34_code 171 = .ok (.goto (-33), 3) := by decide +kernel
theorem od_Mo_tree_174 : decode prog_11_method_34_code 174 = .ok (.aload_n 0, 1) := by decide +kernel
theorem od_Mo_tree_175 : decode prog_11_method_34_code 175 = .ok (.iconst 0, 1) := by decide +kernel
theorem od_Mo_tree_176 : decode prog_11_method_34_code 176 = .ok (.invokevirtual 221, 3) := by decide +kernel
theorem od_Mo_tree_179 : decode prog_11_method_34_code 179 = .ok (.aload_n 0, 1) := by decide +kernel
theorem od_Mo_tree_180 : decode prog_11_method_34_code 180 = .ok (.getfield 187, 3) := by decide +kernel
theorem od_Mo_tree_183 : decode prog_11_method_34_code 183 = .ok (.iconst 2, 1) := by decide +kernel
theorem od_Mo_tree_184 : decode prog_11_method_34_code 184 = .ok (.isub, 1) := by decide +kernel
theorem od_Mo_tree_185 : decode prog_11_method_34_code 185 = .ok (.if_icmp .ne (7), 3) := by decide +kernel
theorem od_Mo_tree_188 : decode prog_11_method_34_code 188 = .ok (.iconst 1, 1) := by decide +kernel
theorem od_Mo_tree_189 : decode prog_11_method_34_code 189 = .ok (.goto (4), 3) := by decide +kernel
theorem od_Mo_tree_192 : decode prog_11_method_34_code 192 = .ok (.iconst 0, 1) := by decide +kernel
theorem od_Mo_tree_193 : decode prog_11_method_34_code 193 = .ok (.ireturn, 1) := by decide +kernel
theorem od_Mo_boundNow_0 : decode prog_11_method_35_code 0 = .ok (.aload_n 0, 1) := by decide +kernel
theorem od_Mo_boundNow_1 : decode prog_11_method_35_code 1 = .ok (.invokevirtual 228, 3) := by decide +kernel
theorem od_Mo_boundNow_4 : decode prog_11_method_35_code 4 = .ok (.ifCond .ne (6), 3) := by decide +kernel
theorem od_Mo_boundNow_7 : decode prog_11_method_35_code 7 = .ok (.ldc 231, 2) := by decide +kernel
theorem od_Mo_boundNow_9 : decode prog_11_method_35_code 9 = .ok (.ireturn, 1) := by decide +kernel
theorem od_Mo_boundNow_10 : decode prog_11_method_35_code 10 = .ok (.iconst 0, 1) := by decide +kernel
theorem od_Mo_boundNow_11 : decode prog_11_method_35_code 11 = .ok (.istore_n 1, 1) := by decide +kernel
theorem od_Mo_boundNow_12 : decode prog_11_method_35_code 12 = .ok (.iconst 0, 1) := by decide +kernel
theorem od_Mo_boundNow_13 : decode prog_11_method_35_code 13 = .ok (.istore_n 2, 1) := by decide +kernel
theorem od_Mo_boundNow_14 : decode prog_11_method_35_code 14 = .ok (.iload_n 2, 1) := by decide +kernel
theorem od_Mo_boundNow_15 : decode prog_11_method_35_code 15 = .ok (.aload_n 0, 1) := by decide +kernel
theorem od_Mo_boundNow_16 : decode prog_11_method_35_code 16 = .ok (.getfield 187, 3) := by decide +kernel
theorem od_Mo_boundNow_19 : decode prog_11_method_35_code 19 = .ok (.if_icmp .ge (65), 3) := by decide +kernel
theorem od_Mo_boundNow_22 : decode prog_11_method_35_code 22 = .ok (.iload_n 1, 1) := by decide +kernel
theorem od_Mo_boundNow_23 : decode prog_11_method_35_code 23 = .ok (.iconst 2, 1) := by decide +kernel
theorem od_Mo_boundNow_24 : decode prog_11_method_35_code 24 = .ok (.aload_n 0, 1) := by decide +kernel
theorem od_Mo_boundNow_25 : decode prog_11_method_35_code 25 = .ok (.getfield 20, 3) := by decide +kernel
theorem od_Mo_boundNow_28 : decode prog_11_method_35_code 28 = .ok (.iload_n 2, 1) := by decide +kernel
theorem od_Mo_boundNow_29 : decode prog_11_method_35_code 29 = .ok (.iaload, 1) := by decide +kernel
theorem od_Mo_boundNow_30 : decode prog_11_method_35_code 30 = .ok (.imul, 1) := by decide +kernel
theorem od_Mo_boundNow_31 : decode prog_11_method_35_code 31 = .ok (.isub, 1) := by decide +kernel
theorem od_Mo_boundNow_32 : decode prog_11_method_35_code 32 = .ok (.istore_n 1, 1) := by decide +kernel
theorem od_Mo_boundNow_33 : decode prog_11_method_35_code 33 = .ok (.iload_n 2, 1) := by decide +kernel
theorem od_Mo_boundNow_34 : decode prog_11_method_35_code 34 = .ok (.iconst 1, 1) := by decide +kernel
theorem od_Mo_boundNow_35 : decode prog_11_method_35_code 35 = .ok (.iadd, 1) := by decide +kernel
theorem od_Mo_boundNow_36 : decode prog_11_method_35_code 36 = .ok (.istore_n 3, 1) := by decide +kernel
theorem od_Mo_boundNow_37 : decode prog_11_method_35_code 37 = .ok (.iload_n 3, 1) := by decide +kernel
theorem od_Mo_boundNow_38 : decode prog_11_method_35_code 38 = .ok (.aload_n 0, 1) := by decide +kernel
theorem od_Mo_boundNow_39 : decode prog_11_method_35_code 39 = .ok (.getfield 187, 3) := by decide +kernel
theorem od_Mo_boundNow_42 : decode prog_11_method_35_code 42 = .ok (.if_icmp .ge (36), 3) := by decide +kernel
theorem od_Mo_boundNow_45 : decode prog_11_method_35_code 45 = .ok (.iload_n 1, 1) := by decide +kernel
