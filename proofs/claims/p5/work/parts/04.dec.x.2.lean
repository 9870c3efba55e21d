theorem dX8_next_147 : decode cX8_next 147 = .ok (.ireturn, 1) := by decide +kernel
theorem dX8_kindOf_0 : decode cX8_kindOf 0 = .ok (.iload_n 0, 1) := by decide +kernel
theorem dX8_kindOf_1 : decode cX8_kindOf 1 = .ok (.tableswitch 151 35 64 #[135, 151, 142, 151, 151, 151, 151, 151, 151, 139, 151, 137, 145, 135, 151, 151, 151, 151, 151, 151, 151, 151, 151, 151, 151, 151, 151, 151, 135, 148], 135) := by decide +kernel
theorem dX8_kindOf_136 : decode cX8_kindOf 136 = .ok (.iconst 4, 1) := by decide +kernel
theorem dX8_kindOf_137 : decode cX8_kindOf 137 = .ok (.ireturn, 1) := by decide +kernel
theorem dX8_kindOf_138 : decode cX8_kindOf 138 = .ok (.iconst 5, 1) := by decide +kernel
theorem dX8_kindOf_139 : decode cX8_kindOf 139 = .ok (.ireturn, 1) := by decide +kernel
theorem dX8_kindOf_140 : decode cX8_kindOf 140 = .ok (.bipush 6, 2) := by decide +kernel
theorem dX8_kindOf_142 : decode cX8_kindOf 142 = .ok (.ireturn, 1) := by decide +kernel
theorem dX8_kindOf_143 : decode cX8_kindOf 143 = .ok (.bipush 7, 2) := by decide +kernel
theorem dX8_kindOf_145 : decode cX8_kindOf 145 = .ok (.ireturn, 1) := by decide +kernel
theorem dX8_kindOf_146 : decode cX8_kindOf 146 = .ok (.bipush 8, 2) := by decide +kernel
theorem dX8_kindOf_148 : decode cX8_kindOf 148 = .ok (.ireturn, 1) := by decide +kernel
theorem dX8_kindOf_149 : decode cX8_kindOf 149 = .ok (.bipush 9, 2) := by decide +kernel
theorem dX8_kindOf_151 : decode cX8_kindOf 151 = .ok (.ireturn, 1) := by decide +kernel
theorem dX8_kindOf_152 : decode cX8_kindOf 152 = .ok (.iload_n 0, 1) := by decide +kernel
theorem dX8_kindOf_153 : decode cX8_kindOf 153 = .ok (.bipush 126, 2) := by decide +kernel
theorem dX8_kindOf_155 : decode cX8_kindOf 155 = .ok (.if_icmp .gt 13, 3) := by decide +kernel
theorem dX8_kindOf_158 : decode cX8_kindOf 158 = .ok (.ldc 62, 2) := by decide +kernel
theorem dX8_kindOf_160 : decode cX8_kindOf 160 = .ok (.iload_n 0, 1) := by decide +kernel
theorem dX8_kindOf_161 : decode cX8_kindOf 161 = .ok (.i2c, 1) := by decide +kernel
theorem dX8_kindOf_162 : decode cX8_kindOf 162 = .ok (.invokevirtual 64, 3) := by decide +kernel
theorem dX8_kindOf_165 : decode cX8_kindOf 165 = .ok (.ifCond .lt 7, 3) := by decide +kernel
theorem dX8_kindOf_168 : decode cX8_kindOf 168 = .ok (.iconst 1, 1) := by decide +kernel
theorem dX8_kindOf_169 : decode cX8_kindOf 169 = .ok (.goto 4, 3) := by decide +kernel
theorem dX8_kindOf_172 : decode cX8_kindOf 172 = .ok (.iconst 0, 1) := by decide +kernel
theorem dX8_kindOf_173 : decode cX8_kindOf 173 = .ok (.ireturn, 1) := by decide +kernel
theorem dX8_bad_0 : decode cX8_bad 0 = .ok (.aload_n 1, 1) := by decide +kernel
theorem dX8_bad_1 : decode cX8_bad 1 = .ok (.iconst 0, 1) := by decide +kernel
theorem dX8_bad_2 : decode cX8_bad 2 = .ok (.aload_n 0, 1) := by decide +kernel
theorem dX8_bad_3 : decode cX8_bad 3 = .ok (.iload_n 2, 1) := by decide +kernel
theorem dX8_bad_4 : decode cX8_bad 4 = .ok (.invokevirtual 29, 3) := by decide +kernel
theorem dX8_bad_7 : decode cX8_bad 7 = .ok (.iconst 0, 1) := by decide +kernel
theorem dX8_bad_8 : decode cX8_bad 8 = .ok (.iload_n 2, 1) := by decide +kernel
theorem dX8_bad_9 : decode cX8_bad 9 = .ok (.invokevirtual 58, 3) := by decide +kernel
theorem dX8_bad_12 : decode cX8_bad 12 = .ok (.iload_n 3, 1) := by decide +kernel
theorem dX8_bad_13 : decode cX8_bad 13 = .ok (.ireturn, 1) := by decide +kernel
theorem dX8_quoted_0 : decode cX8_quoted 0 = .ok (.aload_n 0, 1) := by decide +kernel
theorem dX8_quoted_1 : decode cX8_quoted 1 = .ok (.bipush 34, 2) := by decide +kernel
theorem dX8_quoted_3 : decode cX8_quoted 3 = .ok (.iload_n 2, 1) := by decide +kernel
theorem dX8_quoted_4 : decode cX8_quoted 4 = .ok (.iconst 1, 1) := by decide +kernel
theorem dX8_quoted_5 : decode cX8_quoted 5 = .ok (.iadd, 1) := by decide +kernel
theorem dX8_quoted_6 : decode cX8_quoted 6 = .ok (.invokevirtual 69, 3) := by decide +kernel
theorem dX8_quoted_9 : decode cX8_quoted 9 = .ok (.istore_n 3, 1) := by decide +kernel
theorem dX8_quoted_10 : decode cX8_quoted 10 = .ok (.iload_n 3, 1) := by decide +kernel
theorem dX8_quoted_11 : decode cX8_quoted 11 = .ok (.iconst (-1), 1) := by decide +kernel
theorem dX8_quoted_12 : decode cX8_quoted 12 = .ok (.if_icmp .ne 13, 3) := by decide +kernel
theorem dX8_quoted_15 : decode cX8_quoted 15 = .ok (.aload_n 0, 1) := by decide +kernel
theorem dX8_quoted_16 : decode cX8_quoted 16 = .ok (.aload_n 1, 1) := by decide +kernel
theorem dX8_quoted_17 : decode cX8_quoted 17 = .ok (.iload_n 2, 1) := by decide +kernel
theorem dX8_quoted_18 : decode cX8_quoted 18 = .ok (.iload_n 2, 1) := by decide +kernel
theorem dX8_quoted_19 : decode cX8_quoted 19 = .ok (.iconst 1, 1) := by decide +kernel
theorem dX8_quoted_20 : decode cX8_quoted 20 = .ok (.iadd, 1) := by decide +kernel
theorem dX8_quoted_21 : decode cX8_quoted 21 = .ok (.invokestatic 73, 3) := by decide +kernel
theorem dX8_quoted_24 : decode cX8_quoted 24 = .ok (.ireturn, 1) := by decide +kernel
theorem dX8_quoted_25 : decode cX8_quoted 25 = .ok (.iload_n 2, 1) := by decide +kernel
theorem dX8_quoted_26 : decode cX8_quoted 26 = .ok (.iconst 1, 1) := by decide +kernel
theorem dX8_quoted_27 : decode cX8_quoted 27 = .ok (.iadd, 1) := by decide +kernel
theorem dX8_quoted_28 : decode cX8_quoted 28 = .ok (.istore 4, 2) := by decide +kernel
theorem dX8_quoted_30 : decode cX8_quoted 30 = .ok (.iload 4, 2) := by decide +kernel
theorem dX8_quoted_32 : decode cX8_quoted 32 = .ok (.iload_n 3, 1) := by decide +kernel
theorem dX8_quoted_33 : decode cX8_quoted 33 = .ok (.if_icmp .ge 23, 3) := by decide +kernel
theorem dX8_quoted_36 : decode cX8_quoted 36 = .ok (.aload_n 1, 1) := by decide +kernel
theorem dX8_quoted_37 : decode cX8_quoted 37 = .ok (.iconst 1, 1) := by decide +kernel
theorem dX8_quoted_38 : decode cX8_quoted 38 = .ok (.aload_n 0, 1) := by decide +kernel
theorem dX8_quoted_39 : decode cX8_quoted 39 = .ok (.iload 4, 2) := by decide +kernel
theorem dX8_quoted_41 : decode cX8_quoted 41 = .ok (.invokevirtual 29, 3) := by decide +kernel
theorem dX8_quoted_44 : decode cX8_quoted 44 = .ok (.iconst 1, 1) := by decide +kernel
theorem dX8_quoted_45 : decode cX8_quoted 45 = .ok (.iload 4, 2) := by decide +kernel
theorem dX8_quoted_47 : decode cX8_quoted 47 = .ok (.invokevirtual 58, 3) := by decide +kernel
theorem dX8_quoted_50 : decode cX8_quoted 50 = .ok (.iinc 4 1, 3) := by decide +kernel
theorem dX8_quoted_53 : decode cX8_quoted 53 = .ok (.goto (-23), 3) := by decide +kernel
theorem dX8_quoted_56 : decode cX8_quoted 56 = .ok (.iload_n 3, 1) := by decide +kernel
theorem dX8_quoted_57 : decode cX8_quoted 57 = .ok (.iconst 1, 1) := by decide +kernel
theorem dX8_quoted_58 : decode cX8_quoted 58 = .ok (.iadd, 1) := by decide +kernel
theorem dX8_quoted_59 : decode cX8_quoted 59 = .ok (.ireturn, 1) := by decide +kernel
theorem dX8_escaped_0 : decode cX8_escaped 0 = .ok (.iload_n 2, 1) := by decide +kernel
theorem dX8_escaped_1 : decode cX8_escaped 1 = .ok (.iconst 1, 1) := by decide +kernel
theorem dX8_escaped_2 : decode cX8_escaped 2 = .ok (.iadd, 1) := by decide +kernel
theorem dX8_escaped_3 : decode cX8_escaped 3 = .ok (.aload_n 0, 1) := by decide +kernel
theorem dX8_escaped_4 : decode cX8_escaped 4 = .ok (.invokevirtual 14, 3) := by decide +kernel
theorem dX8_escaped_7 : decode cX8_escaped 7 = .ok (.if_icmp .lt 13, 3) := by decide +kernel
theorem dX8_escaped_10 : decode cX8_escaped 10 = .ok (.aload_n 0, 1) := by decide +kernel
theorem dX8_escaped_11 : decode cX8_escaped 11 = .ok (.aload_n 1, 1) := by decide +kernel
theorem dX8_escaped_12 : decode cX8_escaped 12 = .ok (.iload_n 2, 1) := by decide +kernel
theorem dX8_escaped_13 : decode cX8_escaped 13 = .ok (.iload_n 2, 1) := by decide +kernel
theorem dX8_escaped_14 : decode cX8_escaped 14 = .ok (.iconst 1, 1) := by decide +kernel
theorem dX8_escaped_15 : decode cX8_escaped 15 = .ok (.iadd, 1) := by decide +kernel
theorem dX8_escaped_16 : decode cX8_escaped 16 = .ok (.invokestatic 73, 3) := by decide +kernel
theorem dX8_escaped_19 : decode cX8_escaped 19 = .ok (.ireturn, 1) := by decide +kernel
theorem dX8_escaped_20 : decode cX8_escaped 20 = .ok (.aload_n 1, 1) := by decide +kernel
theorem dX8_escaped_21 : decode cX8_escaped 21 = .ok (.iconst 1, 1) := by decide +kernel
theorem dX8_escaped_22 : decode cX8_escaped 22 = .ok (.aload_n 0, 1) := by decide +kernel
theorem dX8_escaped_23 : decode cX8_escaped 23 = .ok (.iload_n 2, 1) := by decide +kernel
theorem dX8_escaped_24 : decode cX8_escaped 24 = .ok (.invokevirtual 29, 3) := by decide +kernel
theorem dX8_escaped_27 : decode cX8_escaped 27 = .ok (.bipush 95, 2) := by decide +kernel
theorem dX8_escaped_29 : decode cX8_escaped 29 = .ok (.if_icmp .ne 8, 3) := by decide +kernel
theorem dX8_escaped_32 : decode cX8_escaped 32 = .ok (.bipush 32, 2) := by decide +kernel
theorem dX8_escaped_34 : decode cX8_escaped 34 = .ok (.goto 10, 3) := by decide +kernel
theorem dX8_escaped_37 : decode cX8_escaped 37 = .ok (.aload_n 0, 1) := by decide +kernel
theorem dX8_escaped_38 : decode cX8_escaped 38 = .ok (.iload_n 2, 1) := by decide +kernel
theorem dX8_escaped_39 : decode cX8_escaped 39 = .ok (.iconst 1, 1) := by decide +kernel
theorem dX8_escaped_40 : decode cX8_escaped 40 = .ok (.iadd, 1) := by decide +kernel
theorem dX8_escaped_41 : decode cX8_escaped 41 = .ok (.invokevirtual 29, 3) := by decide +kernel
theorem dX8_escaped_44 : decode cX8_escaped 44 = .ok (.iconst 1, 1) := by decide +kernel
theorem dX8_escaped_45 : decode cX8_escaped 45 = .ok (.iload_n 2, 1) := by decide +kernel
theorem dX8_escaped_46 : decode cX8_escaped 46 = .ok (.invokevirtual 58, 3) := by decide +kernel
theorem dX8_escaped_49 : decode cX8_escaped 49 = .ok (.iload_n 2, 1) := by decide +kernel
theorem dX8_escaped_50 : decode cX8_escaped 50 = .ok (.iconst 2, 1) := by decide +kernel
theorem dX8_escaped_51 : decode cX8_escaped 51 = .ok (.iadd, 1) := by decide +kernel
theorem dX8_escaped_52 : decode cX8_escaped 52 = .ok (.ireturn, 1) := by decide +kernel
theorem dX8_bracket_0 : decode cX8_bracket 0 = .ok (.aload_n 0, 1) := by decide +kernel
theorem dX8_bracket_1 : decode cX8_bracket 1 = .ok (.bipush 93, 2) := by decide +kernel
theorem dX8_bracket_3 : decode cX8_bracket 3 = .ok (.iload_n 2, 1) := by decide +kernel
theorem dX8_bracket_4 : decode cX8_bracket 4 = .ok (.iconst 1, 1) := by decide +kernel
theorem dX8_bracket_5 : decode cX8_bracket 5 = .ok (.iadd, 1) := by decide +kernel
theorem dX8_bracket_6 : decode cX8_bracket 6 = .ok (.invokevirtual 69, 3) := by decide +kernel
theorem dX8_bracket_9 : decode cX8_bracket 9 = .ok (.istore_n 3, 1) := by decide +kernel
theorem dX8_bracket_10 : decode cX8_bracket 10 = .ok (.iload_n 3, 1) := by decide +kernel
theorem dX8_bracket_11 : decode cX8_bracket 11 = .ok (.iconst (-1), 1) := by decide +kernel
theorem dX8_bracket_12 : decode cX8_bracket 12 = .ok (.if_icmp .ne 13, 3) := by decide +kernel
theorem dX8_bracket_15 : decode cX8_bracket 15 = .ok (.aload_n 0, 1) := by decide +kernel
theorem dX8_bracket_16 : decode cX8_bracket 16 = .ok (.aload_n 1, 1) := by decide +kernel
theorem dX8_bracket_17 : decode cX8_bracket 17 = .ok (.iload_n 2, 1) := by decide +kernel
theorem dX8_bracket_18 : decode cX8_bracket 18 = .ok (.iload_n 2, 1) := by decide +kernel
theorem dX8_bracket_19 : decode cX8_bracket 19 = .ok (.iconst 1, 1) := by decide +kernel
theorem dX8_bracket_20 : decode cX8_bracket 20 = .ok (.iadd, 1) := by decide +kernel
theorem dX8_bracket_21 : decode cX8_bracket 21 = .ok (.invokestatic 73, 3) := by decide +kernel
theorem dX8_bracket_24 : decode cX8_bracket 24 = .ok (.ireturn, 1) := by decide +kernel
theorem dX8_bracket_25 : decode cX8_bracket 25 = .ok (.aload_n 0, 1) := by decide +kernel
theorem dX8_bracket_26 : decode cX8_bracket 26 = .ok (.iload_n 2, 1) := by decide +kernel
theorem dX8_bracket_27 : decode cX8_bracket 27 = .ok (.iconst 1, 1) := by decide +kernel
theorem dX8_bracket_28 : decode cX8_bracket 28 = .ok (.iadd, 1) := by decide +kernel
theorem dX8_bracket_29 : decode cX8_bracket 29 = .ok (.iload_n 3, 1) := by decide +kernel
theorem dX8_bracket_30 : decode cX8_bracket 30 = .ok (.invokestatic 77, 3) := by decide +kernel
theorem dX8_bracket_33 : decode cX8_bracket 33 = .ok (.ifCond .eq 24, 3) := by decide +kernel
theorem dX8_bracket_36 : decode cX8_bracket 36 = .ok (.aload_n 1, 1) := by decide +kernel
theorem dX8_bracket_37 : decode cX8_bracket 37 = .ok (.iconst 3, 1) := by decide +kernel
theorem dX8_bracket_38 : decode cX8_bracket 38 = .ok (.aload_n 0, 1) := by decide +kernel
theorem dX8_bracket_39 : decode cX8_bracket 39 = .ok (.iload_n 2, 1) := by decide +kernel
theorem dX8_bracket_40 : decode cX8_bracket 40 = .ok (.iconst 1, 1) := by decide +kernel
theorem dX8_bracket_41 : decode cX8_bracket 41 = .ok (.iadd, 1) := by decide +kernel
theorem dX8_bracket_42 : decode cX8_bracket 42 = .ok (.invokevirtual 46, 3) := by decide +kernel
theorem dX8_bracket_45 : decode cX8_bracket 45 = .ok (.iload_n 3, 1) := by decide +kernel
theorem dX8_bracket_46 : decode cX8_bracket 46 = .ok (.iload_n 2, 1) := by decide +kernel
theorem dX8_bracket_47 : decode cX8_bracket 47 = .ok (.isub, 1) := by decide +kernel
theorem dX8_bracket_48 : decode cX8_bracket 48 = .ok (.iconst 1, 1) := by decide +kernel
theorem dX8_bracket_49 : decode cX8_bracket 49 = .ok (.isub, 1) := by decide +kernel
theorem dX8_bracket_50 : decode cX8_bracket 50 = .ok (.iload_n 2, 1) := by decide +kernel
theorem dX8_bracket_51 : decode cX8_bracket 51 = .ok (.invokevirtual 58, 3) := by decide +kernel
theorem dX8_bracket_54 : decode cX8_bracket 54 = .ok (.goto 23, 3) := by decide +kernel
theorem dX8_bracket_57 : decode cX8_bracket 57 = .ok (.aload_n 0, 1) := by decide +kernel
theorem dX8_bracket_58 : decode cX8_bracket 58 = .ok (.aload_n 1, 1) := by decide +kernel
theorem dX8_bracket_59 : decode cX8_bracket 59 = .ok (.iload_n 2, 1) := by decide +kernel
theorem dX8_bracket_60 : decode cX8_bracket 60 = .ok (.iload_n 3, 1) := by decide +kernel
theorem dX8_bracket_61 : decode cX8_bracket 61 = .ok (.invokestatic 81, 3) := by decide +kernel
theorem dX8_bracket_64 : decode cX8_bracket 64 = .ok (.ifCond .ne 13, 3) := by decide +kernel
theorem dX8_bracket_67 : decode cX8_bracket 67 = .ok (.aload_n 0, 1) := by decide +kernel
theorem dX8_bracket_68 : decode cX8_bracket 68 = .ok (.aload_n 1, 1) := by decide +kernel
theorem dX8_bracket_69 : decode cX8_bracket 69 = .ok (.iload_n 2, 1) := by decide +kernel
theorem dX8_bracket_70 : decode cX8_bracket 70 = .ok (.iload_n 3, 1) := by decide +kernel
theorem dX8_bracket_71 : decode cX8_bracket 71 = .ok (.iconst 1, 1) := by decide +kernel
theorem dX8_bracket_72 : decode cX8_bracket 72 = .ok (.iadd, 1) := by decide +kernel
theorem dX8_bracket_73 : decode cX8_bracket 73 = .ok (.invokestatic 73, 3) := by decide +kernel
theorem dX8_bracket_76 : decode cX8_bracket 76 = .ok (.ireturn, 1) := by decide +kernel
theorem dX8_bracket_77 : decode cX8_bracket 77 = .ok (.iload_n 3, 1) := by decide +kernel
theorem dX8_bracket_78 : decode cX8_bracket 78 = .ok (.iconst 1, 1) := by decide +kernel
theorem dX8_bracket_79 : decode cX8_bracket 79 = .ok (.iadd, 1) := by decide +kernel
theorem dX8_bracket_80 : decode cX8_bracket 80 = .ok (.ireturn, 1) := by decide +kernel
theorem dX8_isElapsed_0 : decode cX8_isElapsed 0 = .ok (.aload_n 0, 1) := by decide +kernel
theorem dX8_isElapsed_1 : decode cX8_isElapsed 1 = .ok (.iload_n 1, 1) := by decide +kernel
theorem dX8_isElapsed_2 : decode cX8_isElapsed 2 = .ok (.invokevirtual 46, 3) := by decide +kernel
theorem dX8_isElapsed_5 : decode cX8_isElapsed 5 = .ok (.istore_n 3, 1) := by decide +kernel
theorem dX8_isElapsed_6 : decode cX8_isElapsed 6 = .ok (.iload_n 3, 1) := by decide +kernel
theorem dX8_isElapsed_7 : decode cX8_isElapsed 7 = .ok (.bipush 104, 2) := by decide +kernel
theorem dX8_isElapsed_9 : decode cX8_isElapsed 9 = .ok (.if_icmp .eq 15, 3) := by decide +kernel
theorem dX8_isElapsed_12 : decode cX8_isElapsed 12 = .ok (.iload_n 3, 1) := by decide +kernel
theorem dX8_isElapsed_13 : decode cX8_isElapsed 13 = .ok (.bipush 109, 2) := by decide +kernel
theorem dX8_isElapsed_15 : decode cX8_isElapsed 15 = .ok (.if_icmp .eq 9, 3) := by decide +kernel
theorem dX8_isElapsed_18 : decode cX8_isElapsed 18 = .ok (.iload_n 3, 1) := by decide +kernel
theorem dX8_isElapsed_19 : decode cX8_isElapsed 19 = .ok (.bipush 115, 2) := by decide +kernel
theorem dX8_isElapsed_21 : decode cX8_isElapsed 21 = .ok (.if_icmp .ne 7, 3) := by decide +kernel
theorem dX8_isElapsed_24 : decode cX8_isElapsed 24 = .ok (.iconst 1, 1) := by decide +kernel
theorem dX8_isElapsed_25 : decode cX8_isElapsed 25 = .ok (.goto 4, 3) := by decide +kernel
theorem dX8_isElapsed_28 : decode cX8_isElapsed 28 = .ok (.iconst 0, 1) := by decide +kernel
theorem dX8_isElapsed_29 : decode cX8_isElapsed 29 = .ok (.istore 4, 2) := by decide +kernel
theorem dX8_isElapsed_31 : decode cX8_isElapsed 31 = .ok (.iload_n 2, 1) := by decide +kernel
theorem dX8_isElapsed_32 : decode cX8_isElapsed 32 = .ok (.iload_n 1, 1) := by decide +kernel
theorem dX8_isElapsed_33 : decode cX8_isElapsed 33 = .ok (.isub, 1) := by decide +kernel
theorem dX8_isElapsed_34 : decode cX8_isElapsed 34 = .ok (.iconst 2, 1) := by decide +kernel
theorem dX8_isElapsed_35 : decode cX8_isElapsed 35 = .ok (.if_icmp .ne 18, 3) := by decide +kernel
theorem dX8_isElapsed_38 : decode cX8_isElapsed 38 = .ok (.aload_n 0, 1) := by decide +kernel
theorem dX8_isElapsed_39 : decode cX8_isElapsed 39 = .ok (.iload_n 1, 1) := by decide +kernel
theorem dX8_isElapsed_40 : decode cX8_isElapsed 40 = .ok (.iconst 1, 1) := by decide +kernel
theorem dX8_isElapsed_41 : decode cX8_isElapsed 41 = .ok (.iadd, 1) := by decide +kernel
theorem dX8_isElapsed_42 : decode cX8_isElapsed 42 = .ok (.invokevirtual 46, 3) := by decide +kernel
theorem dX8_isElapsed_45 : decode cX8_isElapsed 45 = .ok (.iload_n 3, 1) := by decide +kernel
theorem dX8_isElapsed_46 : decode cX8_isElapsed 46 = .ok (.if_icmp .ne 7, 3) := by decide +kernel
theorem dX8_isElapsed_49 : decode cX8_isElapsed 49 = .ok (.iconst 1, 1) := by decide +kernel
theorem dX8_isElapsed_50 : decode cX8_isElapsed 50 = .ok (.goto 4, 3) := by decide +kernel
theorem dX8_isElapsed_53 : decode cX8_isElapsed 53 = .ok (.iconst 0, 1) := by decide +kernel
theorem dX8_isElapsed_54 : decode cX8_isElapsed 54 = .ok (.istore 5, 2) := by decide +kernel
theorem dX8_isElapsed_56 : decode cX8_isElapsed 56 = .ok (.iload 4, 2) := by decide +kernel
theorem dX8_isElapsed_58 : decode cX8_isElapsed 58 = .ok (.ifCond .eq 19, 3) := by decide +kernel
theorem dX8_isElapsed_61 : decode cX8_isElapsed 61 = .ok (.iload_n 2, 1) := by decide +kernel
theorem dX8_isElapsed_62 : decode cX8_isElapsed 62 = .ok (.iload_n 1, 1) := by decide +kernel
theorem dX8_isElapsed_63 : decode cX8_isElapsed 63 = .ok (.isub, 1) := by decide +kernel
theorem dX8_isElapsed_64 : decode cX8_isElapsed 64 = .ok (.iconst 1, 1) := by decide +kernel
theorem dX8_isElapsed_65 : decode cX8_isElapsed 65 = .ok (.if_icmp .eq 8, 3) := by decide +kernel
theorem dX8_isElapsed_68 : decode cX8_isElapsed 68 = .ok (.iload 5, 2) := by decide +kernel
theorem dX8_isElapsed_70 : decode cX8_isElapsed 70 = .ok (.ifCond .eq 7, 3) := by decide +kernel
theorem dX8_isElapsed_73 : decode cX8_isElapsed 73 = .ok (.iconst 1, 1) := by decide +kernel
theorem dX8_isElapsed_74 : decode cX8_isElapsed 74 = .ok (.goto 4, 3) := by decide +kernel
theorem dX8_isElapsed_77 : decode cX8_isElapsed 77 = .ok (.iconst 0, 1) := by decide +kernel
theorem dX8_isElapsed_78 : decode cX8_isElapsed 78 = .ok (.ireturn, 1) := by decide +kernel
theorem dX8_readCondition_0 : decode cX8_readCondition 0 = .ok (.aload_n 0, 1) := by decide +kernel
theorem dX8_readCondition_1 : decode cX8_readCondition 1 = .ok (.iload_n 2, 1) := by decide +kernel
theorem dX8_readCondition_2 : decode cX8_readCondition 2 = .ok (.iconst 1, 1) := by decide +kernel
theorem dX8_readCondition_3 : decode cX8_readCondition 3 = .ok (.iadd, 1) := by decide +kernel
theorem dX8_readCondition_4 : decode cX8_readCondition 4 = .ok (.invokevirtual 29, 3) := by decide +kernel
theorem dX8_readCondition_7 : decode cX8_readCondition 7 = .ok (.aload_n 0, 1) := by decide +kernel
theorem dX8_readCondition_8 : decode cX8_readCondition 8 = .ok (.iload_n 2, 1) := by decide +kernel
theorem dX8_readCondition_9 : decode cX8_readCondition 9 = .ok (.iconst 2, 1) := by decide +kernel
theorem dX8_readCondition_10 : decode cX8_readCondition 10 = .ok (.iadd, 1) := by decide +kernel
theorem dX8_readCondition_11 : decode cX8_readCondition 11 = .ok (.invokevirtual 29, 3) := by decide +kernel
theorem dX8_readCondition_14 : decode cX8_readCondition 14 = .ok (.invokestatic 85, 3) := by decide +kernel
theorem dX8_readCondition_17 : decode cX8_readCondition 17 = .ok (.istore 4, 2) := by decide +kernel
theorem dX8_readCondition_19 : decode cX8_readCondition 19 = .ok (.iload 4, 2) := by decide +kernel
theorem dX8_readCondition_21 : decode cX8_readCondition 21 = .ok (.ifCond .ne 5, 3) := by decide +kernel
theorem dX8_readCondition_24 : decode cX8_readCondition 24 = .ok (.iconst 0, 1) := by decide +kernel
theorem dX8_readCondition_25 : decode cX8_readCondition 25 = .ok (.ireturn, 1) := by decide +kernel
theorem dX8_readCondition_26 : decode cX8_readCondition 26 = .ok (.iload 4, 2) := by decide +kernel
theorem dX8_readCondition_28 : decode cX8_readCondition 28 = .ok (.iconst 1, 1) := by decide +kernel
theorem dX8_readCondition_29 : decode cX8_readCondition 29 = .ok (.if_icmp .eq 15, 3) := by decide +kernel
theorem dX8_readCondition_32 : decode cX8_readCondition 32 = .ok (.iload 4, 2) := by decide +kernel
theorem dX8_readCondition_34 : decode cX8_readCondition 34 = .ok (.iconst 2, 1) := by decide +kernel
theorem dX8_readCondition_35 : decode cX8_readCondition 35 = .ok (.if_icmp .eq 9, 3) := by decide +kernel
theorem dX8_readCondition_38 : decode cX8_readCondition 38 = .ok (.iload 4, 2) := by decide +kernel
theorem dX8_readCondition_40 : decode cX8_readCondition 40 = .ok (.iconst 4, 1) := by decide +kernel
theorem dX8_readCondition_41 : decode cX8_readCondition 41 = .ok (.if_icmp .ne 7, 3) := by decide +kernel
theorem dX8_readCondition_44 : decode cX8_readCondition 44 = .ok (.iconst 1, 1) := by decide +kernel
theorem dX8_readCondition_45 : decode cX8_readCondition 45 = .ok (.goto 4, 3) := by decide +kernel
theorem dX8_readCondition_48 : decode cX8_readCondition 48 = .ok (.iconst 0, 1) := by decide +kernel
theorem dX8_readCondition_49 : decode cX8_readCondition 49 = .ok (.istore 5, 2) := by decide +kernel
theorem dX8_readCondition_51 : decode cX8_readCondition 51 = .ok (.iload_n 2, 1) := by decide +kernel
theorem dX8_readCondition_52 : decode cX8_readCondition 52 = .ok (.iload 5, 2) := by decide +kernel
theorem dX8_readCondition_54 : decode cX8_readCondition 54 = .ok (.ifCond .eq 7, 3) := by decide +kernel
theorem dX8_readCondition_57 : decode cX8_readCondition 57 = .ok (.iconst 2, 1) := by decide +kernel
theorem dX8_readCondition_58 : decode cX8_readCondition 58 = .ok (.goto 4, 3) := by decide +kernel
theorem dX8_readCondition_61 : decode cX8_readCondition 61 = .ok (.iconst 3, 1) := by decide +kernel
theorem dX8_readCondition_62 : decode cX8_readCondition 62 = .ok (.iadd, 1) := by decide +kernel
theorem dX8_readCondition_63 : decode cX8_readCondition 63 = .ok (.istore 6, 2) := by decide +kernel
theorem dX8_readCondition_65 : decode cX8_readCondition 65 = .ok (.aload_n 0, 1) := by decide +kernel
theorem dX8_readCondition_66 : decode cX8_readCondition 66 = .ok (.iload 6, 2) := by decide +kernel
theorem dX8_readCondition_68 : decode cX8_readCondition 68 = .ok (.invokevirtual 29, 3) := by decide +kernel
theorem dX8_readCondition_71 : decode cX8_readCondition 71 = .ok (.bipush 45, 2) := by decide +kernel
theorem dX8_readCondition_73 : decode cX8_readCondition 73 = .ok (.if_icmp .ne 7, 3) := by decide +kernel
theorem dX8_readCondition_76 : decode cX8_readCondition 76 = .ok (.iconst 1, 1) := by decide +kernel
theorem dX8_readCondition_77 : decode cX8_readCondition 77 = .ok (.goto 4, 3) := by decide +kernel
theorem dX8_readCondition_80 : decode cX8_readCondition 80 = .ok (.iconst 0, 1) := by decide +kernel
theorem dX8_readCondition_81 : decode cX8_readCondition 81 = .ok (.istore 7, 2) := by decide +kernel
theorem dX8_readCondition_83 : decode cX8_readCondition 83 = .ok (.iload 7, 2) := by decide +kernel
theorem dX8_readCondition_85 : decode cX8_readCondition 85 = .ok (.ifCond .eq 6, 3) := by decide +kernel
theorem dX8_readCondition_88 : decode cX8_readCondition 88 = .ok (.iinc 6 1, 3) := by decide +kernel
theorem dX8_readCondition_91 : decode cX8_readCondition 91 = .ok (.aload_n 0, 1) := by decide +kernel
theorem dX8_readCondition_92 : decode cX8_readCondition 92 = .ok (.iload 6, 2) := by decide +kernel
theorem dX8_readCondition_94 : decode cX8_readCondition 94 = .ok (.bipush 9, 2) := by decide +kernel
theorem dX8_readCondition_96 : decode cX8_readCondition 96 = .ok (.invokevirtual 88, 3) := by decide +kernel
theorem dX8_readCondition_99 : decode cX8_readCondition 99 = .ok (.istore 8, 2) := by decide +kernel
theorem dX8_readCondition_101 : decode cX8_readCondition 101 = .ok (.iload 6, 2) := by decide +kernel
theorem dX8_readCondition_103 : decode cX8_readCondition 103 = .ok (.iload 8, 2) := by decide +kernel
theorem dX8_readCondition_105 : decode cX8_readCondition 105 = .ok (.iadd, 1) := by decide +kernel
theorem dX8_readCondition_106 : decode cX8_readCondition 106 = .ok (.istore 9, 2) := by decide +kernel
theorem dX8_readCondition_108 : decode cX8_readCondition 108 = .ok (.iconst 0, 1) := by decide +kernel
theorem dX8_readCondition_109 : decode cX8_readCondition 109 = .ok (.istore 10, 2) := by decide +kernel
theorem dX8_readCondition_111 : decode cX8_readCondition 111 = .ok (.aload_n 0, 1) := by decide +kernel
theorem dX8_readCondition_112 : decode cX8_readCondition 112 = .ok (.iload 9, 2) := by decide +kernel
theorem dX8_readCondition_114 : decode cX8_readCondition 114 = .ok (.invokevirtual 29, 3) := by decide +kernel
theorem dX8_readCondition_117 : decode cX8_readCondition 117 = .ok (.bipush 46, 2) := by decide +kernel
theorem dX8_readCondition_119 : decode cX8_readCondition 119 = .ok (.if_icmp .ne 31, 3) := by decide +kernel
theorem dX8_readCondition_122 : decode cX8_readCondition 122 = .ok (.aload_n 0, 1) := by decide +kernel
theorem dX8_readCondition_123 : decode cX8_readCondition 123 = .ok (.iload 9, 2) := by decide +kernel
theorem dX8_readCondition_125 : decode cX8_readCondition 125 = .ok (.iconst 1, 1) := by decide +kernel
theorem dX8_readCondition_126 : decode cX8_readCondition 126 = .ok (.iadd, 1) := by decide +kernel
theorem dX8_readCondition_127 : decode cX8_readCondition 127 = .ok (.bipush 9, 2) := by decide +kernel
theorem dX8_readCondition_129 : decode cX8_readCondition 129 = .ok (.invokevirtual 88, 3) := by decide +kernel
theorem dX8_readCondition_132 : decode cX8_readCondition 132 = .ok (.istore 10, 2) := by decide +kernel
theorem dX8_readCondition_134 : decode cX8_readCondition 134 = .ok (.iload 10, 2) := by decide +kernel
theorem dX8_readCondition_136 : decode cX8_readCondition 136 = .ok (.ifCond .ne 5, 3) := by decide +kernel
theorem dX8_readCondition_139 : decode cX8_readCondition 139 = .ok (.iconst 0, 1) := by decide +kernel
theorem dX8_readCondition_140 : decode cX8_readCondition 140 = .ok (.ireturn, 1) := by decide +kernel
theorem dX8_readCondition_141 : decode cX8_readCondition 141 = .ok (.iload 9, 2) := by decide +kernel
theorem dX8_readCondition_143 : decode cX8_readCondition 143 = .ok (.iconst 1, 1) := by decide +kernel
theorem dX8_readCondition_144 : decode cX8_readCondition 144 = .ok (.iload 10, 2) := by decide +kernel
theorem dX8_readCondition_146 : decode cX8_readCondition 146 = .ok (.iadd, 1) := by decide +kernel
theorem dX8_readCondition_147 : decode cX8_readCondition 147 = .ok (.iadd, 1) := by decide +kernel
theorem dX8_readCondition_148 : decode cX8_readCondition 148 = .ok (.istore 9, 2) := by decide +kernel
theorem dX8_readCondition_150 : decode cX8_readCondition 150 = .ok (.iload 8, 2) := by decide +kernel
theorem dX8_readCondition_152 : decode cX8_readCondition 152 = .ok (.ifCond .eq 9, 3) := by decide +kernel
theorem dX8_readCondition_155 : decode cX8_readCondition 155 = .ok (.iload 9, 2) := by decide +kernel
theorem dX8_readCondition_157 : decode cX8_readCondition 157 = .ok (.iload_n 3, 1) := by decide +kernel
theorem dX8_readCondition_158 : decode cX8_readCondition 158 = .ok (.if_icmp .eq 5, 3) := by decide +kernel
theorem dX8_readCondition_161 : decode cX8_readCondition 161 = .ok (.iconst 0, 1) := by decide +kernel
theorem dX8_readCondition_162 : decode cX8_readCondition 162 = .ok (.ireturn, 1) := by decide +kernel
theorem dX8_readCondition_163 : decode cX8_readCondition 163 = .ok (.aload_n 0, 1) := by decide +kernel
theorem dX8_readCondition_164 : decode cX8_readCondition 164 = .ok (.iload 9, 2) := by decide +kernel
theorem dX8_readCondition_166 : decode cX8_readCondition 166 = .ok (.iload 10, 2) := by decide +kernel
theorem dX8_readCondition_168 : decode cX8_readCondition 168 = .ok (.isub, 1) := by decide +kernel
theorem dX8_readCondition_169 : decode cX8_readCondition 169 = .ok (.iload 10, 2) := by decide +kernel
theorem dX8_readCondition_171 : decode cX8_readCondition 171 = .ok (.invokevirtual 91, 3) := by decide +kernel
theorem dX8_readCondition_174 : decode cX8_readCondition 174 = .ok (.istore 11, 2) := by decide +kernel
theorem dX8_readCondition_176 : decode cX8_readCondition 176 = .ok (.aload_n 0, 1) := by decide +kernel
theorem dX8_readCondition_177 : decode cX8_readCondition 177 = .ok (.iload 6, 2) := by decide +kernel
theorem dX8_readCondition_179 : decode cX8_readCondition 179 = .ok (.iload 8, 2) := by decide +kernel
theorem dX8_readCondition_181 : decode cX8_readCondition 181 = .ok (.invokevirtual 91, 3) := by decide +kernel
theorem dX8_readCondition_184 : decode cX8_readCondition 184 = .ok (.iload 11, 2) := by decide +kernel
theorem dX8_readCondition_186 : decode cX8_readCondition 186 = .ok (.iload 10, 2) := by decide +kernel
theorem dX8_readCondition_188 : decode cX8_readCondition 188 = .ok (.invokestatic 94, 3) := by decide +kernel
theorem dX8_readCondition_191 : decode cX8_readCondition 191 = .ok (.dstore 12, 2) := by decide +kernel
theorem dX8_readCondition_193 : decode cX8_readCondition 193 = .ok (.aload_n 1, 1) := by decide +kernel
theorem dX8_readCondition_194 : decode cX8_readCondition 194 = .ok (.iload 4, 2) := by decide +kernel
theorem dX8_readCondition_196 : decode cX8_readCondition 196 = .ok (.iload 7, 2) := by decide +kernel
theorem dX8_readCondition_198 : decode cX8_readCondition 198 = .ok (.ifCond .eq 9, 3) := by decide +kernel
theorem dX8_readCondition_201 : decode cX8_readCondition 201 = .ok (.dload 12, 2) := by decide +kernel
theorem dX8_readCondition_203 : decode cX8_readCondition 203 = .ok (.dneg, 1) := by decide +kernel
theorem dX8_readCondition_204 : decode cX8_readCondition 204 = .ok (.goto 5, 3) := by decide +kernel
theorem dX8_readCondition_207 : decode cX8_readCondition 207 = .ok (.dload 12, 2) := by decide +kernel
theorem dX8_readCondition_209 : decode cX8_readCondition 209 = .ok (.iload_n 2, 1) := by decide +kernel
theorem dX8_readCondition_210 : decode cX8_readCondition 210 = .ok (.invokevirtual 98, 3) := by decide +kernel
theorem dX8_readCondition_213 : decode cX8_readCondition 213 = .ok (.iconst 1, 1) := by decide +kernel
theorem dX8_readCondition_214 : decode cX8_readCondition 214 = .ok (.ireturn, 1) := by decide +kernel
theorem dX8_relation_0 : decode cX8_relation 0 = .ok (.iload_n 0, 1) := by decide +kernel
theorem dX8_relation_1 : decode cX8_relation 1 = .ok (.tableswitch 64 60 62 #[27, 62, 49], 27) := by decide +kernel
theorem dX8_relation_28 : decode cX8_relation 28 = .ok (.iload_n 1, 1) := by decide +kernel
theorem dX8_relation_29 : decode cX8_relation 29 = .ok (.bipush 61, 2) := by decide +kernel
theorem dX8_relation_31 : decode cX8_relation 31 = .ok (.if_icmp .ne 7, 3) := by decide +kernel
theorem dX8_relation_34 : decode cX8_relation 34 = .ok (.iconst 3, 1) := by decide +kernel
theorem dX8_relation_35 : decode cX8_relation 35 = .ok (.goto 14, 3) := by decide +kernel
theorem dX8_relation_38 : decode cX8_relation 38 = .ok (.iload_n 1, 1) := by decide +kernel
theorem dX8_relation_39 : decode cX8_relation 39 = .ok (.bipush 62, 2) := by decide +kernel
theorem dX8_relation_41 : decode cX8_relation 41 = .ok (.if_icmp .ne 7, 3) := by decide +kernel
theorem dX8_relation_44 : decode cX8_relation 44 = .ok (.iconst 5, 1) := by decide +kernel
theorem dX8_relation_45 : decode cX8_relation 45 = .ok (.goto 4, 3) := by decide +kernel
theorem dX8_relation_48 : decode cX8_relation 48 = .ok (.iconst 1, 1) := by decide +kernel
theorem dX8_relation_49 : decode cX8_relation 49 = .ok (.ireturn, 1) := by decide +kernel
theorem dX8_relation_50 : decode cX8_relation 50 = .ok (.iload_n 1, 1) := by decide +kernel
theorem dX8_relation_51 : decode cX8_relation 51 = .ok (.bipush 61, 2) := by decide +kernel
theorem dX8_relation_53 : decode cX8_relation 53 = .ok (.if_icmp .ne 8, 3) := by decide +kernel
theorem dX8_relation_56 : decode cX8_relation 56 = .ok (.bipush 6, 2) := by decide +kernel
theorem dX8_relation_58 : decode cX8_relation 58 = .ok (.goto 4, 3) := by decide +kernel
theorem dX8_relation_61 : decode cX8_relation 61 = .ok (.iconst 4, 1) := by decide +kernel
theorem dX8_relation_62 : decode cX8_relation 62 = .ok (.ireturn, 1) := by decide +kernel
theorem dX8_relation_63 : decode cX8_relation 63 = .ok (.iconst 2, 1) := by decide +kernel
theorem dX8_relation_64 : decode cX8_relation 64 = .ok (.ireturn, 1) := by decide +kernel
theorem dX8_relation_65 : decode cX8_relation 65 = .ok (.iconst 0, 1) := by decide +kernel
theorem dX8_relation_66 : decode cX8_relation 66 = .ok (.ireturn, 1) := by decide +kernel
theorem dX8_nearest_0 : decode cX8_nearest 0 = .ok (.iload_n 0, 1) := by decide +kernel
theorem dX8_nearest_1 : decode cX8_nearest 1 = .ok (.ifCond .ne 9, 3) := by decide +kernel
theorem dX8_nearest_4 : decode cX8_nearest 4 = .ok (.iload_n 1, 1) := by decide +kernel
theorem dX8_nearest_5 : decode cX8_nearest 5 = .ok (.ifCond .ne 5, 3) := by decide +kernel
theorem dX8_nearest_8 : decode cX8_nearest 8 = .ok (.dconst 0, 1) := by decide +kernel
theorem dX8_nearest_9 : decode cX8_nearest 9 = .ok (.dreturn, 1) := by decide +kernel
theorem dX8_nearest_10 : decode cX8_nearest 10 = .ok (.lconst 1, 1) := by decide +kernel
theorem dX8_nearest_11 : decode cX8_nearest 11 = .ok (.lstore_n 3, 1) := by decide +kernel
theorem dX8_nearest_12 : decode cX8_nearest 12 = .ok (.iconst 0, 1) := by decide +kernel
theorem dX8_nearest_13 : decode cX8_nearest 13 = .ok (.istore 5, 2) := by decide +kernel
theorem dX8_nearest_15 : decode cX8_nearest 15 = .ok (.iload 5, 2) := by decide +kernel
theorem dX8_nearest_17 : decode cX8_nearest 17 = .ok (.iload_n 2, 1) := by decide +kernel
theorem dX8_nearest_18 : decode cX8_nearest 18 = .ok (.if_icmp .ge 15, 3) := by decide +kernel
theorem dX8_nearest_21 : decode cX8_nearest 21 = .ok (.lload_n 3, 1) := by decide +kernel
theorem dX8_nearest_22 : decode cX8_nearest 22 = .ok (.ldc2_w 102, 3) := by decide +kernel
theorem dX8_nearest_25 : decode cX8_nearest 25 = .ok (.lmul, 1) := by decide +kernel
theorem dX8_nearest_26 : decode cX8_nearest 26 = .ok (.lstore_n 3, 1) := by decide +kernel
theorem dX8_nearest_27 : decode cX8_nearest 27 = .ok (.iinc 5 1, 3) := by decide +kernel
theorem dX8_nearest_30 : decode cX8_nearest 30 = .ok (.goto (-15), 3) := by decide +kernel
theorem dX8_nearest_33 : decode cX8_nearest 33 = .ok (.iload_n 0, 1) := by decide +kernel
theorem dX8_nearest_34 : decode cX8_nearest 34 = .ok (.i2l, 1) := by decide +kernel
theorem dX8_nearest_35 : decode cX8_nearest 35 = .ok (.lstore 5, 2) := by decide +kernel
theorem dX8_nearest_37 : decode cX8_nearest 37 = .ok (.iload_n 1, 1) := by decide +kernel
theorem dX8_nearest_38 : decode cX8_nearest 38 = .ok (.i2l, 1) := by decide +kernel
theorem dX8_nearest_39 : decode cX8_nearest 39 = .ok (.lstore 7, 2) := by decide +kernel
theorem dX8_nearest_41 : decode cX8_nearest 41 = .ok (.dconst 1, 1) := by decide +kernel
theorem dX8_nearest_42 : decode cX8_nearest 42 = .ok (.dstore 9, 2) := by decide +kernel
theorem dX8_nearest_44 : decode cX8_nearest 44 = .ok (.iconst 0, 1) := by decide +kernel
theorem dX8_nearest_45 : decode cX8_nearest 45 = .ok (.istore 11, 2) := by decide +kernel
theorem dX8_nearest_47 : decode cX8_nearest 47 = .ok (.iload 11, 2) := by decide +kernel
theorem dX8_nearest_49 : decode cX8_nearest 49 = .ok (.bipush 100, 2) := by decide +kernel
theorem dX8_nearest_51 : decode cX8_nearest 51 = .ok (.if_icmp .ge 73, 3) := by decide +kernel
theorem dX8_nearest_54 : decode cX8_nearest 54 = .ok (.lload 5, 2) := by decide +kernel
theorem dX8_nearest_56 : decode cX8_nearest 56 = .ok (.ldc2_w 104, 3) := by decide +kernel
theorem dX8_nearest_59 : decode cX8_nearest 59 = .ok (.lcmp, 1) := by decide +kernel
theorem dX8_nearest_60 : decode cX8_nearest 60 = .ok (.ifCond .ge 64, 3) := by decide +kernel
theorem dX8_nearest_63 : decode cX8_nearest 63 = .ok (.lload 7, 2) := by decide +kernel
theorem dX8_nearest_65 : decode cX8_nearest 65 = .ok (.ldc2_w 106, 3) := by decide +kernel
theorem dX8_nearest_68 : decode cX8_nearest 68 = .ok (.lmul, 1) := by decide +kernel
theorem dX8_nearest_69 : decode cX8_nearest 69 = .ok (.lstore 7, 2) := by decide +kernel
theorem dX8_nearest_71 : decode cX8_nearest 71 = .ok (.lload 5, 2) := by decide +kernel
theorem dX8_nearest_73 : decode cX8_nearest 73 = .ok (.ldc2_w 106, 3) := by decide +kernel
theorem dX8_nearest_76 : decode cX8_nearest 76 = .ok (.lmul, 1) := by decide +kernel
theorem dX8_nearest_77 : decode cX8_nearest 77 = .ok (.lload 7, 2) := by decide +kernel
theorem dX8_nearest_79 : decode cX8_nearest 79 = .ok (.lload_n 3, 1) := by decide +kernel
theorem dX8_nearest_80 : decode cX8_nearest 80 = .ok (.lcmp, 1) := by decide +kernel
theorem dX8_nearest_81 : decode cX8_nearest 81 = .ok (.ifCond .lt 7, 3) := by decide +kernel
theorem dX8_nearest_84 : decode cX8_nearest 84 = .ok (.iconst 1, 1) := by decide +kernel
theorem dX8_nearest_85 : decode cX8_nearest 85 = .ok (.goto 4, 3) := by decide +kernel
theorem dX8_nearest_88 : decode cX8_nearest 88 = .ok (.iconst 0, 1) := by decide +kernel
theorem dX8_nearest_89 : decode cX8_nearest 89 = .ok (.i2l, 1) := by decide +kernel
theorem dX8_nearest_90 : decode cX8_nearest 90 = .ok (.ladd, 1) := by decide +kernel
theorem dX8_nearest_91 : decode cX8_nearest 91 = .ok (.lstore 5, 2) := by decide +kernel
theorem dX8_nearest_93 : decode cX8_nearest 93 = .ok (.lload 7, 2) := by decide +kernel
theorem dX8_nearest_95 : decode cX8_nearest 95 = .ok (.lload 7, 2) := by decide +kernel
theorem dX8_nearest_97 : decode cX8_nearest 97 = .ok (.lload_n 3, 1) := by decide +kernel
theorem dX8_nearest_98 : decode cX8_nearest 98 = .ok (.lcmp, 1) := by decide +kernel
theorem dX8_nearest_99 : decode cX8_nearest 99 = .ok (.ifCond .lt 7, 3) := by decide +kernel
theorem dX8_nearest_102 : decode cX8_nearest 102 = .ok (.lload_n 3, 1) := by decide +kernel
theorem dX8_nearest_103 : decode cX8_nearest 103 = .ok (.goto 4, 3) := by decide +kernel
theorem dX8_nearest_106 : decode cX8_nearest 106 = .ok (.lconst 0, 1) := by decide +kernel
theorem dX8_nearest_107 : decode cX8_nearest 107 = .ok (.lsub, 1) := by decide +kernel
theorem dX8_nearest_108 : decode cX8_nearest 108 = .ok (.lstore 7, 2) := by decide +kernel
theorem dX8_nearest_110 : decode cX8_nearest 110 = .ok (.dload 9, 2) := by decide +kernel
theorem dX8_nearest_112 : decode cX8_nearest 112 = .ok (.ldc2_w 108, 3) := by decide +kernel
theorem dX8_nearest_115 : decode cX8_nearest 115 = .ok (.dmul, 1) := by decide +kernel
theorem dX8_nearest_116 : decode cX8_nearest 116 = .ok (.dstore 9, 2) := by decide +kernel
theorem dX8_nearest_118 : decode cX8_nearest 118 = .ok (.iinc 11 1, 3) := by decide +kernel
theorem dX8_nearest_121 : decode cX8_nearest 121 = .ok (.goto (-74), 3) := by decide +kernel
theorem dX8_nearest_124 : decode cX8_nearest 124 = .ok (.lload 5, 2) := by decide +kernel
theorem dX8_nearest_126 : decode cX8_nearest 126 = .ok (.lconst 1, 1) := by decide +kernel
theorem dX8_nearest_127 : decode cX8_nearest 127 = .ok (.ladd, 1) := by decide +kernel
theorem dX8_nearest_128 : decode cX8_nearest 128 = .ok (.iconst 1, 1) := by decide +kernel
theorem dX8_nearest_129 : decode cX8_nearest 129 = .ok (.lshr, 1) := by decide +kernel
theorem dX8_nearest_130 : decode cX8_nearest 130 = .ok (.l2d, 1) := by decide +kernel
theorem dX8_nearest_131 : decode cX8_nearest 131 = .ok (.dload 9, 2) := by decide +kernel
theorem dX8_nearest_133 : decode cX8_nearest 133 = .ok (.ldc2_w 110, 3) := by decide +kernel
theorem dX8_nearest_136 : decode cX8_nearest 136 = .ok (.dmul, 1) := by decide +kernel
theorem dX8_nearest_137 : decode cX8_nearest 137 = .ok (.dmul, 1) := by decide +kernel
theorem dX8_nearest_138 : decode cX8_nearest 138 = .ok (.dreturn, 1) := by decide +kernel
theorem dX8_divisor_0 : decode cX8_divisor 0 = .ok (.aload_n 1, 1) := by decide +kernel
theorem dX8_divisor_1 : decode cX8_divisor 1 = .ok (.aload_n 1, 1) := by decide +kernel
theorem dX8_divisor_2 : decode cX8_divisor 2 = .ok (.invokevirtual 112, 3) := by decide +kernel
theorem dX8_divisor_5 : decode cX8_divisor 5 = .ok (.iconst 1, 1) := by decide +kernel
theorem dX8_divisor_6 : decode cX8_divisor 6 = .ok (.isub, 1) := by decide +kernel
theorem dX8_divisor_7 : decode cX8_divisor 7 = .ok (.invokevirtual 115, 3) := by decide +kernel
theorem dX8_divisor_10 : decode cX8_divisor 10 = .ok (.iconst 1, 1) := by decide +kernel
theorem dX8_divisor_11 : decode cX8_divisor 11 = .ok (.isub, 1) := by decide +kernel
theorem dX8_divisor_12 : decode cX8_divisor 12 = .ok (.istore_n 3, 1) := by decide +kernel
theorem dX8_divisor_13 : decode cX8_divisor 13 = .ok (.aload_n 1, 1) := by decide +kernel
theorem dX8_divisor_14 : decode cX8_divisor 14 = .ok (.aload_n 1, 1) := by decide +kernel
theorem dX8_divisor_15 : decode cX8_divisor 15 = .ok (.invokevirtual 112, 3) := by decide +kernel
theorem dX8_divisor_18 : decode cX8_divisor 18 = .ok (.iconst 1, 1) := by decide +kernel
theorem dX8_divisor_19 : decode cX8_divisor 19 = .ok (.isub, 1) := by decide +kernel
theorem dX8_divisor_20 : decode cX8_divisor 20 = .ok (.iload_n 3, 1) := by decide +kernel
theorem dX8_divisor_21 : decode cX8_divisor 21 = .ok (.invokevirtual 118, 3) := by decide +kernel
theorem dX8_divisor_24 : decode cX8_divisor 24 = .ok (.bipush 8, 2) := by decide +kernel
theorem dX8_divisor_26 : decode cX8_divisor 26 = .ok (.if_icmp .eq 13, 3) := by decide +kernel
theorem dX8_divisor_29 : decode cX8_divisor 29 = .ok (.aload_n 0, 1) := by decide +kernel
theorem dX8_divisor_30 : decode cX8_divisor 30 = .ok (.aload_n 1, 1) := by decide +kernel
theorem dX8_divisor_31 : decode cX8_divisor 31 = .ok (.iload_n 2, 1) := by decide +kernel
theorem dX8_divisor_32 : decode cX8_divisor 32 = .ok (.iload_n 2, 1) := by decide +kernel
theorem dX8_divisor_33 : decode cX8_divisor 33 = .ok (.iconst 1, 1) := by decide +kernel
theorem dX8_divisor_34 : decode cX8_divisor 34 = .ok (.iadd, 1) := by decide +kernel
theorem dX8_divisor_35 : decode cX8_divisor 35 = .ok (.invokestatic 73, 3) := by decide +kernel
theorem dX8_divisor_38 : decode cX8_divisor 38 = .ok (.ireturn, 1) := by decide +kernel
theorem dX8_divisor_39 : decode cX8_divisor 39 = .ok (.aload_n 0, 1) := by decide +kernel
theorem dX8_divisor_40 : decode cX8_divisor 40 = .ok (.iload_n 2, 1) := by decide +kernel
theorem dX8_divisor_41 : decode cX8_divisor 41 = .ok (.iconst 3, 1) := by decide +kernel
theorem dX8_divisor_42 : decode cX8_divisor 42 = .ok (.invokevirtual 88, 3) := by decide +kernel
theorem dX8_divisor_45 : decode cX8_divisor 45 = .ok (.istore 4, 2) := by decide +kernel
theorem dX8_divisor_47 : decode cX8_divisor 47 = .ok (.aload_n 1, 1) := by decide +kernel
theorem dX8_divisor_48 : decode cX8_divisor 48 = .ok (.bipush 14, 2) := by decide +kernel
theorem dX8_divisor_50 : decode cX8_divisor 50 = .ok (.aload_n 0, 1) := by decide +kernel
theorem dX8_divisor_51 : decode cX8_divisor 51 = .ok (.iload_n 2, 1) := by decide +kernel
theorem dX8_divisor_52 : decode cX8_divisor 52 = .ok (.invokevirtual 29, 3) := by decide +kernel
theorem dX8_divisor_55 : decode cX8_divisor 55 = .ok (.aload_n 0, 1) := by decide +kernel
theorem dX8_divisor_56 : decode cX8_divisor 56 = .ok (.iload_n 2, 1) := by decide +kernel
theorem dX8_divisor_57 : decode cX8_divisor 57 = .ok (.iload 4, 2) := by decide +kernel
theorem dX8_divisor_59 : decode cX8_divisor 59 = .ok (.invokevirtual 91, 3) := by decide +kernel
theorem dX8_divisor_62 : decode cX8_divisor 62 = .ok (.iload_n 2, 1) := by decide +kernel
theorem dX8_divisor_63 : decode cX8_divisor 63 = .ok (.invokevirtual 58, 3) := by decide +kernel
theorem dX8_divisor_66 : decode cX8_divisor 66 = .ok (.iload_n 2, 1) := by decide +kernel
theorem dX8_divisor_67 : decode cX8_divisor 67 = .ok (.iload 4, 2) := by decide +kernel
theorem dX8_divisor_69 : decode cX8_divisor 69 = .ok (.iadd, 1) := by decide +kernel
theorem dX8_divisor_70 : decode cX8_divisor 70 = .ok (.ireturn, 1) := by decide +kernel
theorem dX8_word_0 : decode cX8_word 0 = .ok (.aload_n 0, 1) := by decide +kernel
theorem dX8_word_1 : decode cX8_word 1 = .ok (.iload_n 2, 1) := by decide +kernel
theorem dX8_word_2 : decode cX8_word 2 = .ok (.invokevirtual 46, 3) := by decide +kernel
theorem dX8_word_5 : decode cX8_word 5 = .ok (.istore_n 3, 1) := by decide +kernel
theorem dX8_word_6 : decode cX8_word 6 = .ok (.iload_n 3, 1) := by decide +kernel
theorem dX8_word_7 : decode cX8_word 7 = .ok (.lookupswitch 57 #[(100, 49), (104, 49), (109, 49), (115, 49), (121, 49)], 49) := by decide +kernel
theorem dX8_word_56 : decode cX8_word 56 = .ok (.aload_n 0, 1) := by decide +kernel
theorem dX8_word_57 : decode cX8_word 57 = .ok (.aload_n 1, 1) := by decide +kernel
theorem dX8_word_58 : decode cX8_word 58 = .ok (.iload_n 2, 1) := by decide +kernel
theorem dX8_word_59 : decode cX8_word 59 = .ok (.iload_n 3, 1) := by decide +kernel
theorem dX8_word_60 : decode cX8_word 60 = .ok (.invokestatic 121, 3) := by decide +kernel
theorem dX8_word_63 : decode cX8_word 63 = .ok (.ireturn, 1) := by decide +kernel
theorem dX8_word_64 : decode cX8_word 64 = .ok (.iload_n 3, 1) := by decide +kernel
theorem dX8_word_65 : decode cX8_word 65 = .ok (.bipush 101, 2) := by decide +kernel
theorem dX8_word_67 : decode cX8_word 67 = .ok (.if_icmp .ne 46, 3) := by decide +kernel
theorem dX8_word_70 : decode cX8_word 70 = .ok (.aload_n 0, 1) := by decide +kernel
theorem dX8_word_71 : decode cX8_word 71 = .ok (.iload_n 2, 1) := by decide +kernel
theorem dX8_word_72 : decode cX8_word 72 = .ok (.iconst 1, 1) := by decide +kernel
theorem dX8_word_73 : decode cX8_word 73 = .ok (.iadd, 1) := by decide +kernel
theorem dX8_word_74 : decode cX8_word 74 = .ok (.invokevirtual 29, 3) := by decide +kernel
theorem dX8_word_77 : decode cX8_word 77 = .ok (.bipush 43, 2) := by decide +kernel
theorem dX8_word_79 : decode cX8_word 79 = .ok (.if_icmp .eq 15, 3) := by decide +kernel
theorem dX8_word_82 : decode cX8_word 82 = .ok (.aload_n 0, 1) := by decide +kernel
theorem dX8_word_83 : decode cX8_word 83 = .ok (.iload_n 2, 1) := by decide +kernel
theorem dX8_word_84 : decode cX8_word 84 = .ok (.iconst 1, 1) := by decide +kernel
theorem dX8_word_85 : decode cX8_word 85 = .ok (.iadd, 1) := by decide +kernel
theorem dX8_word_86 : decode cX8_word 86 = .ok (.invokevirtual 29, 3) := by decide +kernel
theorem dX8_word_89 : decode cX8_word 89 = .ok (.bipush 45, 2) := by decide +kernel
theorem dX8_word_91 : decode cX8_word 91 = .ok (.if_icmp .ne 22, 3) := by decide +kernel
theorem dX8_word_94 : decode cX8_word 94 = .ok (.aload_n 1, 1) := by decide +kernel
theorem dX8_word_95 : decode cX8_word 95 = .ok (.bipush 10, 2) := by decide +kernel
theorem dX8_word_97 : decode cX8_word 97 = .ok (.aload_n 0, 1) := by decide +kernel
theorem dX8_word_98 : decode cX8_word 98 = .ok (.iload_n 2, 1) := by decide +kernel
theorem dX8_word_99 : decode cX8_word 99 = .ok (.iconst 1, 1) := by decide +kernel
theorem dX8_word_100 : decode cX8_word 100 = .ok (.iadd, 1) := by decide +kernel
theorem dX8_word_101 : decode cX8_word 101 = .ok (.invokevirtual 29, 3) := by decide +kernel
theorem dX8_word_104 : decode cX8_word 104 = .ok (.iconst 1, 1) := by decide +kernel
theorem dX8_word_105 : decode cX8_word 105 = .ok (.iload_n 2, 1) := by decide +kernel
theorem dX8_word_106 : decode cX8_word 106 = .ok (.invokevirtual 58, 3) := by decide +kernel
theorem dX8_word_109 : decode cX8_word 109 = .ok (.iload_n 2, 1) := by decide +kernel
theorem dX8_word_110 : decode cX8_word 110 = .ok (.iconst 2, 1) := by decide +kernel
theorem dX8_word_111 : decode cX8_word 111 = .ok (.iadd, 1) := by decide +kernel
theorem dX8_word_112 : decode cX8_word 112 = .ok (.ireturn, 1) := by decide +kernel
theorem dX8_word_113 : decode cX8_word 113 = .ok (.aload_n 0, 1) := by decide +kernel
theorem dX8_word_114 : decode cX8_word 114 = .ok (.ldc 124, 2) := by decide +kernel
theorem dX8_word_116 : decode cX8_word 116 = .ok (.iload_n 2, 1) := by decide +kernel
theorem dX8_word_117 : decode cX8_word 117 = .ok (.invokevirtual 126, 3) := by decide +kernel
theorem dX8_word_120 : decode cX8_word 120 = .ok (.ifCond .eq 18, 3) := by decide +kernel
theorem dX8_word_123 : decode cX8_word 123 = .ok (.aload_n 1, 1) := by decide +kernel
theorem dX8_word_124 : decode cX8_word 124 = .ok (.bipush 11, 2) := by decide +kernel
theorem dX8_word_126 : decode cX8_word 126 = .ok (.bipush 71, 2) := by decide +kernel
theorem dX8_word_128 : decode cX8_word 128 = .ok (.iconst 1, 1) := by decide +kernel
theorem dX8_word_129 : decode cX8_word 129 = .ok (.iload_n 2, 1) := by decide +kernel
theorem dX8_word_130 : decode cX8_word 130 = .ok (.invokevirtual 58, 3) := by decide +kernel
theorem dX8_word_133 : decode cX8_word 133 = .ok (.iload_n 2, 1) := by decide +kernel
theorem dX8_word_134 : decode cX8_word 134 = .ok (.bipush 7, 2) := by decide +kernel
theorem dX8_word_136 : decode cX8_word 136 = .ok (.iadd, 1) := by decide +kernel
theorem dX8_word_137 : decode cX8_word 137 = .ok (.ireturn, 1) := by decide +kernel
theorem dX8_word_138 : decode cX8_word 138 = .ok (.aload_n 0, 1) := by decide +kernel
theorem dX8_word_139 : decode cX8_word 139 = .ok (.ldc 130, 2) := by decide +kernel
theorem dX8_word_141 : decode cX8_word 141 = .ok (.iload_n 2, 1) := by decide +kernel
theorem dX8_word_142 : decode cX8_word 142 = .ok (.invokevirtual 126, 3) := by decide +kernel
theorem dX8_word_145 : decode cX8_word 145 = .ok (.ifCond .eq 17, 3) := by decide +kernel
theorem dX8_word_148 : decode cX8_word 148 = .ok (.aload_n 1, 1) := by decide +kernel
theorem dX8_word_149 : decode cX8_word 149 = .ok (.bipush 12, 2) := by decide +kernel
theorem dX8_word_151 : decode cX8_word 151 = .ok (.bipush 65, 2) := by decide +kernel
theorem dX8_word_153 : decode cX8_word 153 = .ok (.iconst 2, 1) := by decide +kernel
theorem dX8_word_154 : decode cX8_word 154 = .ok (.iload_n 2, 1) := by decide +kernel
theorem dX8_word_155 : decode cX8_word 155 = .ok (.invokevirtual 58, 3) := by decide +kernel
theorem dX8_word_158 : decode cX8_word 158 = .ok (.iload_n 2, 1) := by decide +kernel
theorem dX8_word_159 : decode cX8_word 159 = .ok (.iconst 5, 1) := by decide +kernel
theorem dX8_word_160 : decode cX8_word 160 = .ok (.iadd, 1) := by decide +kernel
theorem dX8_word_161 : decode cX8_word 161 = .ok (.ireturn, 1) := by decide +kernel
theorem dX8_word_162 : decode cX8_word 162 = .ok (.aload_n 0, 1) := by decide +kernel
theorem dX8_word_163 : decode cX8_word 163 = .ok (.ldc 132, 2) := by decide +kernel
theorem dX8_word_165 : decode cX8_word 165 = .ok (.iload_n 2, 1) := by decide +kernel
theorem dX8_word_166 : decode cX8_word 166 = .ok (.invokevirtual 126, 3) := by decide +kernel
theorem dX8_word_169 : decode cX8_word 169 = .ok (.ifCond .eq 17, 3) := by decide +kernel
theorem dX8_word_172 : decode cX8_word 172 = .ok (.aload_n 1, 1) := by decide +kernel
theorem dX8_word_173 : decode cX8_word 173 = .ok (.bipush 12, 2) := by decide +kernel
theorem dX8_word_175 : decode cX8_word 175 = .ok (.bipush 65, 2) := by decide +kernel
theorem dX8_word_177 : decode cX8_word 177 = .ok (.iconst 1, 1) := by decide +kernel
theorem dX8_word_178 : decode cX8_word 178 = .ok (.iload_n 2, 1) := by decide +kernel
theorem dX8_word_179 : decode cX8_word 179 = .ok (.invokevirtual 58, 3) := by decide +kernel
theorem dX8_word_182 : decode cX8_word 182 = .ok (.iload_n 2, 1) := by decide +kernel
theorem dX8_word_183 : decode cX8_word 183 = .ok (.iconst 3, 1) := by decide +kernel
theorem dX8_word_184 : decode cX8_word 184 = .ok (.iadd, 1) := by decide +kernel
theorem dX8_word_185 : decode cX8_word 185 = .ok (.ireturn, 1) := by decide +kernel
theorem dX8_word_186 : decode cX8_word 186 = .ok (.aload_n 0, 1) := by decide +kernel
theorem dX8_word_187 : decode cX8_word 187 = .ok (.aload_n 1, 1) := by decide +kernel
theorem dX8_word_188 : decode cX8_word 188 = .ok (.iload_n 2, 1) := by decide +kernel
theorem dX8_word_189 : decode cX8_word 189 = .ok (.iload_n 2, 1) := by decide +kernel
theorem dX8_word_190 : decode cX8_word 190 = .ok (.iconst 1, 1) := by decide +kernel
theorem dX8_word_191 : decode cX8_word 191 = .ok (.iadd, 1) := by decide +kernel
theorem dX8_word_192 : decode cX8_word 192 = .ok (.invokestatic 73, 3) := by decide +kernel
theorem dX8_word_195 : decode cX8_word 195 = .ok (.ireturn, 1) := by decide +kernel
theorem dX8_letters_0 : decode cX8_letters 0 = .ok (.iconst 0, 1) := by decide +kernel
theorem dX8_letters_1 : decode cX8_letters 1 = .ok (.istore 4, 2) := by decide +kernel
theorem dX8_letters_3 : decode cX8_letters 3 = .ok (.iload 4, 2) := by decide +kernel
theorem dX8_letters_5 : decode cX8_letters 5 = .ok (.sipush 255, 3) := by decide +kernel
theorem dX8_letters_8 : decode cX8_letters 8 = .ok (.if_icmp .ge 21, 3) := by decide +kernel
theorem dX8_letters_11 : decode cX8_letters 11 = .ok (.aload_n 0, 1) := by decide +kernel
theorem dX8_letters_12 : decode cX8_letters 12 = .ok (.iload_n 2, 1) := by decide +kernel
theorem dX8_letters_13 : decode cX8_letters 13 = .ok (.iload 4, 2) := by decide +kernel
theorem dX8_letters_15 : decode cX8_letters 15 = .ok (.iadd, 1) := by decide +kernel
theorem dX8_letters_16 : decode cX8_letters 16 = .ok (.invokevirtual 46, 3) := by decide +kernel
theorem dX8_letters_19 : decode cX8_letters 19 = .ok (.iload_n 3, 1) := by decide +kernel
theorem dX8_letters_20 : decode cX8_letters 20 = .ok (.if_icmp .ne 9, 3) := by decide +kernel
theorem dX8_letters_23 : decode cX8_letters 23 = .ok (.iinc 4 1, 3) := by decide +kernel
theorem dX8_letters_26 : decode cX8_letters 26 = .ok (.goto (-23), 3) := by decide +kernel
theorem dX8_letters_29 : decode cX8_letters 29 = .ok (.iload 4, 2) := by decide +kernel
theorem dX8_letters_31 : decode cX8_letters 31 = .ok (.iload_n 3, 1) := by decide +kernel
theorem dX8_letters_32 : decode cX8_letters 32 = .ok (.invokestatic 134, 3) := by decide +kernel
theorem dX8_letters_35 : decode cX8_letters 35 = .ok (.if_icmp .le 14, 3) := by decide +kernel
theorem dX8_letters_38 : decode cX8_letters 38 = .ok (.aload_n 0, 1) := by decide +kernel
theorem dX8_letters_39 : decode cX8_letters 39 = .ok (.aload_n 1, 1) := by decide +kernel
theorem dX8_letters_40 : decode cX8_letters 40 = .ok (.iload_n 2, 1) := by decide +kernel
theorem dX8_letters_41 : decode cX8_letters 41 = .ok (.iload_n 2, 1) := by decide +kernel
theorem dX8_letters_42 : decode cX8_letters 42 = .ok (.iload 4, 2) := by decide +kernel
theorem dX8_letters_44 : decode cX8_letters 44 = .ok (.iadd, 1) := by decide +kernel
theorem dX8_letters_45 : decode cX8_letters 45 = .ok (.invokestatic 73, 3) := by decide +kernel
theorem dX8_letters_48 : decode cX8_letters 48 = .ok (.ireturn, 1) := by decide +kernel
theorem dX8_letters_49 : decode cX8_letters 49 = .ok (.aload_n 1, 1) := by decide +kernel
theorem dX8_letters_50 : decode cX8_letters 50 = .ok (.bipush 13, 2) := by decide +kernel
theorem dX8_letters_52 : decode cX8_letters 52 = .ok (.iload_n 3, 1) := by decide +kernel
theorem dX8_letters_53 : decode cX8_letters 53 = .ok (.iload 4, 2) := by decide +kernel
theorem dX8_letters_55 : decode cX8_letters 55 = .ok (.iload_n 2, 1) := by decide +kernel
theorem dX8_letters_56 : decode cX8_letters 56 = .ok (.invokevirtual 58, 3) := by decide +kernel
theorem dX8_letters_59 : decode cX8_letters 59 = .ok (.iload_n 2, 1) := by decide +kernel
theorem dX8_letters_60 : decode cX8_letters 60 = .ok (.iload 4, 2) := by decide +kernel
theorem dX8_letters_62 : decode cX8_letters 62 = .ok (.iadd, 1) := by decide +kernel
theorem dX8_letters_63 : decode cX8_letters 63 = .ok (.ireturn, 1) := by decide +kernel
theorem dX8_mostOf_0 : decode cX8_mostOf 0 = .ok (.iload_n 0, 1) := by decide +kernel
theorem dX8_mostOf_1 : decode cX8_mostOf 1 = .ok (.lookupswitch 39 #[(104, 37), (109, 35), (115, 37)], 35) := by decide +kernel
theorem dX8_mostOf_36 : decode cX8_mostOf 36 = .ok (.iconst 5, 1) := by decide +kernel
theorem dX8_mostOf_37 : decode cX8_mostOf 37 = .ok (.ireturn, 1) := by decide +kernel
theorem dX8_mostOf_38 : decode cX8_mostOf 38 = .ok (.iconst 2, 1) := by decide +kernel
theorem dX8_mostOf_39 : decode cX8_mostOf 39 = .ok (.ireturn, 1) := by decide +kernel
theorem dX8_mostOf_40 : decode cX8_mostOf 40 = .ok (.iconst 4, 1) := by decide +kernel
theorem dX8_mostOf_41 : decode cX8_mostOf 41 = .ok (.ireturn, 1) := by decide +kernel
theorem dX9_init_0 : decode cX9_init 0 = .ok (.aload_n 0, 1) := by decide +kernel
theorem dX9_init_1 : decode cX9_init 1 = .ok (.invokespecial 3, 3) := by decide +kernel
theorem dX9_init_4 : decode cX9_init 4 = .ok (.aload_n 0, 1) := by decide +kernel
theorem dX9_init_5 : decode cX9_init 5 = .ok (.new 9, 3) := by decide +kernel
theorem dX9_init_8 : decode cX9_init 8 = .ok (.dup, 1) := by decide +kernel
theorem dX9_init_9 : decode cX9_init 9 = .ok (.invokespecial 11, 3) := by decide +kernel
theorem dX9_init_12 : decode cX9_init 12 = .ok (.putfield 12, 3) := by decide +kernel
theorem dX9_init_15 : decode cX9_init 15 = .ok (.aload_n 0, 1) := by decide +kernel
theorem dX9_init_16 : decode cX9_init 16 = .ok (.new 18, 3) := by decide +kernel
theorem dX9_init_19 : decode cX9_init 19 = .ok (.dup, 1) := by decide +kernel
theorem dX9_init_20 : decode cX9_init 20 = .ok (.invokespecial 20, 3) := by decide +kernel
theorem dX9_init_23 : decode cX9_init 23 = .ok (.putfield 21, 3) := by decide +kernel
theorem dX9_init_26 : decode cX9_init 26 = .ok (.aload_n 0, 1) := by decide +kernel
theorem dX9_init_27 : decode cX9_init 27 = .ok (.new 25, 3) := by decide +kernel
theorem dX9_init_30 : decode cX9_init 30 = .ok (.dup, 1) := by decide +kernel
theorem dX9_init_31 : decode cX9_init 31 = .ok (.invokespecial 27, 3) := by decide +kernel
theorem dX9_init_34 : decode cX9_init 34 = .ok (.putfield 28, 3) := by decide +kernel
theorem dX9_init_37 : decode cX9_init 37 = .ok (.aload_n 0, 1) := by decide +kernel
theorem dX9_init_38 : decode cX9_init 38 = .ok (.new 32, 3) := by decide +kernel
theorem dX9_init_41 : decode cX9_init 41 = .ok (.dup, 1) := by decide +kernel
theorem dX9_init_42 : decode cX9_init 42 = .ok (.invokespecial 34, 3) := by decide +kernel
theorem dX9_init_45 : decode cX9_init 45 = .ok (.putfield 35, 3) := by decide +kernel
theorem dX9_init_48 : decode cX9_init 48 = .ok (.return_, 1) := by decide +kernel
theorem dX9_signAt_0 : decode cX9_signAt 0 = .ok (.aload_n 0, 1) := by decide +kernel
theorem dX9_signAt_1 : decode cX9_signAt 1 = .ok (.getfield 12, 3) := by decide +kernel
theorem dX9_signAt_4 : decode cX9_signAt 4 = .ok (.iload_n 1, 1) := by decide +kernel
theorem dX9_signAt_5 : decode cX9_signAt 5 = .ok (.invokevirtual 39, 3) := by decide +kernel
theorem dX9_signAt_8 : decode cX9_signAt 8 = .ok (.ireturn, 1) := by decide +kernel
theorem dX9_putNumber_0 : decode cX9_putNumber 0 = .ok (.aload_n 0, 1) := by decide +kernel
theorem dX9_putNumber_1 : decode cX9_putNumber 1 = .ok (.getfield 12, 3) := by decide +kernel
theorem dX9_putNumber_4 : decode cX9_putNumber 4 = .ok (.invokevirtual 43, 3) := by decide +kernel
theorem dX9_putNumber_7 : decode cX9_putNumber 7 = .ok (.dload_n 2, 1) := by decide +kernel
theorem dX9_putNumber_8 : decode cX9_putNumber 8 = .ok (.dconst 0, 1) := by decide +kernel
theorem dX9_putNumber_9 : decode cX9_putNumber 9 = .ok (.dcmp .g, 1) := by decide +kernel
theorem dX9_putNumber_10 : decode cX9_putNumber 10 = .ok (.ifCond .ge 8, 3) := by decide +kernel
theorem dX9_putNumber_13 : decode cX9_putNumber 13 = .ok (.dload_n 2, 1) := by decide +kernel
theorem dX9_putNumber_14 : decode cX9_putNumber 14 = .ok (.dneg, 1) := by decide +kernel
theorem dX9_putNumber_15 : decode cX9_putNumber 15 = .ok (.goto 4, 3) := by decide +kernel
theorem dX9_putNumber_18 : decode cX9_putNumber 18 = .ok (.dload_n 2, 1) := by decide +kernel
theorem dX9_putNumber_19 : decode cX9_putNumber 19 = .ok (.dstore 4, 2) := by decide +kernel
theorem dX9_putNumber_21 : decode cX9_putNumber 21 = .ok (.aload_n 1, 1) := by decide +kernel
theorem dX9_putNumber_22 : decode cX9_putNumber 22 = .ok (.dload_n 2, 1) := by decide +kernel
theorem dX9_putNumber_23 : decode cX9_putNumber 23 = .ok (.invokestatic 46, 3) := by decide +kernel
theorem dX9_putNumber_26 : decode cX9_putNumber 26 = .ok (.istore 6, 2) := by decide +kernel
theorem dX9_putNumber_28 : decode cX9_putNumber 28 = .ok (.aload_n 1, 1) := by decide +kernel
theorem dX9_putNumber_29 : decode cX9_putNumber 29 = .ok (.iload 6, 2) := by decide +kernel
theorem dX9_putNumber_31 : decode cX9_putNumber 31 = .ok (.invokevirtual 50, 3) := by decide +kernel
theorem dX9_putNumber_34 : decode cX9_putNumber 34 = .ok (.iconst 5, 1) := by decide +kernel
theorem dX9_putNumber_35 : decode cX9_putNumber 35 = .ok (.if_icmp .ne 16, 3) := by decide +kernel
theorem dX9_putNumber_38 : decode cX9_putNumber 38 = .ok (.dload 4, 2) := by decide +kernel
theorem dX9_putNumber_40 : decode cX9_putNumber 40 = .ok (.ldc2_w 55, 3) := by decide +kernel
theorem dX9_putNumber_43 : decode cX9_putNumber 43 = .ok (.dcmp .l, 1) := by decide +kernel
theorem dX9_putNumber_44 : decode cX9_putNumber 44 = .ok (.ifCond .lt 7, 3) := by decide +kernel
theorem dX9_putNumber_47 : decode cX9_putNumber 47 = .ok (.iconst 1, 1) := by decide +kernel
theorem dX9_putNumber_48 : decode cX9_putNumber 48 = .ok (.goto 4, 3) := by decide +kernel
theorem dX9_putNumber_51 : decode cX9_putNumber 51 = .ok (.iconst 0, 1) := by decide +kernel
theorem dX9_putNumber_52 : decode cX9_putNumber 52 = .ok (.istore 7, 2) := by decide +kernel
theorem dX9_putNumber_54 : decode cX9_putNumber 54 = .ok (.iload 6, 2) := by decide +kernel
theorem dX9_putNumber_56 : decode cX9_putNumber 56 = .ok (.iconst (-1), 1) := by decide +kernel
theorem dX9_putNumber_57 : decode cX9_putNumber 57 = .ok (.if_icmp .eq 8, 3) := by decide +kernel
theorem dX9_putNumber_60 : decode cX9_putNumber 60 = .ok (.iload 7, 2) := by decide +kernel
theorem dX9_putNumber_62 : decode cX9_putNumber 62 = .ok (.ifCond .eq 35, 3) := by decide +kernel
theorem dX9_putNumber_65 : decode cX9_putNumber 65 = .ok (.aload_n 0, 1) := by decide +kernel
theorem dX9_putNumber_66 : decode cX9_putNumber 66 = .ok (.dload_n 2, 1) := by decide +kernel
theorem dX9_putNumber_67 : decode cX9_putNumber 67 = .ok (.dconst 0, 1) := by decide +kernel
theorem dX9_putNumber_68 : decode cX9_putNumber 68 = .ok (.dcmp .g, 1) := by decide +kernel
theorem dX9_putNumber_69 : decode cX9_putNumber 69 = .ok (.ifCond .ge 7, 3) := by decide +kernel
theorem dX9_putNumber_72 : decode cX9_putNumber 72 = .ok (.iconst 1, 1) := by decide +kernel
theorem dX9_putNumber_73 : decode cX9_putNumber 73 = .ok (.goto 4, 3) := by decide +kernel
theorem dX9_putNumber_76 : decode cX9_putNumber 76 = .ok (.iconst 0, 1) := by decide +kernel
theorem dX9_putNumber_77 : decode cX9_putNumber 77 = .ok (.invokevirtual 57, 3) := by decide +kernel
theorem dX9_putNumber_80 : decode cX9_putNumber 80 = .ok (.aload_n 0, 1) := by decide +kernel
theorem dX9_putNumber_81 : decode cX9_putNumber 81 = .ok (.getfield 12, 3) := by decide +kernel
theorem dX9_putNumber_84 : decode cX9_putNumber 84 = .ok (.dload 4, 2) := by decide +kernel
theorem dX9_putNumber_86 : decode cX9_putNumber 86 = .ok (.invokestatic 61, 3) := by decide +kernel
theorem dX9_putNumber_89 : decode cX9_putNumber 89 = .ok (.aload_n 0, 1) := by decide +kernel
theorem dX9_putNumber_90 : decode cX9_putNumber 90 = .ok (.getfield 12, 3) := by decide +kernel
theorem dX9_putNumber_93 : decode cX9_putNumber 93 = .ok (.invokevirtual 67, 3) := by decide +kernel
theorem dX9_putNumber_96 : decode cX9_putNumber 96 = .ok (.ireturn, 1) := by decide +kernel
theorem dX9_putNumber_97 : decode cX9_putNumber 97 = .ok (.iload 6, 2) := by decide +kernel
theorem dX9_putNumber_99 : decode cX9_putNumber 99 = .ok (.iconst 1, 1) := by decide +kernel
theorem dX9_putNumber_100 : decode cX9_putNumber 100 = .ok (.if_icmp .ne 23, 3) := by decide +kernel
theorem dX9_putNumber_103 : decode cX9_putNumber 103 = .ok (.aload_n 1, 1) := by decide +kernel
theorem dX9_putNumber_104 : decode cX9_putNumber 104 = .ok (.iconst 0, 1) := by decide +kernel
theorem dX9_putNumber_105 : decode cX9_putNumber 105 = .ok (.invokevirtual 71, 3) := by decide +kernel
theorem dX9_putNumber_108 : decode cX9_putNumber 108 = .ok (.ifCond .ne 15, 3) := by decide +kernel
theorem dX9_putNumber_111 : decode cX9_putNumber 111 = .ok (.aload_n 1, 1) := by decide +kernel
theorem dX9_putNumber_112 : decode cX9_putNumber 112 = .ok (.iconst 1, 1) := by decide +kernel
theorem dX9_putNumber_113 : decode cX9_putNumber 113 = .ok (.invokevirtual 71, 3) := by decide +kernel
theorem dX9_putNumber_116 : decode cX9_putNumber 116 = .ok (.ifCond .ne 7, 3) := by decide +kernel
theorem dX9_putNumber_119 : decode cX9_putNumber 119 = .ok (.iconst 1, 1) := by decide +kernel
theorem dX9_putNumber_120 : decode cX9_putNumber 120 = .ok (.goto 4, 3) := by decide +kernel
theorem dX9_putNumber_123 : decode cX9_putNumber 123 = .ok (.iconst 0, 1) := by decide +kernel
theorem dX9_putNumber_124 : decode cX9_putNumber 124 = .ok (.istore 8, 2) := by decide +kernel
theorem dX9_putNumber_126 : decode cX9_putNumber 126 = .ok (.dload_n 2, 1) := by decide +kernel
theorem dX9_putNumber_127 : decode cX9_putNumber 127 = .ok (.dconst 0, 1) := by decide +kernel
theorem dX9_putNumber_128 : decode cX9_putNumber 128 = .ok (.dcmp .g, 1) := by decide +kernel
theorem dX9_putNumber_129 : decode cX9_putNumber 129 = .ok (.ifCond .ge 12, 3) := by decide +kernel
theorem dX9_putNumber_132 : decode cX9_putNumber 132 = .ok (.iload 8, 2) := by decide +kernel
theorem dX9_putNumber_134 : decode cX9_putNumber 134 = .ok (.ifCond .ne 7, 3) := by decide +kernel
theorem dX9_putNumber_137 : decode cX9_putNumber 137 = .ok (.iconst 1, 1) := by decide +kernel
theorem dX9_putNumber_138 : decode cX9_putNumber 138 = .ok (.goto 4, 3) := by decide +kernel
theorem dX9_putNumber_141 : decode cX9_putNumber 141 = .ok (.iconst 0, 1) := by decide +kernel
theorem dX9_putNumber_142 : decode cX9_putNumber 142 = .ok (.istore 9, 2) := by decide +kernel
theorem dX9_putNumber_144 : decode cX9_putNumber 144 = .ok (.aload_n 1, 1) := by decide +kernel
theorem dX9_putNumber_145 : decode cX9_putNumber 145 = .ok (.iload 6, 2) := by decide +kernel
theorem dX9_putNumber_147 : decode cX9_putNumber 147 = .ok (.invokevirtual 50, 3) := by decide +kernel
theorem dX9_putNumber_150 : decode cX9_putNumber 150 = .ok (.tableswitch 94 1 5 #[34, 94, 94, 52, 73], 34) := by decide +kernel
theorem dX9_putNumber_184 : decode cX9_putNumber 184 = .ok (.aload_n 0, 1) := by decide +kernel
theorem dX9_putNumber_185 : decode cX9_putNumber 185 = .ok (.getfield 35, 3) := by decide +kernel
theorem dX9_putNumber_188 : decode cX9_putNumber 188 = .ok (.aload_n 0, 1) := by decide +kernel
theorem dX9_putNumber_189 : decode cX9_putNumber 189 = .ok (.getfield 12, 3) := by decide +kernel
theorem dX9_putNumber_192 : decode cX9_putNumber 192 = .ok (.aload_n 1, 1) := by decide +kernel
theorem dX9_putNumber_193 : decode cX9_putNumber 193 = .ok (.iload 6, 2) := by decide +kernel
theorem dX9_putNumber_195 : decode cX9_putNumber 195 = .ok (.dload_n 2, 1) := by decide +kernel
theorem dX9_putNumber_196 : decode cX9_putNumber 196 = .ok (.invokevirtual 75, 3) := by decide +kernel
theorem dX9_putNumber_199 : decode cX9_putNumber 199 = .ok (.goto 77, 3) := by decide +kernel
theorem dX9_putNumber_202 : decode cX9_putNumber 202 = .ok (.aload_n 0, 1) := by decide +kernel
theorem dX9_putNumber_203 : decode cX9_putNumber 203 = .ok (.getfield 21, 3) := by decide +kernel
theorem dX9_putNumber_206 : decode cX9_putNumber 206 = .ok (.aload_n 0, 1) := by decide +kernel
theorem dX9_putNumber_207 : decode cX9_putNumber 207 = .ok (.getfield 12, 3) := by decide +kernel
theorem dX9_putNumber_210 : decode cX9_putNumber 210 = .ok (.aload_n 1, 1) := by decide +kernel
theorem dX9_putNumber_211 : decode cX9_putNumber 211 = .ok (.iload 6, 2) := by decide +kernel
theorem dX9_putNumber_213 : decode cX9_putNumber 213 = .ok (.dload 4, 2) := by decide +kernel
theorem dX9_putNumber_215 : decode cX9_putNumber 215 = .ok (.iload 9, 2) := by decide +kernel
theorem dX9_putNumber_217 : decode cX9_putNumber 217 = .ok (.invokevirtual 78, 3) := by decide +kernel
theorem dX9_putNumber_220 : decode cX9_putNumber 220 = .ok (.goto 56, 3) := by decide +kernel
theorem dX9_putNumber_223 : decode cX9_putNumber 223 = .ok (.aload_n 0, 1) := by decide +kernel
theorem dX9_putNumber_224 : decode cX9_putNumber 224 = .ok (.getfield 28, 3) := by decide +kernel
theorem dX9_putNumber_227 : decode cX9_putNumber 227 = .ok (.aload_n 0, 1) := by decide +kernel
theorem dX9_putNumber_228 : decode cX9_putNumber 228 = .ok (.getfield 12, 3) := by decide +kernel
theorem dX9_putNumber_231 : decode cX9_putNumber 231 = .ok (.aload_n 1, 1) := by decide +kernel
theorem dX9_putNumber_232 : decode cX9_putNumber 232 = .ok (.iload 6, 2) := by decide +kernel
theorem dX9_putNumber_234 : decode cX9_putNumber 234 = .ok (.dload 4, 2) := by decide +kernel
theorem dX9_putNumber_236 : decode cX9_putNumber 236 = .ok (.iload 9, 2) := by decide +kernel
theorem dX9_putNumber_238 : decode cX9_putNumber 238 = .ok (.invokevirtual 81, 3) := by decide +kernel
theorem dX9_putNumber_241 : decode cX9_putNumber 241 = .ok (.goto 35, 3) := by decide +kernel
theorem dX9_putNumber_244 : decode cX9_putNumber 244 = .ok (.aload_n 0, 1) := by decide +kernel
theorem dX9_putNumber_245 : decode cX9_putNumber 245 = .ok (.iload 9, 2) := by decide +kernel
theorem dX9_putNumber_247 : decode cX9_putNumber 247 = .ok (.ifCond .eq 16, 3) := by decide +kernel
theorem dX9_putNumber_250 : decode cX9_putNumber 250 = .ok (.aload_n 1, 1) := by decide +kernel
theorem dX9_putNumber_251 : decode cX9_putNumber 251 = .ok (.iload 6, 2) := by decide +kernel
theorem dX9_putNumber_253 : decode cX9_putNumber 253 = .ok (.invokevirtual 50, 3) := by decide +kernel
theorem dX9_putNumber_256 : decode cX9_putNumber 256 = .ok (.ifCond .eq 7, 3) := by decide +kernel
theorem dX9_putNumber_259 : decode cX9_putNumber 259 = .ok (.iconst 1, 1) := by decide +kernel
theorem dX9_putNumber_260 : decode cX9_putNumber 260 = .ok (.goto 4, 3) := by decide +kernel
theorem dX9_putNumber_263 : decode cX9_putNumber 263 = .ok (.iconst 0, 1) := by decide +kernel
theorem dX9_putNumber_264 : decode cX9_putNumber 264 = .ok (.invokevirtual 57, 3) := by decide +kernel
theorem dX9_putNumber_267 : decode cX9_putNumber 267 = .ok (.aload_n 0, 1) := by decide +kernel
theorem dX9_putNumber_268 : decode cX9_putNumber 268 = .ok (.aload_n 1, 1) := by decide +kernel
theorem dX9_putNumber_269 : decode cX9_putNumber 269 = .ok (.iload 6, 2) := by decide +kernel
theorem dX9_putNumber_271 : decode cX9_putNumber 271 = .ok (.dload 4, 2) := by decide +kernel
theorem dX9_putNumber_273 : decode cX9_putNumber 273 = .ok (.invokevirtual 82, 3) := by decide +kernel
theorem dX9_putNumber_276 : decode cX9_putNumber 276 = .ok (.aload_n 0, 1) := by decide +kernel
theorem dX9_putNumber_277 : decode cX9_putNumber 277 = .ok (.getfield 12, 3) := by decide +kernel
theorem dX9_putNumber_280 : decode cX9_putNumber 280 = .ok (.invokevirtual 67, 3) := by decide +kernel
theorem dX9_putNumber_283 : decode cX9_putNumber 283 = .ok (.ireturn, 1) := by decide +kernel
theorem dX9_putMinus_0 : decode cX9_putMinus 0 = .ok (.iload_n 1, 1) := by decide +kernel
theorem dX9_putMinus_1 : decode cX9_putMinus 1 = .ok (.ifCond .eq 12, 3) := by decide +kernel
theorem dX9_putMinus_4 : decode cX9_putMinus 4 = .ok (.aload_n 0, 1) := by decide +kernel
theorem dX9_putMinus_5 : decode cX9_putMinus 5 = .ok (.getfield 12, 3) := by decide +kernel
theorem dX9_putMinus_8 : decode cX9_putMinus 8 = .ok (.bipush 45, 2) := by decide +kernel
theorem dX9_putMinus_10 : decode cX9_putMinus 10 = .ok (.invokevirtual 86, 3) := by decide +kernel
theorem dX9_putMinus_13 : decode cX9_putMinus 13 = .ok (.return_, 1) := by decide +kernel
theorem dX9_putWords_0 : decode cX9_putWords 0 = .ok (.aload_n 1, 1) := by decide +kernel
theorem dX9_putWords_1 : decode cX9_putWords 1 = .ok (.iload_n 2, 1) := by decide +kernel
theorem dX9_putWords_2 : decode cX9_putWords 2 = .ok (.invokevirtual 90, 3) := by decide +kernel
theorem dX9_putWords_5 : decode cX9_putWords 5 = .ok (.istore 5, 2) := by decide +kernel
theorem dX9_putWords_7 : decode cX9_putWords 7 = .ok (.iload 5, 2) := by decide +kernel
theorem dX9_putWords_9 : decode cX9_putWords 9 = .ok (.aload_n 1, 1) := by decide +kernel
theorem dX9_putWords_10 : decode cX9_putWords 10 = .ok (.iload_n 2, 1) := by decide +kernel
theorem dX9_putWords_11 : decode cX9_putWords 11 = .ok (.invokevirtual 93, 3) := by decide +kernel
theorem dX9_putWords_14 : decode cX9_putWords 14 = .ok (.if_icmp .ge 61, 3) := by decide +kernel
theorem dX9_putWords_17 : decode cX9_putWords 17 = .ok (.aload_n 1, 1) := by decide +kernel
theorem dX9_putWords_18 : decode cX9_putWords 18 = .ok (.iload 5, 2) := by decide +kernel
theorem dX9_putWords_20 : decode cX9_putWords 20 = .ok (.invokevirtual 96, 3) := by decide +kernel
theorem dX9_putWords_23 : decode cX9_putWords 23 = .ok (.istore 6, 2) := by decide +kernel
theorem dX9_putWords_25 : decode cX9_putWords 25 = .ok (.iload 6, 2) := by decide +kernel
theorem dX9_putWords_27 : decode cX9_putWords 27 = .ok (.bipush 9, 2) := by decide +kernel
theorem dX9_putWords_29 : decode cX9_putWords 29 = .ok (.if_icmp .eq 10, 3) := by decide +kernel
theorem dX9_putWords_32 : decode cX9_putWords 32 = .ok (.iload 6, 2) := by decide +kernel
theorem dX9_putWords_34 : decode cX9_putWords 34 = .ok (.bipush 11, 2) := by decide +kernel
theorem dX9_putWords_36 : decode cX9_putWords 36 = .ok (.if_icmp .ne 14, 3) := by decide +kernel
theorem dX9_putWords_39 : decode cX9_putWords 39 = .ok (.aload_n 0, 1) := by decide +kernel
theorem dX9_putWords_40 : decode cX9_putWords 40 = .ok (.getfield 12, 3) := by decide +kernel
theorem dX9_putWords_43 : decode cX9_putWords 43 = .ok (.dload_n 3, 1) := by decide +kernel
theorem dX9_putWords_44 : decode cX9_putWords 44 = .ok (.invokestatic 61, 3) := by decide +kernel
theorem dX9_putWords_47 : decode cX9_putWords 47 = .ok (.goto 22, 3) := by decide +kernel
theorem dX9_putWords_50 : decode cX9_putWords 50 = .ok (.iload 6, 2) := by decide +kernel
theorem dX9_putWords_52 : decode cX9_putWords 52 = .ok (.iconst 2, 1) := by decide +kernel
theorem dX9_putWords_53 : decode cX9_putWords 53 = .ok (.if_icmp .eq 16, 3) := by decide +kernel
theorem dX9_putWords_56 : decode cX9_putWords 56 = .ok (.aload_n 0, 1) := by decide +kernel
theorem dX9_putWords_57 : decode cX9_putWords 57 = .ok (.getfield 12, 3) := by decide +kernel
theorem dX9_putWords_60 : decode cX9_putWords 60 = .ok (.aload_n 1, 1) := by decide +kernel
theorem dX9_putWords_61 : decode cX9_putWords 61 = .ok (.iload 5, 2) := by decide +kernel
theorem dX9_putWords_63 : decode cX9_putWords 63 = .ok (.invokevirtual 99, 3) := by decide +kernel
theorem dX9_putWords_66 : decode cX9_putWords 66 = .ok (.invokevirtual 86, 3) := by decide +kernel
theorem dX9_putWords_69 : decode cX9_putWords 69 = .ok (.iinc 5 1, 3) := by decide +kernel
theorem dX9_putWords_72 : decode cX9_putWords 72 = .ok (.goto (-65), 3) := by decide +kernel
theorem dX9_putWords_75 : decode cX9_putWords 75 = .ok (.return_, 1) := by decide +kernel
theorem dX9_putText_0 : decode cX9_putText 0 = .ok (.aload_n 0, 1) := by decide +kernel
theorem dX9_putText_1 : decode cX9_putText 1 = .ok (.getfield 12, 3) := by decide +kernel
theorem dX9_putText_4 : decode cX9_putText 4 = .ok (.invokevirtual 43, 3) := by decide +kernel
theorem dX9_putText_7 : decode cX9_putText 7 = .ok (.aload_n 1, 1) := by decide +kernel
theorem dX9_putText_8 : decode cX9_putText 8 = .ok (.invokevirtual 102, 3) := by decide +kernel
theorem dX9_putText_11 : decode cX9_putText 11 = .ok (.iconst 1, 1) := by decide +kernel
theorem dX9_putText_12 : decode cX9_putText 12 = .ok (.if_icmp .ne 16, 3) := by decide +kernel
theorem dX9_putText_15 : decode cX9_putText 15 = .ok (.aload_n 1, 1) := by decide +kernel
theorem dX9_putText_16 : decode cX9_putText 16 = .ok (.iconst 0, 1) := by decide +kernel
theorem dX9_putText_17 : decode cX9_putText 17 = .ok (.invokevirtual 50, 3) := by decide +kernel
theorem dX9_putText_20 : decode cX9_putText 20 = .ok (.iconst 2, 1) := by decide +kernel
theorem dX9_putText_21 : decode cX9_putText 21 = .ok (.if_icmp .ne 7, 3) := by decide +kernel
theorem dX9_putText_24 : decode cX9_putText 24 = .ok (.iconst 1, 1) := by decide +kernel
theorem dX9_putText_25 : decode cX9_putText 25 = .ok (.goto 4, 3) := by decide +kernel
theorem dX9_putText_28 : decode cX9_putText 28 = .ok (.iconst 0, 1) := by decide +kernel
theorem dX9_putText_29 : decode cX9_putText 29 = .ok (.istore_n 3, 1) := by decide +kernel
theorem dX9_putText_30 : decode cX9_putText 30 = .ok (.aload_n 1, 1) := by decide +kernel
theorem dX9_putText_31 : decode cX9_putText 31 = .ok (.invokevirtual 102, 3) := by decide +kernel
theorem dX9_putText_34 : decode cX9_putText 34 = .ok (.iconst 4, 1) := by decide +kernel
theorem dX9_putText_35 : decode cX9_putText 35 = .ok (.if_icmp .ge 23, 3) := by decide +kernel
theorem dX9_putText_38 : decode cX9_putText 38 = .ok (.iload_n 3, 1) := by decide +kernel
theorem dX9_putText_39 : decode cX9_putText 39 = .ok (.ifCond .ne 19, 3) := by decide +kernel
theorem dX9_putText_42 : decode cX9_putText 42 = .ok (.aload_n 0, 1) := by decide +kernel
theorem dX9_putText_43 : decode cX9_putText 43 = .ok (.getfield 12, 3) := by decide +kernel
theorem dX9_putText_46 : decode cX9_putText 46 = .ok (.aload_n 2, 1) := by decide +kernel
theorem dX9_putText_47 : decode cX9_putText 47 = .ok (.invokevirtual 105, 3) := by decide +kernel
theorem dX9_putText_50 : decode cX9_putText 50 = .ok (.aload_n 0, 1) := by decide +kernel
theorem dX9_putText_51 : decode cX9_putText 51 = .ok (.getfield 12, 3) := by decide +kernel
theorem dX9_putText_54 : decode cX9_putText 54 = .ok (.invokevirtual 67, 3) := by decide +kernel
theorem dX9_putText_57 : decode cX9_putText 57 = .ok (.ireturn, 1) := by decide +kernel
theorem dX9_putText_58 : decode cX9_putText 58 = .ok (.aload_n 1, 1) := by decide +kernel
theorem dX9_putText_59 : decode cX9_putText 59 = .ok (.invokevirtual 102, 3) := by decide +kernel
theorem dX9_putText_62 : decode cX9_putText 62 = .ok (.iconst 1, 1) := by decide +kernel
theorem dX9_putText_63 : decode cX9_putText 63 = .ok (.isub, 1) := by decide +kernel
theorem dX9_putText_64 : decode cX9_putText 64 = .ok (.istore 4, 2) := by decide +kernel
theorem dX9_putText_66 : decode cX9_putText 66 = .ok (.aload_n 1, 1) := by decide +kernel
theorem dX9_putText_67 : decode cX9_putText 67 = .ok (.iload 4, 2) := by decide +kernel
theorem dX9_putText_69 : decode cX9_putText 69 = .ok (.invokevirtual 90, 3) := by decide +kernel
theorem dX9_putText_72 : decode cX9_putText 72 = .ok (.istore 5, 2) := by decide +kernel
theorem dX9_putText_74 : decode cX9_putText 74 = .ok (.iload 5, 2) := by decide +kernel
theorem dX9_putText_76 : decode cX9_putText 76 = .ok (.aload_n 1, 1) := by decide +kernel
theorem dX9_putText_77 : decode cX9_putText 77 = .ok (.iload 4, 2) := by decide +kernel
theorem dX9_putText_79 : decode cX9_putText 79 = .ok (.invokevirtual 93, 3) := by decide +kernel
theorem dX9_putText_82 : decode cX9_putText 82 = .ok (.if_icmp .ge 61, 3) := by decide +kernel
theorem dX9_putText_85 : decode cX9_putText 85 = .ok (.aload_n 1, 1) := by decide +kernel
theorem dX9_putText_86 : decode cX9_putText 86 = .ok (.iload 5, 2) := by decide +kernel
theorem dX9_putText_88 : decode cX9_putText 88 = .ok (.invokevirtual 96, 3) := by decide +kernel
theorem dX9_putText_91 : decode cX9_putText 91 = .ok (.istore 6, 2) := by decide +kernel
theorem dX9_putText_93 : decode cX9_putText 93 = .ok (.iload 6, 2) := by decide +kernel
theorem dX9_putText_95 : decode cX9_putText 95 = .ok (.bipush 9, 2) := by decide +kernel
theorem dX9_putText_97 : decode cX9_putText 97 = .ok (.if_icmp .eq 10, 3) := by decide +kernel
theorem dX9_putText_100 : decode cX9_putText 100 = .ok (.iload 6, 2) := by decide +kernel
theorem dX9_putText_102 : decode cX9_putText 102 = .ok (.bipush 11, 2) := by decide +kernel
theorem dX9_putText_104 : decode cX9_putText 104 = .ok (.if_icmp .ne 14, 3) := by decide +kernel
theorem dX9_putText_107 : decode cX9_putText 107 = .ok (.aload_n 0, 1) := by decide +kernel
theorem dX9_putText_108 : decode cX9_putText 108 = .ok (.getfield 12, 3) := by decide +kernel
theorem dX9_putText_111 : decode cX9_putText 111 = .ok (.aload_n 2, 1) := by decide +kernel
theorem dX9_putText_112 : decode cX9_putText 112 = .ok (.invokevirtual 105, 3) := by decide +kernel
theorem dX9_putText_115 : decode cX9_putText 115 = .ok (.goto 22, 3) := by decide +kernel
theorem dX9_putText_118 : decode cX9_putText 118 = .ok (.iload 6, 2) := by decide +kernel
theorem dX9_putText_120 : decode cX9_putText 120 = .ok (.iconst 2, 1) := by decide +kernel
theorem dX9_putText_121 : decode cX9_putText 121 = .ok (.if_icmp .eq 16, 3) := by decide +kernel
theorem dX9_putText_124 : decode cX9_putText 124 = .ok (.aload_n 0, 1) := by decide +kernel
theorem dX9_putText_125 : decode cX9_putText 125 = .ok (.getfield 12, 3) := by decide +kernel
theorem dX9_putText_128 : decode cX9_putText 128 = .ok (.aload_n 1, 1) := by decide +kernel
theorem dX9_putText_129 : decode cX9_putText 129 = .ok (.iload 5, 2) := by decide +kernel
theorem dX9_putText_131 : decode cX9_putText 131 = .ok (.invokevirtual 99, 3) := by decide +kernel
theorem dX9_putText_134 : decode cX9_putText 134 = .ok (.invokevirtual 86, 3) := by decide +kernel
theorem dX9_putText_137 : decode cX9_putText 137 = .ok (.iinc 5 1, 3) := by decide +kernel
theorem dX9_putText_140 : decode cX9_putText 140 = .ok (.goto (-66), 3) := by decide +kernel
theorem dX9_putText_143 : decode cX9_putText 143 = .ok (.aload_n 0, 1) := by decide +kernel
theorem dX9_putText_144 : decode cX9_putText 144 = .ok (.getfield 12, 3) := by decide +kernel
theorem dX9_putText_147 : decode cX9_putText 147 = .ok (.invokevirtual 67, 3) := by decide +kernel
theorem dX9_putText_150 : decode cX9_putText 150 = .ok (.ireturn, 1) := by decide +kernel
theorem dX9_sectionFor_0 : decode cX9_sectionFor 0 = .ok (.aload_n 0, 1) := by decide +kernel
theorem dX9_sectionFor_1 : decode cX9_sectionFor 1 = .ok (.invokevirtual 102, 3) := by decide +kernel
theorem dX9_sectionFor_4 : decode cX9_sectionFor 4 = .ok (.iconst 3, 1) := by decide +kernel
theorem dX9_sectionFor_5 : decode cX9_sectionFor 5 = .ok (.invokestatic 109, 3) := by decide +kernel
theorem dX9_sectionFor_8 : decode cX9_sectionFor 8 = .ok (.istore_n 3, 1) := by decide +kernel
theorem dX9_sectionFor_9 : decode cX9_sectionFor 9 = .ok (.bipush 7, 2) := by decide +kernel
theorem dX9_sectionFor_11 : decode cX9_sectionFor 11 = .ok (.istore 4, 2) := by decide +kernel
theorem dX9_sectionFor_13 : decode cX9_sectionFor 13 = .ok (.aload_n 0, 1) := by decide +kernel
theorem dX9_sectionFor_14 : decode cX9_sectionFor 14 = .ok (.iconst 0, 1) := by decide +kernel
theorem dX9_sectionFor_15 : decode cX9_sectionFor 15 = .ok (.dload_n 1, 1) := by decide +kernel
theorem dX9_sectionFor_16 : decode cX9_sectionFor 16 = .ok (.iload_n 3, 1) := by decide +kernel
theorem dX9_sectionFor_17 : decode cX9_sectionFor 17 = .ok (.iconst 1, 1) := by decide +kernel
theorem dX9_sectionFor_18 : decode cX9_sectionFor 18 = .ok (.if_icmp .ne 8, 3) := by decide +kernel
theorem dX9_sectionFor_21 : decode cX9_sectionFor 21 = .ok (.iload 4, 2) := by decide +kernel
theorem dX9_sectionFor_23 : decode cX9_sectionFor 23 = .ok (.goto 14, 3) := by decide +kernel
theorem dX9_sectionFor_26 : decode cX9_sectionFor 26 = .ok (.iload_n 3, 1) := by decide +kernel
theorem dX9_sectionFor_27 : decode cX9_sectionFor 27 = .ok (.iconst 2, 1) := by decide +kernel
theorem dX9_sectionFor_28 : decode cX9_sectionFor 28 = .ok (.if_icmp .ne 8, 3) := by decide +kernel
theorem dX9_sectionFor_31 : decode cX9_sectionFor 31 = .ok (.bipush 6, 2) := by decide +kernel
theorem dX9_sectionFor_33 : decode cX9_sectionFor 33 = .ok (.goto 4, 3) := by decide +kernel
theorem dX9_sectionFor_36 : decode cX9_sectionFor 36 = .ok (.iconst 4, 1) := by decide +kernel
theorem dX9_sectionFor_37 : decode cX9_sectionFor 37 = .ok (.invokestatic 115, 3) := by decide +kernel
theorem dX9_sectionFor_40 : decode cX9_sectionFor 40 = .ok (.ifCond .eq 5, 3) := by decide +kernel
theorem dX9_sectionFor_43 : decode cX9_sectionFor 43 = .ok (.iconst 0, 1) := by decide +kernel
theorem dX9_sectionFor_44 : decode cX9_sectionFor 44 = .ok (.ireturn, 1) := by decide +kernel
theorem dX9_sectionFor_45 : decode cX9_sectionFor 45 = .ok (.iload_n 3, 1) := by decide +kernel
theorem dX9_sectionFor_46 : decode cX9_sectionFor 46 = .ok (.iconst 1, 1) := by decide +kernel
theorem dX9_sectionFor_47 : decode cX9_sectionFor 47 = .ok (.if_icmp .le 25, 3) := by decide +kernel
theorem dX9_sectionFor_50 : decode cX9_sectionFor 50 = .ok (.aload_n 0, 1) := by decide +kernel
theorem dX9_sectionFor_51 : decode cX9_sectionFor 51 = .ok (.iconst 1, 1) := by decide +kernel
theorem dX9_sectionFor_52 : decode cX9_sectionFor 52 = .ok (.dload_n 1, 1) := by decide +kernel
theorem dX9_sectionFor_53 : decode cX9_sectionFor 53 = .ok (.iload_n 3, 1) := by decide +kernel
theorem dX9_sectionFor_54 : decode cX9_sectionFor 54 = .ok (.iconst 2, 1) := by decide +kernel
theorem dX9_sectionFor_55 : decode cX9_sectionFor 55 = .ok (.if_icmp .ne 8, 3) := by decide +kernel
theorem dX9_sectionFor_58 : decode cX9_sectionFor 58 = .ok (.iload 4, 2) := by decide +kernel
theorem dX9_sectionFor_60 : decode cX9_sectionFor 60 = .ok (.goto 4, 3) := by decide +kernel
theorem dX9_sectionFor_63 : decode cX9_sectionFor 63 = .ok (.iconst 1, 1) := by decide +kernel
theorem dX9_sectionFor_64 : decode cX9_sectionFor 64 = .ok (.invokestatic 115, 3) := by decide +kernel
theorem dX9_sectionFor_67 : decode cX9_sectionFor 67 = .ok (.ifCond .eq 5, 3) := by decide +kernel
theorem dX9_sectionFor_70 : decode cX9_sectionFor 70 = .ok (.iconst 1, 1) := by decide +kernel
theorem dX9_sectionFor_71 : decode cX9_sectionFor 71 = .ok (.ireturn, 1) := by decide +kernel
theorem dX9_sectionFor_72 : decode cX9_sectionFor 72 = .ok (.iload_n 3, 1) := by decide +kernel
theorem dX9_sectionFor_73 : decode cX9_sectionFor 73 = .ok (.iconst 3, 1) := by decide +kernel
theorem dX9_sectionFor_74 : decode cX9_sectionFor 74 = .ok (.if_icmp .ne 7, 3) := by decide +kernel
theorem dX9_sectionFor_77 : decode cX9_sectionFor 77 = .ok (.iconst 2, 1) := by decide +kernel
theorem dX9_sectionFor_78 : decode cX9_sectionFor 78 = .ok (.goto 4, 3) := by decide +kernel
theorem dX9_sectionFor_81 : decode cX9_sectionFor 81 = .ok (.iconst (-1), 1) := by decide +kernel
theorem dX9_sectionFor_82 : decode cX9_sectionFor 82 = .ok (.ireturn, 1) := by decide +kernel
theorem dX9_holds_0 : decode cX9_holds 0 = .ok (.aload_n 0, 1) := by decide +kernel
theorem dX9_holds_1 : decode cX9_holds 1 = .ok (.iload_n 1, 1) := by decide +kernel
theorem dX9_holds_2 : decode cX9_holds 2 = .ok (.invokevirtual 90, 3) := by decide +kernel
theorem dX9_holds_5 : decode cX9_holds 5 = .ok (.istore 5, 2) := by decide +kernel
theorem dX9_holds_7 : decode cX9_holds 7 = .ok (.aload_n 0, 1) := by decide +kernel
theorem dX9_holds_8 : decode cX9_holds 8 = .ok (.iload_n 1, 1) := by decide +kernel
theorem dX9_holds_9 : decode cX9_holds 9 = .ok (.invokevirtual 71, 3) := by decide +kernel
theorem dX9_holds_12 : decode cX9_holds 12 = .ok (.ifCond .eq 12, 3) := by decide +kernel
theorem dX9_holds_15 : decode cX9_holds 15 = .ok (.aload_n 0, 1) := by decide +kernel
theorem dX9_holds_16 : decode cX9_holds 16 = .ok (.iload 5, 2) := by decide +kernel
theorem dX9_holds_18 : decode cX9_holds 18 = .ok (.invokevirtual 119, 3) := by decide +kernel
theorem dX9_holds_21 : decode cX9_holds 21 = .ok (.goto 5, 3) := by decide +kernel
theorem dX9_holds_24 : decode cX9_holds 24 = .ok (.iload 4, 2) := by decide +kernel
theorem dX9_holds_26 : decode cX9_holds 26 = .ok (.istore 6, 2) := by decide +kernel
theorem dX9_holds_28 : decode cX9_holds 28 = .ok (.aload_n 0, 1) := by decide +kernel
theorem dX9_holds_29 : decode cX9_holds 29 = .ok (.iload_n 1, 1) := by decide +kernel
theorem dX9_holds_30 : decode cX9_holds 30 = .ok (.invokevirtual 71, 3) := by decide +kernel
theorem dX9_holds_33 : decode cX9_holds 33 = .ok (.ifCond .eq 12, 3) := by decide +kernel
theorem dX9_holds_36 : decode cX9_holds 36 = .ok (.aload_n 0, 1) := by decide +kernel
theorem dX9_holds_37 : decode cX9_holds 37 = .ok (.iload 5, 2) := by decide +kernel
theorem dX9_holds_39 : decode cX9_holds 39 = .ok (.invokevirtual 122, 3) := by decide +kernel
theorem dX9_holds_42 : decode cX9_holds 42 = .ok (.goto 4, 3) := by decide +kernel
theorem dX9_holds_45 : decode cX9_holds 45 = .ok (.dconst 0, 1) := by decide +kernel
theorem dX9_holds_46 : decode cX9_holds 46 = .ok (.dstore 7, 2) := by decide +kernel
theorem dX9_holds_48 : decode cX9_holds 48 = .ok (.iload 6, 2) := by decide +kernel
theorem dX9_holds_50 : decode cX9_holds 50 = .ok (.dload_n 2, 1) := by decide +kernel
theorem dX9_holds_51 : decode cX9_holds 51 = .ok (.dload 7, 2) := by decide +kernel
theorem dX9_holds_53 : decode cX9_holds 53 = .ok (.dcmp .g, 1) := by decide +kernel
theorem dX9_holds_54 : decode cX9_holds 54 = .ok (.ifCond .ge 7, 3) := by decide +kernel
theorem dX9_holds_57 : decode cX9_holds 57 = .ok (.iconst 1, 1) := by decide +kernel
theorem dX9_holds_58 : decode cX9_holds 58 = .ok (.goto 15, 3) := by decide +kernel
theorem dX9_holds_61 : decode cX9_holds 61 = .ok (.dload_n 2, 1) := by decide +kernel
theorem dX9_holds_62 : decode cX9_holds 62 = .ok (.dload 7, 2) := by decide +kernel
theorem dX9_holds_64 : decode cX9_holds 64 = .ok (.dcmp .l, 1) := by decide +kernel
theorem dX9_holds_65 : decode cX9_holds 65 = .ok (.ifCond .le 7, 3) := by decide +kernel
theorem dX9_holds_68 : decode cX9_holds 68 = .ok (.iconst 4, 1) := by decide +kernel
theorem dX9_holds_69 : decode cX9_holds 69 = .ok (.goto 4, 3) := by decide +kernel
theorem dX9_holds_72 : decode cX9_holds 72 = .ok (.iconst 2, 1) := by decide +kernel
theorem dX9_holds_73 : decode cX9_holds 73 = .ok (.iand, 1) := by decide +kernel
theorem dX9_holds_74 : decode cX9_holds 74 = .ok (.ifCond .eq 7, 3) := by decide +kernel
theorem dX9_holds_77 : decode cX9_holds 77 = .ok (.iconst 1, 1) := by decide +kernel
theorem dX9_holds_78 : decode cX9_holds 78 = .ok (.goto 4, 3) := by decide +kernel
theorem dX9_holds_81 : decode cX9_holds 81 = .ok (.iconst 0, 1) := by decide +kernel
theorem dX9_holds_82 : decode cX9_holds 82 = .ok (.ireturn, 1) := by decide +kernel
theorem dX10_init_0 : decode cX10_init 0 = .ok (.aload_n 0, 1) := by decide +kernel
theorem dX10_init_1 : decode cX10_init 1 = .ok (.invokespecial 3, 3) := by decide +kernel
theorem dX10_init_4 : decode cX10_init 4 = .ok (.aload_n 0, 1) := by decide +kernel
theorem dX10_init_5 : decode cX10_init 5 = .ok (.sipush 255, 3) := by decide +kernel
theorem dX10_init_8 : decode cX10_init 8 = .ok (.newarray .int, 2) := by decide +kernel
theorem dX10_init_10 : decode cX10_init 10 = .ok (.putfield 9, 3) := by decide +kernel
theorem dX10_init_13 : decode cX10_init 13 = .ok (.return_, 1) := by decide +kernel
theorem dX10_take_0 : decode cX10_take 0 = .ok (.aload_n 0, 1) := by decide +kernel
theorem dX10_take_1 : decode cX10_take 1 = .ok (.iconst 0, 1) := by decide +kernel
theorem dX10_take_2 : decode cX10_take 2 = .ok (.putfield 15, 3) := by decide +kernel
theorem dX10_take_5 : decode cX10_take 5 = .ok (.iconst 0, 1) := by decide +kernel
theorem dX10_take_6 : decode cX10_take 6 = .ok (.istore_n 3, 1) := by decide +kernel
theorem dX10_take_7 : decode cX10_take 7 = .ok (.iload_n 3, 1) := by decide +kernel
theorem dX10_take_8 : decode cX10_take 8 = .ok (.iload_n 2, 1) := by decide +kernel
theorem dX10_take_9 : decode cX10_take 9 = .ok (.if_icmp .ge 40, 3) := by decide +kernel
theorem dX10_take_12 : decode cX10_take 12 = .ok (.iload_n 3, 1) := by decide +kernel
theorem dX10_take_13 : decode cX10_take 13 = .ok (.aload_n 1, 1) := by decide +kernel
theorem dX10_take_14 : decode cX10_take 14 = .ok (.arraylength, 1) := by decide +kernel
theorem dX10_take_15 : decode cX10_take 15 = .ok (.if_icmp .ge 34, 3) := by decide +kernel
theorem dX10_take_18 : decode cX10_take 18 = .ok (.iload_n 3, 1) := by decide +kernel
theorem dX10_take_19 : decode cX10_take 19 = .ok (.aload_n 0, 1) := by decide +kernel
theorem dX10_take_20 : decode cX10_take 20 = .ok (.getfield 9, 3) := by decide +kernel
theorem dX10_take_23 : decode cX10_take 23 = .ok (.arraylength, 1) := by decide +kernel
theorem dX10_take_24 : decode cX10_take 24 = .ok (.if_icmp .ge 25, 3) := by decide +kernel
theorem dX10_take_27 : decode cX10_take 27 = .ok (.aload_n 0, 1) := by decide +kernel
theorem dX10_take_28 : decode cX10_take 28 = .ok (.getfield 9, 3) := by decide +kernel
theorem dX10_take_31 : decode cX10_take 31 = .ok (.iload_n 3, 1) := by decide +kernel
theorem dX10_take_32 : decode cX10_take 32 = .ok (.aload_n 1, 1) := by decide +kernel
theorem dX10_take_33 : decode cX10_take 33 = .ok (.iload_n 3, 1) := by decide +kernel
theorem dX10_take_34 : decode cX10_take 34 = .ok (.iaload, 1) := by decide +kernel
theorem dX10_take_35 : decode cX10_take 35 = .ok (.iastore, 1) := by decide +kernel
theorem dX10_take_36 : decode cX10_take 36 = .ok (.aload_n 0, 1) := by decide +kernel
theorem dX10_take_37 : decode cX10_take 37 = .ok (.iload_n 3, 1) := by decide +kernel
theorem dX10_take_38 : decode cX10_take 38 = .ok (.iconst 1, 1) := by decide +kernel
theorem dX10_take_39 : decode cX10_take 39 = .ok (.iadd, 1) := by decide +kernel
theorem dX10_take_40 : decode cX10_take 40 = .ok (.putfield 15, 3) := by decide +kernel
theorem dX10_take_43 : decode cX10_take 43 = .ok (.iinc 3 1, 3) := by decide +kernel
theorem dX10_take_46 : decode cX10_take 46 = .ok (.goto (-39), 3) := by decide +kernel
theorem dX10_take_49 : decode cX10_take 49 = .ok (.return_, 1) := by decide +kernel
theorem dX10_length_0 : decode cX10_length 0 = .ok (.aload_n 0, 1) := by decide +kernel
theorem dX10_length_1 : decode cX10_length 1 = .ok (.getfield 15, 3) := by decide +kernel
theorem dX10_length_4 : decode cX10_length 4 = .ok (.ireturn, 1) := by decide +kernel
theorem dX10_at_0 : decode cX10_at 0 = .ok (.iload_n 1, 1) := by decide +kernel
theorem dX10_at_1 : decode cX10_at 1 = .ok (.ifCond .lt 29, 3) := by decide +kernel
theorem dX10_at_4 : decode cX10_at 4 = .ok (.iload_n 1, 1) := by decide +kernel
theorem dX10_at_5 : decode cX10_at 5 = .ok (.aload_n 0, 1) := by decide +kernel
theorem dX10_at_6 : decode cX10_at 6 = .ok (.getfield 15, 3) := by decide +kernel
theorem dX10_at_9 : decode cX10_at 9 = .ok (.if_icmp .ge 21, 3) := by decide +kernel
theorem dX10_at_12 : decode cX10_at 12 = .ok (.iload_n 1, 1) := by decide +kernel
theorem dX10_at_13 : decode cX10_at 13 = .ok (.aload_n 0, 1) := by decide +kernel
theorem dX10_at_14 : decode cX10_at 14 = .ok (.getfield 9, 3) := by decide +kernel
theorem dX10_at_17 : decode cX10_at 17 = .ok (.arraylength, 1) := by decide +kernel
theorem dX10_at_18 : decode cX10_at 18 = .ok (.if_icmp .ge 12, 3) := by decide +kernel
theorem dX10_at_21 : decode cX10_at 21 = .ok (.aload_n 0, 1) := by decide +kernel
theorem dX10_at_22 : decode cX10_at 22 = .ok (.getfield 9, 3) := by decide +kernel
theorem dX10_at_25 : decode cX10_at 25 = .ok (.iload_n 1, 1) := by decide +kernel
theorem dX10_at_26 : decode cX10_at 26 = .ok (.iaload, 1) := by decide +kernel
theorem dX10_at_27 : decode cX10_at 27 = .ok (.goto 4, 3) := by decide +kernel
theorem dX10_at_30 : decode cX10_at 30 = .ok (.iconst (-1), 1) := by decide +kernel
theorem dX10_at_31 : decode cX10_at 31 = .ok (.ireturn, 1) := by decide +kernel
theorem dX10_smallAt_0 : decode cX10_smallAt 0 = .ok (.aload_n 0, 1) := by decide +kernel
theorem dX10_smallAt_1 : decode cX10_smallAt 1 = .ok (.iload_n 1, 1) := by decide +kernel
theorem dX10_smallAt_2 : decode cX10_smallAt 2 = .ok (.invokevirtual 19, 3) := by decide +kernel
theorem dX10_smallAt_5 : decode cX10_smallAt 5 = .ok (.istore_n 2, 1) := by decide +kernel
theorem dX10_smallAt_6 : decode cX10_smallAt 6 = .ok (.iload_n 2, 1) := by decide +kernel
theorem dX10_smallAt_7 : decode cX10_smallAt 7 = .ok (.bipush 65, 2) := by decide +kernel
theorem dX10_smallAt_9 : decode cX10_smallAt 9 = .ok (.if_icmp .lt 16, 3) := by decide +kernel
theorem dX10_smallAt_12 : decode cX10_smallAt 12 = .ok (.iload_n 2, 1) := by decide +kernel
theorem dX10_smallAt_13 : decode cX10_smallAt 13 = .ok (.bipush 90, 2) := by decide +kernel
theorem dX10_smallAt_15 : decode cX10_smallAt 15 = .ok (.if_icmp .gt 10, 3) := by decide +kernel
theorem dX10_smallAt_18 : decode cX10_smallAt 18 = .ok (.iload_n 2, 1) := by decide +kernel
theorem dX10_smallAt_19 : decode cX10_smallAt 19 = .ok (.bipush 32, 2) := by decide +kernel
theorem dX10_smallAt_21 : decode cX10_smallAt 21 = .ok (.iadd, 1) := by decide +kernel
theorem dX10_smallAt_22 : decode cX10_smallAt 22 = .ok (.goto 4, 3) := by decide +kernel
theorem dX10_smallAt_25 : decode cX10_smallAt 25 = .ok (.iload_n 2, 1) := by decide +kernel
theorem dX10_smallAt_26 : decode cX10_smallAt 26 = .ok (.ireturn, 1) := by decide +kernel
theorem dX10_find_0 : decode cX10_find 0 = .ok (.iload_n 2, 1) := by decide +kernel
theorem dX10_find_1 : decode cX10_find 1 = .ok (.istore_n 3, 1) := by decide +kernel
theorem dX10_find_2 : decode cX10_find 2 = .ok (.iload_n 3, 1) := by decide +kernel
theorem dX10_find_3 : decode cX10_find 3 = .ok (.aload_n 0, 1) := by decide +kernel
theorem dX10_find_4 : decode cX10_find 4 = .ok (.getfield 15, 3) := by decide +kernel
theorem dX10_find_7 : decode cX10_find 7 = .ok (.if_icmp .ge 20, 3) := by decide +kernel
theorem dX10_find_10 : decode cX10_find 10 = .ok (.aload_n 0, 1) := by decide +kernel
theorem dX10_find_11 : decode cX10_find 11 = .ok (.iload_n 3, 1) := by decide +kernel
theorem dX10_find_12 : decode cX10_find 12 = .ok (.invokevirtual 19, 3) := by decide +kernel
theorem dX10_find_15 : decode cX10_find 15 = .ok (.iload_n 1, 1) := by decide +kernel
theorem dX10_find_16 : decode cX10_find 16 = .ok (.if_icmp .ne 5, 3) := by decide +kernel
theorem dX10_find_19 : decode cX10_find 19 = .ok (.iload_n 3, 1) := by decide +kernel
theorem dX10_find_20 : decode cX10_find 20 = .ok (.ireturn, 1) := by decide +kernel
theorem dX10_find_21 : decode cX10_find 21 = .ok (.iinc 3 1, 3) := by decide +kernel
theorem dX10_find_24 : decode cX10_find 24 = .ok (.goto (-22), 3) := by decide +kernel
theorem dX10_find_27 : decode cX10_find 27 = .ok (.iconst (-1), 1) := by decide +kernel
theorem dX10_find_28 : decode cX10_find 28 = .ok (.ireturn, 1) := by decide +kernel
theorem dX10_hasWord_0 : decode cX10_hasWord 0 = .ok (.iconst 0, 1) := by decide +kernel
theorem dX10_hasWord_1 : decode cX10_hasWord 1 = .ok (.istore_n 3, 1) := by decide +kernel
theorem dX10_hasWord_2 : decode cX10_hasWord 2 = .ok (.iload_n 3, 1) := by decide +kernel
theorem dX10_hasWord_3 : decode cX10_hasWord 3 = .ok (.aload_n 1, 1) := by decide +kernel
theorem dX10_hasWord_4 : decode cX10_hasWord 4 = .ok (.invokevirtual 23, 3) := by decide +kernel
theorem dX10_hasWord_7 : decode cX10_hasWord 7 = .ok (.if_icmp .ge 26, 3) := by decide +kernel
theorem dX10_hasWord_10 : decode cX10_hasWord 10 = .ok (.aload_n 0, 1) := by decide +kernel
theorem dX10_hasWord_11 : decode cX10_hasWord 11 = .ok (.iload_n 2, 1) := by decide +kernel
theorem dX10_hasWord_12 : decode cX10_hasWord 12 = .ok (.iload_n 3, 1) := by decide +kernel
theorem dX10_hasWord_13 : decode cX10_hasWord 13 = .ok (.iadd, 1) := by decide +kernel
theorem dX10_hasWord_14 : decode cX10_hasWord 14 = .ok (.invokevirtual 28, 3) := by decide +kernel
theorem dX10_hasWord_17 : decode cX10_hasWord 17 = .ok (.aload_n 1, 1) := by decide +kernel
theorem dX10_hasWord_18 : decode cX10_hasWord 18 = .ok (.iload_n 3, 1) := by decide +kernel
theorem dX10_hasWord_19 : decode cX10_hasWord 19 = .ok (.invokevirtual 31, 3) := by decide +kernel
theorem dX10_hasWord_22 : decode cX10_hasWord 22 = .ok (.if_icmp .eq 5, 3) := by decide +kernel
theorem dX10_hasWord_25 : decode cX10_hasWord 25 = .ok (.iconst 0, 1) := by decide +kernel
theorem dX10_hasWord_26 : decode cX10_hasWord 26 = .ok (.ireturn, 1) := by decide +kernel
theorem dX10_hasWord_27 : decode cX10_hasWord 27 = .ok (.iinc 3 1, 3) := by decide +kernel
theorem dX10_hasWord_30 : decode cX10_hasWord 30 = .ok (.goto (-28), 3) := by decide +kernel
theorem dX10_hasWord_33 : decode cX10_hasWord 33 = .ok (.iconst 1, 1) := by decide +kernel
theorem dX10_hasWord_34 : decode cX10_hasWord 34 = .ok (.ireturn, 1) := by decide +kernel
theorem dX10_isDigit_0 : decode cX10_isDigit 0 = .ok (.aload_n 0, 1) := by decide +kernel
theorem dX10_isDigit_1 : decode cX10_isDigit 1 = .ok (.iload_n 1, 1) := by decide +kernel
theorem dX10_isDigit_2 : decode cX10_isDigit 2 = .ok (.invokevirtual 19, 3) := by decide +kernel
theorem dX10_isDigit_5 : decode cX10_isDigit 5 = .ok (.bipush 48, 2) := by decide +kernel
theorem dX10_isDigit_7 : decode cX10_isDigit 7 = .ok (.if_icmp .lt 17, 3) := by decide +kernel
theorem dX10_isDigit_10 : decode cX10_isDigit 10 = .ok (.aload_n 0, 1) := by decide +kernel
theorem dX10_isDigit_11 : decode cX10_isDigit 11 = .ok (.iload_n 1, 1) := by decide +kernel
theorem dX10_isDigit_12 : decode cX10_isDigit 12 = .ok (.invokevirtual 19, 3) := by decide +kernel
theorem dX10_isDigit_15 : decode cX10_isDigit 15 = .ok (.bipush 57, 2) := by decide +kernel
theorem dX10_isDigit_17 : decode cX10_isDigit 17 = .ok (.if_icmp .gt 7, 3) := by decide +kernel
theorem dX10_isDigit_20 : decode cX10_isDigit 20 = .ok (.iconst 1, 1) := by decide +kernel
theorem dX10_isDigit_21 : decode cX10_isDigit 21 = .ok (.goto 4, 3) := by decide +kernel
theorem dX10_isDigit_24 : decode cX10_isDigit 24 = .ok (.iconst 0, 1) := by decide +kernel
theorem dX10_isDigit_25 : decode cX10_isDigit 25 = .ok (.ireturn, 1) := by decide +kernel
theorem dX10_digitsFrom_0 : decode cX10_digitsFrom 0 = .ok (.iconst 0, 1) := by decide +kernel
theorem dX10_digitsFrom_1 : decode cX10_digitsFrom 1 = .ok (.istore_n 3, 1) := by decide +kernel
theorem dX10_digitsFrom_2 : decode cX10_digitsFrom 2 = .ok (.iload_n 3, 1) := by decide +kernel
theorem dX10_digitsFrom_3 : decode cX10_digitsFrom 3 = .ok (.iload_n 2, 1) := by decide +kernel
theorem dX10_digitsFrom_4 : decode cX10_digitsFrom 4 = .ok (.if_icmp .ge 19, 3) := by decide +kernel
theorem dX10_digitsFrom_7 : decode cX10_digitsFrom 7 = .ok (.aload_n 0, 1) := by decide +kernel
theorem dX10_digitsFrom_8 : decode cX10_digitsFrom 8 = .ok (.iload_n 1, 1) := by decide +kernel
theorem dX10_digitsFrom_9 : decode cX10_digitsFrom 9 = .ok (.iload_n 3, 1) := by decide +kernel
theorem dX10_digitsFrom_10 : decode cX10_digitsFrom 10 = .ok (.iadd, 1) := by decide +kernel
theorem dX10_digitsFrom_11 : decode cX10_digitsFrom 11 = .ok (.invokevirtual 35, 3) := by decide +kernel
theorem dX10_digitsFrom_14 : decode cX10_digitsFrom 14 = .ok (.ifCond .eq 9, 3) := by decide +kernel
theorem dX10_digitsFrom_17 : decode cX10_digitsFrom 17 = .ok (.iinc 3 1, 3) := by decide +kernel
theorem dX10_digitsFrom_20 : decode cX10_digitsFrom 20 = .ok (.goto (-18), 3) := by decide +kernel
theorem dX10_digitsFrom_23 : decode cX10_digitsFrom 23 = .ok (.iload_n 3, 1) := by decide +kernel
theorem dX10_digitsFrom_24 : decode cX10_digitsFrom 24 = .ok (.ireturn, 1) := by decide +kernel
theorem dX10_numberOf_0 : decode cX10_numberOf 0 = .ok (.iconst 0, 1) := by decide +kernel
theorem dX10_numberOf_1 : decode cX10_numberOf 1 = .ok (.istore_n 3, 1) := by decide +kernel
theorem dX10_numberOf_2 : decode cX10_numberOf 2 = .ok (.iload_n 1, 1) := by decide +kernel
theorem dX10_numberOf_3 : decode cX10_numberOf 3 = .ok (.istore 4, 2) := by decide +kernel
theorem dX10_numberOf_5 : decode cX10_numberOf 5 = .ok (.iload 4, 2) := by decide +kernel
theorem dX10_numberOf_7 : decode cX10_numberOf 7 = .ok (.iload_n 1, 1) := by decide +kernel
theorem dX10_numberOf_8 : decode cX10_numberOf 8 = .ok (.iload_n 2, 1) := by decide +kernel
theorem dX10_numberOf_9 : decode cX10_numberOf 9 = .ok (.iadd, 1) := by decide +kernel
theorem dX10_numberOf_10 : decode cX10_numberOf 10 = .ok (.if_icmp .ge 24, 3) := by decide +kernel
theorem dX10_numberOf_13 : decode cX10_numberOf 13 = .ok (.iload_n 3, 1) := by decide +kernel
theorem dX10_numberOf_14 : decode cX10_numberOf 14 = .ok (.bipush 10, 2) := by decide +kernel
theorem dX10_numberOf_16 : decode cX10_numberOf 16 = .ok (.imul, 1) := by decide +kernel
theorem dX10_numberOf_17 : decode cX10_numberOf 17 = .ok (.aload_n 0, 1) := by decide +kernel
theorem dX10_numberOf_18 : decode cX10_numberOf 18 = .ok (.iload 4, 2) := by decide +kernel
theorem dX10_numberOf_20 : decode cX10_numberOf 20 = .ok (.invokevirtual 19, 3) := by decide +kernel
theorem dX10_numberOf_23 : decode cX10_numberOf 23 = .ok (.bipush 48, 2) := by decide +kernel
theorem dX10_numberOf_25 : decode cX10_numberOf 25 = .ok (.isub, 1) := by decide +kernel
theorem dX10_numberOf_26 : decode cX10_numberOf 26 = .ok (.iadd, 1) := by decide +kernel
theorem dX10_numberOf_27 : decode cX10_numberOf 27 = .ok (.istore_n 3, 1) := by decide +kernel
theorem dX10_numberOf_28 : decode cX10_numberOf 28 = .ok (.iinc 4 1, 3) := by decide +kernel
theorem dX10_numberOf_31 : decode cX10_numberOf 31 = .ok (.goto (-26), 3) := by decide +kernel
theorem dX10_numberOf_34 : decode cX10_numberOf 34 = .ok (.iload_n 3, 1) := by decide +kernel
theorem dX10_numberOf_35 : decode cX10_numberOf 35 = .ok (.ireturn, 1) := by decide +kernel
theorem dX11_init_0 : decode cX11_init 0 = .ok (.aload_n 0, 1) := by decide +kernel
theorem dX11_init_1 : decode cX11_init 1 = .ok (.invokespecial 1, 3) := by decide +kernel
theorem dX11_init_4 : decode cX11_init 4 = .ok (.aload_n 0, 1) := by decide +kernel
theorem dX11_init_5 : decode cX11_init 5 = .ok (.sipush 260, 3) := by decide +kernel
theorem dX11_init_8 : decode cX11_init 8 = .ok (.newarray .int, 2) := by decide +kernel
theorem dX11_init_10 : decode cX11_init 10 = .ok (.putfield 9, 3) := by decide +kernel
theorem dX11_init_13 : decode cX11_init 13 = .ok (.aload_n 0, 1) := by decide +kernel
theorem dX11_init_14 : decode cX11_init 14 = .ok (.new 13, 3) := by decide +kernel
theorem dX11_init_17 : decode cX11_init 17 = .ok (.dup, 1) := by decide +kernel
theorem dX11_init_18 : decode cX11_init 18 = .ok (.invokespecial 15, 3) := by decide +kernel
theorem dX11_init_21 : decode cX11_init 21 = .ok (.putfield 16, 3) := by decide +kernel
theorem dX11_init_24 : decode cX11_init 24 = .ok (.aload_n 0, 1) := by decide +kernel
theorem dX11_init_25 : decode cX11_init 25 = .ok (.new 20, 3) := by decide +kernel
theorem dX11_init_28 : decode cX11_init 28 = .ok (.dup, 1) := by decide +kernel
theorem dX11_init_29 : decode cX11_init 29 = .ok (.invokespecial 22, 3) := by decide +kernel
theorem dX11_init_32 : decode cX11_init 32 = .ok (.putfield 23, 3) := by decide +kernel
theorem dX11_init_35 : decode cX11_init 35 = .ok (.aload_n 0, 1) := by decide +kernel
theorem dX11_init_36 : decode cX11_init 36 = .ok (.new 27, 3) := by decide +kernel
theorem dX11_init_39 : decode cX11_init 39 = .ok (.dup, 1) := by decide +kernel
theorem dX11_init_40 : decode cX11_init 40 = .ok (.invokespecial 29, 3) := by decide +kernel
theorem dX11_init_43 : decode cX11_init 43 = .ok (.putfield 30, 3) := by decide +kernel
theorem dX11_init_46 : decode cX11_init 46 = .ok (.aload_n 0, 1) := by decide +kernel
theorem dX11_init_47 : decode cX11_init 47 = .ok (.new 27, 3) := by decide +kernel
theorem dX11_init_50 : decode cX11_init 50 = .ok (.dup, 1) := by decide +kernel
theorem dX11_init_51 : decode cX11_init 51 = .ok (.invokespecial 29, 3) := by decide +kernel
theorem dX11_init_54 : decode cX11_init 54 = .ok (.putfield 34, 3) := by decide +kernel
theorem dX11_init_57 : decode cX11_init 57 = .ok (.aload_n 0, 1) := by decide +kernel
theorem dX11_init_58 : decode cX11_init 58 = .ok (.iconst (-1), 1) := by decide +kernel
theorem dX11_init_59 : decode cX11_init 59 = .ok (.putfield 37, 3) := by decide +kernel
theorem dX11_init_62 : decode cX11_init 62 = .ok (.return_, 1) := by decide +kernel
theorem dX11_feed_0 : decode cX11_feed 0 = .ok (.aload_n 0, 1) := by decide +kernel
theorem dX11_feed_1 : decode cX11_feed 1 = .ok (.getfield 41, 3) := by decide +kernel
theorem dX11_feed_4 : decode cX11_feed 4 = .ok (.bipush 20, 2) := by decide +kernel
theorem dX11_feed_6 : decode cX11_feed 6 = .ok (.iadd, 1) := by decide +kernel
theorem dX11_feed_7 : decode cX11_feed 7 = .ok (.sipush 260, 3) := by decide +kernel
theorem dX11_feed_10 : decode cX11_feed 10 = .ok (.if_icmp .le 5, 3) := by decide +kernel
theorem dX11_feed_13 : decode cX11_feed 13 = .ok (.iconst 0, 1) := by decide +kernel
theorem dX11_feed_14 : decode cX11_feed 14 = .ok (.ireturn, 1) := by decide +kernel
theorem dX11_feed_15 : decode cX11_feed 15 = .ok (.aload_n 0, 1) := by decide +kernel
theorem dX11_feed_16 : decode cX11_feed 16 = .ok (.iload_n 1, 1) := by decide +kernel
theorem dX11_feed_17 : decode cX11_feed 17 = .ok (.invokevirtual 44, 3) := by decide +kernel
theorem dX11_feed_20 : decode cX11_feed 20 = .ok (.aload_n 0, 1) := by decide +kernel
theorem dX11_feed_21 : decode cX11_feed 21 = .ok (.iload_n 2, 1) := by decide +kernel
theorem dX11_feed_22 : decode cX11_feed 22 = .ok (.invokevirtual 44, 3) := by decide +kernel
theorem dX11_feed_25 : decode cX11_feed 25 = .ok (.aload_n 0, 1) := by decide +kernel
theorem dX11_feed_26 : decode cX11_feed 26 = .ok (.iload_n 3, 1) := by decide +kernel
theorem dX11_feed_27 : decode cX11_feed 27 = .ok (.invokevirtual 44, 3) := by decide +kernel
theorem dX11_feed_30 : decode cX11_feed 30 = .ok (.aload_n 0, 1) := by decide +kernel
theorem dX11_feed_31 : decode cX11_feed 31 = .ok (.iload 4, 2) := by decide +kernel
theorem dX11_feed_33 : decode cX11_feed 33 = .ok (.invokevirtual 44, 3) := by decide +kernel
theorem dX11_feed_36 : decode cX11_feed 36 = .ok (.aload_n 0, 1) := by decide +kernel
theorem dX11_feed_37 : decode cX11_feed 37 = .ok (.iload 5, 2) := by decide +kernel
theorem dX11_feed_39 : decode cX11_feed 39 = .ok (.invokevirtual 44, 3) := by decide +kernel
theorem dX11_feed_42 : decode cX11_feed 42 = .ok (.iconst 1, 1) := by decide +kernel
theorem dX11_feed_43 : decode cX11_feed 43 = .ok (.ireturn, 1) := by decide +kernel
theorem dX11_putBytes_0 : decode cX11_putBytes 0 = .ok (.bipush 24, 2) := by decide +kernel
theorem dX11_putBytes_2 : decode cX11_putBytes 2 = .ok (.istore_n 2, 1) := by decide +kernel
theorem dX11_putBytes_3 : decode cX11_putBytes 3 = .ok (.iload_n 2, 1) := by decide +kernel
theorem dX11_putBytes_4 : decode cX11_putBytes 4 = .ok (.ifCond .lt 54, 3) := by decide +kernel
theorem dX11_putBytes_7 : decode cX11_putBytes 7 = .ok (.aload_n 0, 1) := by decide +kernel
theorem dX11_putBytes_8 : decode cX11_putBytes 8 = .ok (.getfield 41, 3) := by decide +kernel
theorem dX11_putBytes_11 : decode cX11_putBytes 11 = .ok (.ifCond .lt 41, 3) := by decide +kernel
theorem dX11_putBytes_14 : decode cX11_putBytes 14 = .ok (.aload_n 0, 1) := by decide +kernel
theorem dX11_putBytes_15 : decode cX11_putBytes 15 = .ok (.getfield 41, 3) := by decide +kernel
theorem dX11_putBytes_18 : decode cX11_putBytes 18 = .ok (.aload_n 0, 1) := by decide +kernel
theorem dX11_putBytes_19 : decode cX11_putBytes 19 = .ok (.getfield 9, 3) := by decide +kernel
theorem dX11_putBytes_22 : decode cX11_putBytes 22 = .ok (.arraylength, 1) := by decide +kernel
theorem dX11_putBytes_23 : decode cX11_putBytes 23 = .ok (.if_icmp .ge 29, 3) := by decide +kernel
theorem dX11_putBytes_26 : decode cX11_putBytes 26 = .ok (.aload_n 0, 1) := by decide +kernel
theorem dX11_putBytes_27 : decode cX11_putBytes 27 = .ok (.getfield 9, 3) := by decide +kernel
theorem dX11_putBytes_30 : decode cX11_putBytes 30 = .ok (.aload_n 0, 1) := by decide +kernel
theorem dX11_putBytes_31 : decode cX11_putBytes 31 = .ok (.getfield 41, 3) := by decide +kernel
theorem dX11_putBytes_34 : decode cX11_putBytes 34 = .ok (.iload_n 1, 1) := by decide +kernel
theorem dX11_putBytes_35 : decode cX11_putBytes 35 = .ok (.iload_n 2, 1) := by decide +kernel
theorem dX11_putBytes_36 : decode cX11_putBytes 36 = .ok (.iushr, 1) := by decide +kernel
theorem dX11_putBytes_37 : decode cX11_putBytes 37 = .ok (.sipush 255, 3) := by decide +kernel
theorem dX11_putBytes_40 : decode cX11_putBytes 40 = .ok (.iand, 1) := by decide +kernel
theorem dX11_putBytes_41 : decode cX11_putBytes 41 = .ok (.iastore, 1) := by decide +kernel
theorem dX11_putBytes_42 : decode cX11_putBytes 42 = .ok (.aload_n 0, 1) := by decide +kernel
theorem dX11_putBytes_43 : decode cX11_putBytes 43 = .ok (.dup, 1) := by decide +kernel
theorem dX11_putBytes_44 : decode cX11_putBytes 44 = .ok (.getfield 41, 3) := by decide +kernel
theorem dX11_putBytes_47 : decode cX11_putBytes 47 = .ok (.iconst 1, 1) := by decide +kernel
theorem dX11_putBytes_48 : decode cX11_putBytes 48 = .ok (.iadd, 1) := by decide +kernel
theorem dX11_putBytes_49 : decode cX11_putBytes 49 = .ok (.putfield 41, 3) := by decide +kernel
theorem dX11_putBytes_52 : decode cX11_putBytes 52 = .ok (.iinc 2 (-8), 3) := by decide +kernel
theorem dX11_putBytes_55 : decode cX11_putBytes 55 = .ok (.goto (-52), 3) := by decide +kernel
theorem dX11_putBytes_58 : decode cX11_putBytes 58 = .ok (.return_, 1) := by decide +kernel
theorem dX11_end_0 : decode cX11_end 0 = .ok (.iload_n 1, 1) := by decide +kernel
theorem dX11_end_1 : decode cX11_end 1 = .ok (.ifCond .lt 18, 3) := by decide +kernel
theorem dX11_end_4 : decode cX11_end 4 = .ok (.iload_n 1, 1) := by decide +kernel
theorem dX11_end_5 : decode cX11_end 5 = .ok (.aload_n 0, 1) := by decide +kernel
theorem dX11_end_6 : decode cX11_end 6 = .ok (.getfield 41, 3) := by decide +kernel
theorem dX11_end_9 : decode cX11_end 9 = .ok (.if_icmp .gt 10, 3) := by decide +kernel
theorem dX11_end_12 : decode cX11_end 12 = .ok (.iload_n 1, 1) := by decide +kernel
theorem dX11_end_13 : decode cX11_end 13 = .ok (.sipush 255, 3) := by decide +kernel
theorem dX11_end_16 : decode cX11_end 16 = .ok (.if_icmp .le 5, 3) := by decide +kernel
theorem dX11_end_19 : decode cX11_end 19 = .ok (.iconst 0, 1) := by decide +kernel
theorem dX11_end_20 : decode cX11_end 20 = .ok (.ireturn, 1) := by decide +kernel
theorem dX11_end_21 : decode cX11_end 21 = .ok (.aload_n 0, 1) := by decide +kernel
theorem dX11_end_22 : decode cX11_end 22 = .ok (.getfield 16, 3) := by decide +kernel
theorem dX11_end_25 : decode cX11_end 25 = .ok (.aload_n 0, 1) := by decide +kernel
theorem dX11_end_26 : decode cX11_end 26 = .ok (.getfield 9, 3) := by decide +kernel
theorem dX11_end_29 : decode cX11_end 29 = .ok (.iload_n 1, 1) := by decide +kernel
theorem dX11_end_30 : decode cX11_end 30 = .ok (.invokevirtual 48, 3) := by decide +kernel
theorem dX11_end_33 : decode cX11_end 33 = .ok (.aload_n 0, 1) := by decide +kernel
theorem dX11_end_34 : decode cX11_end 34 = .ok (.iconst 0, 1) := by decide +kernel
theorem dX11_end_35 : decode cX11_end 35 = .ok (.putfield 41, 3) := by decide +kernel
theorem dX11_end_38 : decode cX11_end 38 = .ok (.iconst 1, 1) := by decide +kernel
theorem dX11_end_39 : decode cX11_end 39 = .ok (.ireturn, 1) := by decide +kernel
theorem dX11_set_0 : decode cX11_set 0 = .ok (.dload_n 1, 1) := by decide +kernel
theorem dX11_set_1 : decode cX11_set 1 = .ok (.ldc2_w 52, 3) := by decide +kernel
theorem dX11_set_4 : decode cX11_set 4 = .ok (.dcmp .l, 1) := by decide +kernel
theorem dX11_set_5 : decode cX11_set 5 = .ok (.ifCond .le 28, 3) := by decide +kernel
theorem dX11_set_8 : decode cX11_set 8 = .ok (.dload_n 1, 1) := by decide +kernel
theorem dX11_set_9 : decode cX11_set 9 = .ok (.ldc2_w 54, 3) := by decide +kernel
theorem dX11_set_12 : decode cX11_set 12 = .ok (.dcmp .g, 1) := by decide +kernel
theorem dX11_set_13 : decode cX11_set 13 = .ok (.ifCond .ge 20, 3) := by decide +kernel
theorem dX11_set_16 : decode cX11_set 16 = .ok (.aload_n 0, 1) := by decide +kernel
theorem dX11_set_17 : decode cX11_set 17 = .ok (.dload_n 1, 1) := by decide +kernel
theorem dX11_set_18 : decode cX11_set 18 = .ok (.dconst 0, 1) := by decide +kernel
theorem dX11_set_19 : decode cX11_set 19 = .ok (.dcmp .l, 1) := by decide +kernel
theorem dX11_set_20 : decode cX11_set 20 = .ok (.ifCond .ne 7, 3) := by decide +kernel
theorem dX11_set_23 : decode cX11_set 23 = .ok (.dconst 0, 1) := by decide +kernel
theorem dX11_set_24 : decode cX11_set 24 = .ok (.goto 4, 3) := by decide +kernel
theorem dX11_set_27 : decode cX11_set 27 = .ok (.dload_n 1, 1) := by decide +kernel
theorem dX11_set_28 : decode cX11_set 28 = .ok (.putfield 56, 3) := by decide +kernel
theorem dX11_set_31 : decode cX11_set 31 = .ok (.iconst 1, 1) := by decide +kernel
theorem dX11_set_32 : decode cX11_set 32 = .ok (.ireturn, 1) := by decide +kernel
theorem dX11_set_33 : decode cX11_set 33 = .ok (.iconst 0, 1) := by decide +kernel
theorem dX11_set_34 : decode cX11_set 34 = .ok (.ireturn, 1) := by decide +kernel
theorem dX11_reckon_0 : decode cX11_reckon 0 = .ok (.iload_n 1, 1) := by decide +kernel
theorem dX11_reckon_1 : decode cX11_reckon 1 = .ok (.ifCond .lt 25, 3) := by decide +kernel
theorem dX11_reckon_4 : decode cX11_reckon 4 = .ok (.iload_n 1, 1) := by decide +kernel
theorem dX11_reckon_5 : decode cX11_reckon 5 = .ok (.iconst 3, 1) := by decide +kernel
theorem dX11_reckon_6 : decode cX11_reckon 6 = .ok (.if_icmp .gt 20, 3) := by decide +kernel
theorem dX11_reckon_9 : decode cX11_reckon 9 = .ok (.dload_n 2, 1) := by decide +kernel
theorem dX11_reckon_10 : decode cX11_reckon 10 = .ok (.dload_n 2, 1) := by decide +kernel
theorem dX11_reckon_11 : decode cX11_reckon 11 = .ok (.dcmp .l, 1) := by decide +kernel
theorem dX11_reckon_12 : decode cX11_reckon 12 = .ok (.ifCond .ne 14, 3) := by decide +kernel
theorem dX11_reckon_15 : decode cX11_reckon 15 = .ok (.iload_n 1, 1) := by decide +kernel
theorem dX11_reckon_16 : decode cX11_reckon 16 = .ok (.iconst 3, 1) := by decide +kernel
theorem dX11_reckon_17 : decode cX11_reckon 17 = .ok (.if_icmp .ne 11, 3) := by decide +kernel
theorem dX11_reckon_20 : decode cX11_reckon 20 = .ok (.dload_n 2, 1) := by decide +kernel
theorem dX11_reckon_21 : decode cX11_reckon 21 = .ok (.dconst 0, 1) := by decide +kernel
theorem dX11_reckon_22 : decode cX11_reckon 22 = .ok (.dcmp .l, 1) := by decide +kernel
theorem dX11_reckon_23 : decode cX11_reckon 23 = .ok (.ifCond .ne 5, 3) := by decide +kernel
theorem dX11_reckon_26 : decode cX11_reckon 26 = .ok (.iconst 0, 1) := by decide +kernel
theorem dX11_reckon_27 : decode cX11_reckon 27 = .ok (.ireturn, 1) := by decide +kernel
theorem dX11_reckon_28 : decode cX11_reckon 28 = .ok (.dload_n 2, 1) := by decide +kernel
theorem dX11_reckon_29 : decode cX11_reckon 29 = .ok (.ldc2_w 60, 3) := by decide +kernel
theorem dX11_reckon_32 : decode cX11_reckon 32 = .ok (.dcmp .l, 1) := by decide +kernel
theorem dX11_reckon_33 : decode cX11_reckon 33 = .ok (.ifCond .gt 11, 3) := by decide +kernel
theorem dX11_reckon_36 : decode cX11_reckon 36 = .ok (.dload_n 2, 1) := by decide +kernel
theorem dX11_reckon_37 : decode cX11_reckon 37 = .ok (.ldc2_w 62, 3) := by decide +kernel
theorem dX11_reckon_40 : decode cX11_reckon 40 = .ok (.dcmp .g, 1) := by decide +kernel
theorem dX11_reckon_41 : decode cX11_reckon 41 = .ok (.ifCond .ge 7, 3) := by decide +kernel
theorem dX11_reckon_44 : decode cX11_reckon 44 = .ok (.iconst 1, 1) := by decide +kernel
theorem dX11_reckon_45 : decode cX11_reckon 45 = .ok (.goto 4, 3) := by decide +kernel
theorem dX11_reckon_48 : decode cX11_reckon 48 = .ok (.iconst 0, 1) := by decide +kernel
theorem dX11_reckon_49 : decode cX11_reckon 49 = .ok (.istore 4, 2) := by decide +kernel
theorem dX11_reckon_51 : decode cX11_reckon 51 = .ok (.iload 4, 2) := by decide +kernel
theorem dX11_reckon_53 : decode cX11_reckon 53 = .ok (.ifCond .eq 10, 3) := by decide +kernel
theorem dX11_reckon_56 : decode cX11_reckon 56 = .ok (.iload_n 1, 1) := by decide +kernel
theorem dX11_reckon_57 : decode cX11_reckon 57 = .ok (.iconst 3, 1) := by decide +kernel
theorem dX11_reckon_58 : decode cX11_reckon 58 = .ok (.if_icmp .eq 5, 3) := by decide +kernel
theorem dX11_reckon_61 : decode cX11_reckon 61 = .ok (.iconst 0, 1) := by decide +kernel
theorem dX11_reckon_62 : decode cX11_reckon 62 = .ok (.ireturn, 1) := by decide +kernel
theorem dX11_reckon_63 : decode cX11_reckon 63 = .ok (.iload_n 1, 1) := by decide +kernel
theorem dX11_reckon_64 : decode cX11_reckon 64 = .ok (.tableswitch 61 0 2 #[28, 39, 50], 28) := by decide +kernel
theorem dX11_reckon_92 : decode cX11_reckon 92 = .ok (.aload_n 0, 1) := by decide +kernel
theorem dX11_reckon_93 : decode cX11_reckon 93 = .ok (.aload_n 0, 1) := by decide +kernel
theorem dX11_reckon_94 : decode cX11_reckon 94 = .ok (.getfield 56, 3) := by decide +kernel
theorem dX11_reckon_97 : decode cX11_reckon 97 = .ok (.dload_n 2, 1) := by decide +kernel
theorem dX11_reckon_98 : decode cX11_reckon 98 = .ok (.dadd, 1) := by decide +kernel
theorem dX11_reckon_99 : decode cX11_reckon 99 = .ok (.invokevirtual 64, 3) := by decide +kernel
theorem dX11_reckon_102 : decode cX11_reckon 102 = .ok (.ireturn, 1) := by decide +kernel
theorem dX11_reckon_103 : decode cX11_reckon 103 = .ok (.aload_n 0, 1) := by decide +kernel
theorem dX11_reckon_104 : decode cX11_reckon 104 = .ok (.aload_n 0, 1) := by decide +kernel
theorem dX11_reckon_105 : decode cX11_reckon 105 = .ok (.getfield 56, 3) := by decide +kernel
theorem dX11_reckon_108 : decode cX11_reckon 108 = .ok (.dload_n 2, 1) := by decide +kernel
theorem dX11_reckon_109 : decode cX11_reckon 109 = .ok (.dsub, 1) := by decide +kernel
theorem dX11_reckon_110 : decode cX11_reckon 110 = .ok (.invokevirtual 64, 3) := by decide +kernel
theorem dX11_reckon_113 : decode cX11_reckon 113 = .ok (.ireturn, 1) := by decide +kernel
theorem dX11_reckon_114 : decode cX11_reckon 114 = .ok (.aload_n 0, 1) := by decide +kernel
theorem dX11_reckon_115 : decode cX11_reckon 115 = .ok (.aload_n 0, 1) := by decide +kernel
theorem dX11_reckon_116 : decode cX11_reckon 116 = .ok (.getfield 56, 3) := by decide +kernel
theorem dX11_reckon_119 : decode cX11_reckon 119 = .ok (.dload_n 2, 1) := by decide +kernel
theorem dX11_reckon_120 : decode cX11_reckon 120 = .ok (.dmul, 1) := by decide +kernel
theorem dX11_reckon_121 : decode cX11_reckon 121 = .ok (.invokevirtual 64, 3) := by decide +kernel
theorem dX11_reckon_124 : decode cX11_reckon 124 = .ok (.ireturn, 1) := by decide +kernel
theorem dX11_reckon_125 : decode cX11_reckon 125 = .ok (.aload_n 0, 1) := by decide +kernel
theorem dX11_reckon_126 : decode cX11_reckon 126 = .ok (.aload_n 0, 1) := by decide +kernel
theorem dX11_reckon_127 : decode cX11_reckon 127 = .ok (.getfield 56, 3) := by decide +kernel
theorem dX11_reckon_130 : decode cX11_reckon 130 = .ok (.dload_n 2, 1) := by decide +kernel
theorem dX11_reckon_131 : decode cX11_reckon 131 = .ok (.ddiv, 1) := by decide +kernel
theorem dX11_reckon_132 : decode cX11_reckon 132 = .ok (.invokevirtual 64, 3) := by decide +kernel
theorem dX11_reckon_135 : decode cX11_reckon 135 = .ok (.ireturn, 1) := by decide +kernel
theorem dX11_format_0 : decode cX11_format 0 = .ok (.aload_n 0, 1) := by decide +kernel
theorem dX11_format_1 : decode cX11_format 1 = .ok (.getfield 16, 3) := by decide +kernel
theorem dX11_format_4 : decode cX11_format 4 = .ok (.aload_n 0, 1) := by decide +kernel
theorem dX11_format_5 : decode cX11_format 5 = .ok (.getfield 34, 3) := by decide +kernel
theorem dX11_format_8 : decode cX11_format 8 = .ok (.invokestatic 68, 3) := by decide +kernel
theorem dX11_format_11 : decode cX11_format 11 = .ok (.aload_n 0, 1) := by decide +kernel
theorem dX11_format_12 : decode cX11_format 12 = .ok (.aload_n 0, 1) := by decide +kernel
theorem dX11_format_13 : decode cX11_format 13 = .ok (.getfield 34, 3) := by decide +kernel
theorem dX11_format_16 : decode cX11_format 16 = .ok (.invokestatic 74, 3) := by decide +kernel
theorem dX11_format_19 : decode cX11_format 19 = .ok (.putfield 37, 3) := by decide +kernel
theorem dX11_format_22 : decode cX11_format 22 = .ok (.aload_n 0, 1) := by decide +kernel
theorem dX11_format_23 : decode cX11_format 23 = .ok (.getfield 37, 3) := by decide +kernel
theorem dX11_format_26 : decode cX11_format 26 = .ok (.iconst (-1), 1) := by decide +kernel
theorem dX11_format_27 : decode cX11_format 27 = .ok (.if_icmp .eq 13, 3) := by decide +kernel
theorem dX11_format_30 : decode cX11_format 30 = .ok (.new 80, 3) := by decide +kernel
theorem dX11_format_33 : decode cX11_format 33 = .ok (.dup, 1) := by decide +kernel
theorem dX11_format_34 : decode cX11_format 34 = .ok (.ldc 82, 2) := by decide +kernel
theorem dX11_format_36 : decode cX11_format 36 = .ok (.invokespecial 84, 3) := by decide +kernel
theorem dX11_format_39 : decode cX11_format 39 = .ok (.athrow, 1) := by decide +kernel
theorem dX11_format_40 : decode cX11_format 40 = .ok (.aload_n 0, 1) := by decide +kernel
theorem dX11_format_41 : decode cX11_format 41 = .ok (.getfield 34, 3) := by decide +kernel
theorem dX11_format_44 : decode cX11_format 44 = .ok (.astore_n 1, 1) := by decide +kernel
theorem dX11_format_45 : decode cX11_format 45 = .ok (.aload_n 0, 1) := by decide +kernel
theorem dX11_format_46 : decode cX11_format 46 = .ok (.aload_n 0, 1) := by decide +kernel
theorem dX11_format_47 : decode cX11_format 47 = .ok (.getfield 30, 3) := by decide +kernel
theorem dX11_format_50 : decode cX11_format 50 = .ok (.putfield 34, 3) := by decide +kernel
theorem dX11_format_53 : decode cX11_format 53 = .ok (.aload_n 0, 1) := by decide +kernel
theorem dX11_format_54 : decode cX11_format 54 = .ok (.aload_n 1, 1) := by decide +kernel
theorem dX11_format_55 : decode cX11_format 55 = .ok (.putfield 30, 3) := by decide +kernel
theorem dX11_format_58 : decode cX11_format 58 = .ok (.aload_n 0, 1) := by decide +kernel
theorem dX11_format_59 : decode cX11_format 59 = .ok (.iconst 1, 1) := by decide +kernel
theorem dX11_format_60 : decode cX11_format 60 = .ok (.putfield 87, 3) := by decide +kernel
theorem dX11_format_63 : decode cX11_format 63 = .ok (.aload_n 0, 1) := by decide +kernel
theorem dX11_format_64 : decode cX11_format 64 = .ok (.getfield 30, 3) := by decide +kernel
theorem dX11_format_67 : decode cX11_format 67 = .ok (.invokevirtual 91, 3) := by decide +kernel
theorem dX11_format_70 : decode cX11_format 70 = .ok (.ireturn, 1) := by decide +kernel
theorem dX11_illAt_0 : decode cX11_illAt 0 = .ok (.aload_n 0, 1) := by decide +kernel
theorem dX11_illAt_1 : decode cX11_illAt 1 = .ok (.getfield 37, 3) := by decide +kernel
theorem dX11_illAt_4 : decode cX11_illAt 4 = .ok (.ireturn, 1) := by decide +kernel
theorem dX11_show_0 : decode cX11_show 0 = .ok (.aload_n 0, 1) := by decide +kernel
theorem dX11_show_1 : decode cX11_show 1 = .ok (.getfield 87, 3) := by decide +kernel
theorem dX11_show_4 : decode cX11_show 4 = .ok (.ifCond .ne 13, 3) := by decide +kernel
theorem dX11_show_7 : decode cX11_show 7 = .ok (.new 95, 3) := by decide +kernel
theorem dX11_show_10 : decode cX11_show 10 = .ok (.dup, 1) := by decide +kernel
theorem dX11_show_11 : decode cX11_show 11 = .ok (.ldc 97, 2) := by decide +kernel
theorem dX11_show_13 : decode cX11_show 13 = .ok (.invokespecial 99, 3) := by decide +kernel
theorem dX11_show_16 : decode cX11_show 16 = .ok (.athrow, 1) := by decide +kernel
theorem dX11_show_17 : decode cX11_show 17 = .ok (.aload_n 0, 1) := by decide +kernel
theorem dX11_show_18 : decode cX11_show 18 = .ok (.getfield 23, 3) := by decide +kernel
theorem dX11_show_21 : decode cX11_show 21 = .ok (.aload_n 0, 1) := by decide +kernel
theorem dX11_show_22 : decode cX11_show 22 = .ok (.getfield 30, 3) := by decide +kernel
theorem dX11_show_25 : decode cX11_show 25 = .ok (.aload_n 0, 1) := by decide +kernel
theorem dX11_show_26 : decode cX11_show 26 = .ok (.getfield 56, 3) := by decide +kernel
theorem dX11_show_29 : decode cX11_show 29 = .ok (.invokevirtual 100, 3) := by decide +kernel
theorem dX11_show_32 : decode cX11_show 32 = .ok (.ireturn, 1) := by decide +kernel
theorem dX11_showText_0 : decode cX11_showText 0 = .ok (.aload_n 0, 1) := by decide +kernel
theorem dX11_showText_1 : decode cX11_showText 1 = .ok (.getfield 87, 3) := by decide +kernel
theorem dX11_showText_4 : decode cX11_showText 4 = .ok (.ifCond .ne 13, 3) := by decide +kernel
theorem dX11_showText_7 : decode cX11_showText 7 = .ok (.new 95, 3) := by decide +kernel
theorem dX11_showText_10 : decode cX11_showText 10 = .ok (.dup, 1) := by decide +kernel
theorem dX11_showText_11 : decode cX11_showText 11 = .ok (.ldc 97, 2) := by decide +kernel
theorem dX11_showText_13 : decode cX11_showText 13 = .ok (.invokespecial 99, 3) := by decide +kernel
theorem dX11_showText_16 : decode cX11_showText 16 = .ok (.athrow, 1) := by decide +kernel
theorem dX11_showText_17 : decode cX11_showText 17 = .ok (.aload_n 0, 1) := by decide +kernel
theorem dX11_showText_18 : decode cX11_showText 18 = .ok (.getfield 23, 3) := by decide +kernel
theorem dX11_showText_21 : decode cX11_showText 21 = .ok (.aload_n 0, 1) := by decide +kernel
theorem dX11_showText_22 : decode cX11_showText 22 = .ok (.getfield 30, 3) := by decide +kernel
theorem dX11_showText_25 : decode cX11_showText 25 = .ok (.aload_n 0, 1) := by decide +kernel
theorem dX11_showText_26 : decode cX11_showText 26 = .ok (.getfield 16, 3) := by decide +kernel
theorem dX11_showText_29 : decode cX11_showText 29 = .ok (.invokevirtual 104, 3) := by decide +kernel
theorem dX11_showText_32 : decode cX11_showText 32 = .ok (.ireturn, 1) := by decide +kernel
theorem dX11_output_0 : decode cX11_output 0 = .ok (.aload_n 0, 1) := by decide +kernel
theorem dX11_output_1 : decode cX11_output 1 = .ok (.getfield 23, 3) := by decide +kernel
theorem dX11_output_4 : decode cX11_output 4 = .ok (.iload_n 1, 1) := by decide +kernel
theorem dX11_output_5 : decode cX11_output 5 = .ok (.invokevirtual 108, 3) := by decide +kernel
theorem dX11_output_8 : decode cX11_output 8 = .ok (.ireturn, 1) := by decide +kernel
theorem dJ11_isValidCodePoint_9a6ad_0 : decode cJ11_isValidCodePoint_9a6ad 0 = .ok (.iload_n 0, 1) := by decide +kernel
theorem dJ11_isValidCodePoint_9a6ad_1 : decode cJ11_isValidCodePoint_9a6ad 1 = .ok (.bipush 16, 2) := by decide +kernel
theorem dJ11_isValidCodePoint_9a6ad_3 : decode cJ11_isValidCodePoint_9a6ad 3 = .ok (.iushr, 1) := by decide +kernel
theorem dJ11_isValidCodePoint_9a6ad_4 : decode cJ11_isValidCodePoint_9a6ad 4 = .ok (.istore_n 1, 1) := by decide +kernel
theorem dJ11_isValidCodePoint_9a6ad_5 : decode cJ11_isValidCodePoint_9a6ad 5 = .ok (.iload_n 1, 1) := by decide +kernel
theorem dJ11_isValidCodePoint_9a6ad_6 : decode cJ11_isValidCodePoint_9a6ad 6 = .ok (.bipush 17, 2) := by decide +kernel
theorem dJ11_isValidCodePoint_9a6ad_8 : decode cJ11_isValidCodePoint_9a6ad 8 = .ok (.if_icmp .ge 7, 3) := by decide +kernel
theorem dJ11_isValidCodePoint_9a6ad_11 : decode cJ11_isValidCodePoint_9a6ad 11 = .ok (.iconst 1, 1) := by decide +kernel
theorem dJ11_isValidCodePoint_9a6ad_12 : decode cJ11_isValidCodePoint_9a6ad 12 = .ok (.goto 4, 3) := by decide +kernel
theorem dJ11_isValidCodePoint_9a6ad_15 : decode cJ11_isValidCodePoint_9a6ad 15 = .ok (.iconst 0, 1) := by decide +kernel
theorem dJ11_isValidCodePoint_9a6ad_16 : decode cJ11_isValidCodePoint_9a6ad 16 = .ok (.ireturn, 1) := by decide +kernel
theorem dJ11_highSurrogate_5068e_0 : decode cJ11_highSurrogate_5068e 0 = .ok (.iload_n 0, 1) := by decide +kernel
theorem dJ11_highSurrogate_5068e_1 : decode cJ11_highSurrogate_5068e 1 = .ok (.bipush 10, 2) := by decide +kernel
theorem dJ11_highSurrogate_5068e_3 : decode cJ11_highSurrogate_5068e 3 = .ok (.iushr, 1) := by decide +kernel
theorem dJ11_highSurrogate_5068e_4 : decode cJ11_highSurrogate_5068e 4 = .ok (.ldc 110, 2) := by decide +kernel
theorem dJ11_highSurrogate_5068e_6 : decode cJ11_highSurrogate_5068e 6 = .ok (.iadd, 1) := by decide +kernel
theorem dJ11_highSurrogate_5068e_7 : decode cJ11_highSurrogate_5068e 7 = .ok (.i2c, 1) := by decide +kernel
theorem dJ11_highSurrogate_5068e_8 : decode cJ11_highSurrogate_5068e 8 = .ok (.ireturn, 1) := by decide +kernel
theorem dJ11_lowSurrogate_5068e_0 : decode cJ11_lowSurrogate_5068e 0 = .ok (.iload_n 0, 1) := by decide +kernel
theorem dJ11_lowSurrogate_5068e_1 : decode cJ11_lowSurrogate_5068e 1 = .ok (.sipush 1023, 3) := by decide +kernel
theorem dJ11_lowSurrogate_5068e_4 : decode cJ11_lowSurrogate_5068e 4 = .ok (.iand, 1) := by decide +kernel
theorem dJ11_lowSurrogate_5068e_5 : decode cJ11_lowSurrogate_5068e 5 = .ok (.ldc 76, 2) := by decide +kernel
theorem dJ11_lowSurrogate_5068e_7 : decode cJ11_lowSurrogate_5068e 7 = .ok (.iadd, 1) := by decide +kernel
theorem dJ11_lowSurrogate_5068e_8 : decode cJ11_lowSurrogate_5068e 8 = .ok (.i2c, 1) := by decide +kernel
theorem dJ11_lowSurrogate_5068e_9 : decode cJ11_lowSurrogate_5068e 9 = .ok (.ireturn, 1) := by decide +kernel
theorem dJ9_floorDiv_7cf53_0 : decode cJ9_floorDiv_7cf53 0 = .ok (.iload_n 0, 1) := by decide +kernel
theorem dJ9_floorDiv_7cf53_1 : decode cJ9_floorDiv_7cf53 1 = .ok (.iload_n 1, 1) := by decide +kernel
theorem dJ9_floorDiv_7cf53_2 : decode cJ9_floorDiv_7cf53 2 = .ok (.idiv, 1) := by decide +kernel
theorem dJ9_floorDiv_7cf53_3 : decode cJ9_floorDiv_7cf53 3 = .ok (.istore_n 2, 1) := by decide +kernel
theorem dJ9_floorDiv_7cf53_4 : decode cJ9_floorDiv_7cf53 4 = .ok (.iload_n 0, 1) := by decide +kernel
theorem dJ9_floorDiv_7cf53_5 : decode cJ9_floorDiv_7cf53 5 = .ok (.iload_n 1, 1) := by decide +kernel
theorem dJ9_floorDiv_7cf53_6 : decode cJ9_floorDiv_7cf53 6 = .ok (.ixor, 1) := by decide +kernel
theorem dJ9_floorDiv_7cf53_7 : decode cJ9_floorDiv_7cf53 7 = .ok (.ifCond .ge 14, 3) := by decide +kernel
theorem dJ9_floorDiv_7cf53_10 : decode cJ9_floorDiv_7cf53 10 = .ok (.iload_n 2, 1) := by decide +kernel
theorem dJ9_floorDiv_7cf53_11 : decode cJ9_floorDiv_7cf53 11 = .ok (.iload_n 1, 1) := by decide +kernel
theorem dJ9_floorDiv_7cf53_12 : decode cJ9_floorDiv_7cf53 12 = .ok (.imul, 1) := by decide +kernel
theorem dJ9_floorDiv_7cf53_13 : decode cJ9_floorDiv_7cf53 13 = .ok (.iload_n 0, 1) := by decide +kernel
theorem dJ9_floorDiv_7cf53_14 : decode cJ9_floorDiv_7cf53 14 = .ok (.if_icmp .eq 7, 3) := by decide +kernel
theorem dJ9_floorDiv_7cf53_17 : decode cJ9_floorDiv_7cf53 17 = .ok (.iload_n 2, 1) := by decide +kernel
theorem dJ9_floorDiv_7cf53_18 : decode cJ9_floorDiv_7cf53 18 = .ok (.iconst 1, 1) := by decide +kernel
theorem dJ9_floorDiv_7cf53_19 : decode cJ9_floorDiv_7cf53 19 = .ok (.isub, 1) := by decide +kernel
theorem dJ9_floorDiv_7cf53_20 : decode cJ9_floorDiv_7cf53 20 = .ok (.ireturn, 1) := by decide +kernel
theorem dJ9_floorDiv_7cf53_21 : decode cJ9_floorDiv_7cf53 21 = .ok (.iload_n 2, 1) := by decide +kernel
theorem dJ9_floorDiv_7cf53_22 : decode cJ9_floorDiv_7cf53 22 = .ok (.ireturn, 1) := by decide +kernel
theorem dJ9_abs_0f7a4_0 : decode cJ9_abs_0f7a4 0 = .ok (.iload_n 0, 1) := by decide +kernel
theorem dJ9_abs_0f7a4_1 : decode cJ9_abs_0f7a4 1 = .ok (.ifCond .ge 8, 3) := by decide +kernel
theorem dJ9_abs_0f7a4_4 : decode cJ9_abs_0f7a4 4 = .ok (.iload_n 0, 1) := by decide +kernel
theorem dJ9_abs_0f7a4_5 : decode cJ9_abs_0f7a4 5 = .ok (.ineg, 1) := by decide +kernel
theorem dJ9_abs_0f7a4_6 : decode cJ9_abs_0f7a4 6 = .ok (.goto 4, 3) := by decide +kernel
theorem dJ9_abs_0f7a4_9 : decode cJ9_abs_0f7a4 9 = .ok (.iload_n 0, 1) := by decide +kernel
theorem dJ9_abs_0f7a4_10 : decode cJ9_abs_0f7a4 10 = .ok (.ireturn, 1) := by decide +kernel
theorem dJ9_max_7cf53_0 : decode cJ9_max_7cf53 0 = .ok (.iload_n 0, 1) := by decide +kernel
theorem dJ9_max_7cf53_1 : decode cJ9_max_7cf53 1 = .ok (.iload_n 1, 1) := by decide +kernel
theorem dJ9_max_7cf53_2 : decode cJ9_max_7cf53 2 = .ok (.if_icmp .lt 7, 3) := by decide +kernel
theorem dJ9_max_7cf53_5 : decode cJ9_max_7cf53 5 = .ok (.iload_n 0, 1) := by decide +kernel
theorem dJ9_max_7cf53_6 : decode cJ9_max_7cf53 6 = .ok (.goto 4, 3) := by decide +kernel
theorem dJ9_max_7cf53_9 : decode cJ9_max_7cf53 9 = .ok (.iload_n 1, 1) := by decide +kernel
theorem dJ9_max_7cf53_10 : decode cJ9_max_7cf53 10 = .ok (.ireturn, 1) := by decide +kernel
theorem dJ9_min_7cf53_0 : decode cJ9_min_7cf53 0 = .ok (.iload_n 0, 1) := by decide +kernel
theorem dJ9_min_7cf53_1 : decode cJ9_min_7cf53 1 = .ok (.iload_n 1, 1) := by decide +kernel
theorem dJ9_min_7cf53_2 : decode cJ9_min_7cf53 2 = .ok (.if_icmp .gt 7, 3) := by decide +kernel
theorem dJ9_min_7cf53_5 : decode cJ9_min_7cf53 5 = .ok (.iload_n 0, 1) := by decide +kernel
theorem dJ9_min_7cf53_6 : decode cJ9_min_7cf53 6 = .ok (.goto 4, 3) := by decide +kernel
theorem dJ9_min_7cf53_9 : decode cJ9_min_7cf53 9 = .ok (.iload_n 1, 1) := by decide +kernel
theorem dJ9_min_7cf53_10 : decode cJ9_min_7cf53 10 = .ok (.ireturn, 1) := by decide +kernel
theorem dJ0_length_8abf5_0 : decode cJ0_length_8abf5 0 = .ok (.aload_n 0, 1) := by decide +kernel
theorem dJ0_length_8abf5_1 : decode cJ0_length_8abf5 1 = .ok (.getfield 9, 3) := by decide +kernel
theorem dJ0_length_8abf5_4 : decode cJ0_length_8abf5 4 = .ok (.arraylength, 1) := by decide +kernel
theorem dJ0_length_8abf5_5 : decode cJ0_length_8abf5 5 = .ok (.aload_n 0, 1) := by decide +kernel
theorem dJ0_length_8abf5_6 : decode cJ0_length_8abf5 6 = .ok (.invokevirtual 335, 3) := by decide +kernel
theorem dJ0_length_8abf5_9 : decode cJ0_length_8abf5 9 = .ok (.ishr, 1) := by decide +kernel
theorem dJ0_length_8abf5_10 : decode cJ0_length_8abf5 10 = .ok (.ireturn, 1) := by decide +kernel
theorem dJ0_charAt_5068e_0 : decode cJ0_charAt_5068e 0 = .ok (.aload_n 0, 1) := by decide +kernel
theorem dJ0_charAt_5068e_1 : decode cJ0_charAt_5068e 1 = .ok (.invokevirtual 492, 3) := by decide +kernel
theorem dJ0_charAt_5068e_4 : decode cJ0_charAt_5068e 4 = .ok (.ifCond .eq 12, 3) := by decide +kernel
theorem dJ0_charAt_5068e_7 : decode cJ0_charAt_5068e 7 = .ok (.aload_n 0, 1) := by decide +kernel
theorem dJ0_charAt_5068e_8 : decode cJ0_charAt_5068e 8 = .ok (.getfield 9, 3) := by decide +kernel
theorem dJ0_charAt_5068e_11 : decode cJ0_charAt_5068e 11 = .ok (.iload_n 1, 1) := by decide +kernel
theorem dJ0_charAt_5068e_12 : decode cJ0_charAt_5068e 12 = .ok (.invokestatic 495, 3) := by decide +kernel
theorem dJ0_charAt_5068e_15 : decode cJ0_charAt_5068e 15 = .ok (.ireturn, 1) := by decide +kernel
theorem dJ0_charAt_5068e_16 : decode cJ0_charAt_5068e 16 = .ok (.aload_n 0, 1) := by decide +kernel
theorem dJ0_charAt_5068e_17 : decode cJ0_charAt_5068e 17 = .ok (.getfield 9, 3) := by decide +kernel
theorem dJ0_charAt_5068e_20 : decode cJ0_charAt_5068e 20 = .ok (.iload_n 1, 1) := by decide +kernel
theorem dJ0_charAt_5068e_21 : decode cJ0_charAt_5068e 21 = .ok (.invokestatic 498, 3) := by decide +kernel
theorem dJ0_charAt_5068e_24 : decode cJ0_charAt_5068e 24 = .ok (.ireturn, 1) := by decide +kernel
theorem dJ0_indexOf_0f7a4_0 : decode cJ0_indexOf_0f7a4 0 = .ok (.aload_n 0, 1) := by decide +kernel
theorem dJ0_indexOf_0f7a4_1 : decode cJ0_indexOf_0f7a4 1 = .ok (.iload_n 1, 1) := by decide +kernel
theorem dJ0_indexOf_0f7a4_2 : decode cJ0_indexOf_0f7a4 2 = .ok (.iconst 0, 1) := by decide +kernel
theorem dJ0_indexOf_0f7a4_3 : decode cJ0_indexOf_0f7a4 3 = .ok (.invokevirtual 633, 3) := by decide +kernel
theorem dJ0_indexOf_0f7a4_6 : decode cJ0_indexOf_0f7a4 6 = .ok (.ireturn, 1) := by decide +kernel
theorem dJ0_indexOf_7cf53_0 : decode cJ0_indexOf_7cf53 0 = .ok (.aload_n 0, 1) := by decide +kernel
theorem dJ0_indexOf_7cf53_1 : decode cJ0_indexOf_7cf53 1 = .ok (.invokevirtual 492, 3) := by decide +kernel
theorem dJ0_indexOf_7cf53_4 : decode cJ0_indexOf_7cf53 4 = .ok (.ifCond .eq 19, 3) := by decide +kernel
theorem dJ0_indexOf_7cf53_7 : decode cJ0_indexOf_7cf53 7 = .ok (.aload_n 0, 1) := by decide +kernel
theorem dJ0_indexOf_7cf53_8 : decode cJ0_indexOf_7cf53 8 = .ok (.getfield 9, 3) := by decide +kernel
theorem dJ0_indexOf_7cf53_11 : decode cJ0_indexOf_7cf53 11 = .ok (.iload_n 1, 1) := by decide +kernel
theorem dJ0_indexOf_7cf53_12 : decode cJ0_indexOf_7cf53 12 = .ok (.iload_n 2, 1) := by decide +kernel
theorem dJ0_indexOf_7cf53_13 : decode cJ0_indexOf_7cf53 13 = .ok (.aload_n 0, 1) := by decide +kernel
theorem dJ0_indexOf_7cf53_14 : decode cJ0_indexOf_7cf53 14 = .ok (.invokevirtual 505, 3) := by decide +kernel
theorem dJ0_indexOf_7cf53_17 : decode cJ0_indexOf_7cf53 17 = .ok (.invokestatic 637, 3) := by decide +kernel
theorem dJ0_indexOf_7cf53_20 : decode cJ0_indexOf_7cf53 20 = .ok (.goto 16, 3) := by decide +kernel
theorem dJ0_indexOf_7cf53_23 : decode cJ0_indexOf_7cf53 23 = .ok (.aload_n 0, 1) := by decide +kernel
theorem dJ0_indexOf_7cf53_24 : decode cJ0_indexOf_7cf53 24 = .ok (.getfield 9, 3) := by decide +kernel
theorem dJ0_indexOf_7cf53_27 : decode cJ0_indexOf_7cf53 27 = .ok (.iload_n 1, 1) := by decide +kernel
theorem dJ0_indexOf_7cf53_28 : decode cJ0_indexOf_7cf53 28 = .ok (.iload_n 2, 1) := by decide +kernel
theorem dJ0_indexOf_7cf53_29 : decode cJ0_indexOf_7cf53 29 = .ok (.aload_n 0, 1) := by decide +kernel
theorem dJ0_indexOf_7cf53_30 : decode cJ0_indexOf_7cf53 30 = .ok (.invokevirtual 505, 3) := by decide +kernel
theorem dJ0_indexOf_7cf53_33 : decode cJ0_indexOf_7cf53 33 = .ok (.invokestatic 640, 3) := by decide +kernel
theorem dJ0_indexOf_7cf53_36 : decode cJ0_indexOf_7cf53 36 = .ok (.ireturn, 1) := by decide +kernel
theorem dJ0_coder_7d493_0 : decode cJ0_coder_7d493 0 = .ok (.getstatic 38, 3) := by decide +kernel
theorem dJ0_coder_7d493_3 : decode cJ0_coder_7d493 3 = .ok (.ifCond .eq 10, 3) := by decide +kernel
theorem dJ0_coder_7d493_6 : decode cJ0_coder_7d493 6 = .ok (.aload_n 0, 1) := by decide +kernel
theorem dJ0_coder_7d493_7 : decode cJ0_coder_7d493 7 = .ok (.getfield 15, 3) := by decide +kernel
theorem dJ0_coder_7d493_10 : decode cJ0_coder_7d493 10 = .ok (.goto 4, 3) := by decide +kernel
theorem dJ0_coder_7d493_13 : decode cJ0_coder_7d493 13 = .ok (.iconst 1, 1) := by decide +kernel
theorem dJ0_coder_7d493_14 : decode cJ0_coder_7d493 14 = .ok (.ireturn, 1) := by decide +kernel
theorem dJ0_isLatin1_aae02_0 : decode cJ0_isLatin1_aae02 0 = .ok (.getstatic 38, 3) := by decide +kernel
theorem dJ0_isLatin1_aae02_3 : decode cJ0_isLatin1_aae02 3 = .ok (.ifCond .eq 14, 3) := by decide +kernel
theorem dJ0_isLatin1_aae02_6 : decode cJ0_isLatin1_aae02 6 = .ok (.aload_n 0, 1) := by decide +kernel
theorem dJ0_isLatin1_aae02_7 : decode cJ0_isLatin1_aae02 7 = .ok (.getfield 15, 3) := by decide +kernel
theorem dJ0_isLatin1_aae02_10 : decode cJ0_isLatin1_aae02 10 = .ok (.ifCond .ne 7, 3) := by decide +kernel
theorem dJ0_isLatin1_aae02_13 : decode cJ0_isLatin1_aae02 13 = .ok (.iconst 1, 1) := by decide +kernel
theorem dJ0_isLatin1_aae02_14 : decode cJ0_isLatin1_aae02 14 = .ok (.goto 4, 3) := by decide +kernel
theorem dJ0_isLatin1_aae02_17 : decode cJ0_isLatin1_aae02 17 = .ok (.iconst 0, 1) := by decide +kernel
theorem dJ0_isLatin1_aae02_18 : decode cJ0_isLatin1_aae02 18 = .ok (.ireturn, 1) := by decide +kernel
theorem dJ0_checkIndex_df160_0 : decode cJ0_checkIndex_df160 0 = .ok (.iload_n 0, 1) := by decide +kernel
theorem dJ0_checkIndex_df160_1 : decode cJ0_checkIndex_df160 1 = .ok (.iload_n 1, 1) := by decide +kernel
theorem dJ0_checkIndex_df160_2 : decode cJ0_checkIndex_df160 2 = .ok (.getstatic 1053, 3) := by decide +kernel
theorem dJ0_checkIndex_df160_5 : decode cJ0_checkIndex_df160 5 = .ok (.invokestatic 1059, 3) := by decide +kernel
theorem dJ0_checkIndex_df160_8 : decode cJ0_checkIndex_df160 8 = .ok (.pop, 1) := by decide +kernel
theorem dJ0_checkIndex_df160_9 : decode cJ0_checkIndex_df160 9 = .ok (.return_, 1) := by decide +kernel
theorem dJ0_checkBoundsBeginEnd_23922_0 : decode cJ0_checkBoundsBeginEnd_23922 0 = .ok (.iload_n 0, 1) := by decide +kernel
theorem dJ0_checkBoundsBeginEnd_23922_1 : decode cJ0_checkBoundsBeginEnd_23922 1 = .ok (.iload_n 1, 1) := by decide +kernel
theorem dJ0_checkBoundsBeginEnd_23922_2 : decode cJ0_checkBoundsBeginEnd_23922 2 = .ok (.iload_n 2, 1) := by decide +kernel
theorem dJ0_checkBoundsBeginEnd_23922_3 : decode cJ0_checkBoundsBeginEnd_23922 3 = .ok (.getstatic 1053, 3) := by decide +kernel
theorem dJ0_checkBoundsBeginEnd_23922_6 : decode cJ0_checkBoundsBeginEnd_23922 6 = .ok (.invokestatic 1062, 3) := by decide +kernel
theorem dJ0_checkBoundsBeginEnd_23922_9 : decode cJ0_checkBoundsBeginEnd_23922 9 = .ok (.pop, 1) := by decide +kernel
theorem dJ0_checkBoundsBeginEnd_23922_10 : decode cJ0_checkBoundsBeginEnd_23922 10 = .ok (.return_, 1) := by decide +kernel
theorem dJ1_charAt_3b067_0 : decode cJ1_charAt_3b067 0 = .ok (.iload_n 1, 1) := by decide +kernel
theorem dJ1_charAt_3b067_1 : decode cJ1_charAt_3b067 1 = .ok (.aload_n 0, 1) := by decide +kernel
theorem dJ1_charAt_3b067_2 : decode cJ1_charAt_3b067 2 = .ok (.arraylength, 1) := by decide +kernel
theorem dJ1_charAt_3b067_3 : decode cJ1_charAt_3b067 3 = .ok (.invokestatic 9, 3) := by decide +kernel
theorem dJ1_charAt_3b067_6 : decode cJ1_charAt_3b067 6 = .ok (.aload_n 0, 1) := by decide +kernel
theorem dJ1_charAt_3b067_7 : decode cJ1_charAt_3b067 7 = .ok (.iload_n 1, 1) := by decide +kernel
theorem dJ1_charAt_3b067_8 : decode cJ1_charAt_3b067 8 = .ok (.baload, 1) := by decide +kernel
theorem dJ1_charAt_3b067_9 : decode cJ1_charAt_3b067 9 = .ok (.sipush 255, 3) := by decide +kernel
theorem dJ1_charAt_3b067_12 : decode cJ1_charAt_3b067 12 = .ok (.iand, 1) := by decide +kernel
theorem dJ1_charAt_3b067_13 : decode cJ1_charAt_3b067 13 = .ok (.i2c, 1) := by decide +kernel
theorem dJ1_charAt_3b067_14 : decode cJ1_charAt_3b067 14 = .ok (.ireturn, 1) := by decide +kernel
theorem dJ1_canEncode_9a6ad_0 : decode cJ1_canEncode_9a6ad 0 = .ok (.iload_n 0, 1) := by decide +kernel
theorem dJ1_canEncode_9a6ad_1 : decode cJ1_canEncode_9a6ad 1 = .ok (.ifCond .lt 14, 3) := by decide +kernel
theorem dJ1_canEncode_9a6ad_4 : decode cJ1_canEncode_9a6ad 4 = .ok (.iload_n 0, 1) := by decide +kernel
theorem dJ1_canEncode_9a6ad_5 : decode cJ1_canEncode_9a6ad 5 = .ok (.sipush 255, 3) := by decide +kernel
theorem dJ1_canEncode_9a6ad_8 : decode cJ1_canEncode_9a6ad 8 = .ok (.if_icmp .gt 7, 3) := by decide +kernel
theorem dJ1_canEncode_9a6ad_11 : decode cJ1_canEncode_9a6ad 11 = .ok (.iconst 1, 1) := by decide +kernel
theorem dJ1_canEncode_9a6ad_12 : decode cJ1_canEncode_9a6ad 12 = .ok (.goto 4, 3) := by decide +kernel
theorem dJ1_canEncode_9a6ad_15 : decode cJ1_canEncode_9a6ad 15 = .ok (.iconst 0, 1) := by decide +kernel
theorem dJ1_canEncode_9a6ad_16 : decode cJ1_canEncode_9a6ad 16 = .ok (.ireturn, 1) := by decide +kernel
theorem dJ1_indexOf_4cfef_0 : decode cJ1_indexOf_4cfef 0 = .ok (.iload_n 1, 1) := by decide +kernel
theorem dJ1_indexOf_4cfef_1 : decode cJ1_indexOf_4cfef 1 = .ok (.invokestatic 88, 3) := by decide +kernel
theorem dJ1_indexOf_4cfef_4 : decode cJ1_indexOf_4cfef 4 = .ok (.ifCond .ne 5, 3) := by decide +kernel
theorem dJ1_indexOf_4cfef_7 : decode cJ1_indexOf_4cfef 7 = .ok (.iconst (-1), 1) := by decide +kernel
theorem dJ1_indexOf_4cfef_8 : decode cJ1_indexOf_4cfef 8 = .ok (.ireturn, 1) := by decide +kernel
theorem dJ1_indexOf_4cfef_9 : decode cJ1_indexOf_4cfef 9 = .ok (.iload_n 2, 1) := by decide +kernel
theorem dJ1_indexOf_4cfef_10 : decode cJ1_indexOf_4cfef 10 = .ok (.iconst 0, 1) := by decide +kernel
theorem dJ1_indexOf_4cfef_11 : decode cJ1_indexOf_4cfef 11 = .ok (.invokestatic 92, 3) := by decide +kernel
theorem dJ1_indexOf_4cfef_14 : decode cJ1_indexOf_4cfef 14 = .ok (.istore_n 2, 1) := by decide +kernel
theorem dJ1_indexOf_4cfef_15 : decode cJ1_indexOf_4cfef 15 = .ok (.iload_n 3, 1) := by decide +kernel
theorem dJ1_indexOf_4cfef_16 : decode cJ1_indexOf_4cfef 16 = .ok (.aload_n 0, 1) := by decide +kernel
theorem dJ1_indexOf_4cfef_17 : decode cJ1_indexOf_4cfef 17 = .ok (.arraylength, 1) := by decide +kernel
theorem dJ1_indexOf_4cfef_18 : decode cJ1_indexOf_4cfef 18 = .ok (.invokestatic 38, 3) := by decide +kernel
theorem dJ1_indexOf_4cfef_21 : decode cJ1_indexOf_4cfef 21 = .ok (.istore_n 3, 1) := by decide +kernel
theorem dJ1_indexOf_4cfef_22 : decode cJ1_indexOf_4cfef 22 = .ok (.iload_n 2, 1) := by decide +kernel
theorem dJ1_indexOf_4cfef_23 : decode cJ1_indexOf_4cfef 23 = .ok (.iload_n 3, 1) := by decide +kernel
theorem dJ1_indexOf_4cfef_24 : decode cJ1_indexOf_4cfef 24 = .ok (.if_icmp .lt 5, 3) := by decide +kernel
theorem dJ1_indexOf_4cfef_27 : decode cJ1_indexOf_4cfef 27 = .ok (.iconst (-1), 1) := by decide +kernel
theorem dJ1_indexOf_4cfef_28 : decode cJ1_indexOf_4cfef 28 = .ok (.ireturn, 1) := by decide +kernel
theorem dJ1_indexOf_4cfef_29 : decode cJ1_indexOf_4cfef 29 = .ok (.aload_n 0, 1) := by decide +kernel
theorem dJ1_indexOf_4cfef_30 : decode cJ1_indexOf_4cfef 30 = .ok (.iload_n 1, 1) := by decide +kernel
theorem dJ1_indexOf_4cfef_31 : decode cJ1_indexOf_4cfef 31 = .ok (.iload_n 2, 1) := by decide +kernel
theorem dJ1_indexOf_4cfef_32 : decode cJ1_indexOf_4cfef 32 = .ok (.iload_n 3, 1) := by decide +kernel
theorem dJ1_indexOf_4cfef_33 : decode cJ1_indexOf_4cfef 33 = .ok (.invokestatic 95, 3) := by decide +kernel
theorem dJ1_indexOf_4cfef_36 : decode cJ1_indexOf_4cfef 36 = .ok (.ireturn, 1) := by decide +kernel
theorem dJ1_indexOfChar_4cfef_0 : decode cJ1_indexOfChar_4cfef 0 = .ok (.iload_n 1, 1) := by decide +kernel
theorem dJ1_indexOfChar_4cfef_1 : decode cJ1_indexOfChar_4cfef 1 = .ok (.i2b, 1) := by decide +kernel
theorem dJ1_indexOfChar_4cfef_2 : decode cJ1_indexOfChar_4cfef 2 = .ok (.istore 4, 2) := by decide +kernel
theorem dJ1_indexOfChar_4cfef_4 : decode cJ1_indexOfChar_4cfef 4 = .ok (.iload_n 2, 1) := by decide +kernel
theorem dJ1_indexOfChar_4cfef_5 : decode cJ1_indexOfChar_4cfef 5 = .ok (.istore 5, 2) := by decide +kernel
theorem dJ1_indexOfChar_4cfef_7 : decode cJ1_indexOfChar_4cfef 7 = .ok (.iload 5, 2) := by decide +kernel
theorem dJ1_indexOfChar_4cfef_9 : decode cJ1_indexOfChar_4cfef 9 = .ok (.iload_n 3, 1) := by decide +kernel
theorem dJ1_indexOfChar_4cfef_10 : decode cJ1_indexOfChar_4cfef 10 = .ok (.if_icmp .ge 21, 3) := by decide +kernel
theorem dJ1_indexOfChar_4cfef_13 : decode cJ1_indexOfChar_4cfef 13 = .ok (.aload_n 0, 1) := by decide +kernel
theorem dJ1_indexOfChar_4cfef_14 : decode cJ1_indexOfChar_4cfef 14 = .ok (.iload 5, 2) := by decide +kernel
theorem dJ1_indexOfChar_4cfef_16 : decode cJ1_indexOfChar_4cfef 16 = .ok (.baload, 1) := by decide +kernel
theorem dJ1_indexOfChar_4cfef_17 : decode cJ1_indexOfChar_4cfef 17 = .ok (.iload 4, 2) := by decide +kernel
theorem dJ1_indexOfChar_4cfef_19 : decode cJ1_indexOfChar_4cfef 19 = .ok (.if_icmp .ne 6, 3) := by decide +kernel
theorem dJ1_indexOfChar_4cfef_22 : decode cJ1_indexOfChar_4cfef 22 = .ok (.iload 5, 2) := by decide +kernel
theorem dJ1_indexOfChar_4cfef_24 : decode cJ1_indexOfChar_4cfef 24 = .ok (.ireturn, 1) := by decide +kernel
theorem dJ1_indexOfChar_4cfef_25 : decode cJ1_indexOfChar_4cfef 25 = .ok (.iinc 5 1, 3) := by decide +kernel
theorem dJ1_indexOfChar_4cfef_28 : decode cJ1_indexOfChar_4cfef 28 = .ok (.goto (-21), 3) := by decide +kernel
theorem dJ1_indexOfChar_4cfef_31 : decode cJ1_indexOfChar_4cfef 31 = .ok (.iconst (-1), 1) := by decide +kernel
theorem dJ1_indexOfChar_4cfef_32 : decode cJ1_indexOfChar_4cfef 32 = .ok (.ireturn, 1) := by decide +kernel
theorem dJ2_getChar_3b067_0 : decode cJ2_getChar_3b067 0 = .ok (.getstatic 44, 3) := by decide +kernel
theorem dJ2_getChar_3b067_3 : decode cJ2_getChar_3b067 3 = .ok (.ifCond .ne 25, 3) := by decide +kernel
theorem dJ2_getChar_3b067_6 : decode cJ2_getChar_3b067 6 = .ok (.iload_n 1, 1) := by decide +kernel
theorem dJ2_getChar_3b067_7 : decode cJ2_getChar_3b067 7 = .ok (.ifCond .lt 11, 3) := by decide +kernel
theorem dJ2_getChar_3b067_10 : decode cJ2_getChar_3b067 10 = .ok (.iload_n 1, 1) := by decide +kernel
theorem dJ2_getChar_3b067_11 : decode cJ2_getChar_3b067 11 = .ok (.aload_n 0, 1) := by decide +kernel
theorem dJ2_getChar_3b067_12 : decode cJ2_getChar_3b067 12 = .ok (.invokestatic 48, 3) := by decide +kernel
theorem dJ2_getChar_3b067_15 : decode cJ2_getChar_3b067 15 = .ok (.if_icmp .lt 13, 3) := by decide +kernel
theorem dJ2_getChar_3b067_18 : decode cJ2_getChar_3b067 18 = .ok (.new 52, 3) := by decide +kernel
theorem dJ2_getChar_3b067_21 : decode cJ2_getChar_3b067 21 = .ok (.dup, 1) := by decide +kernel
theorem dJ2_getChar_3b067_22 : decode cJ2_getChar_3b067 22 = .ok (.ldc 54, 2) := by decide +kernel
theorem dJ2_getChar_3b067_24 : decode cJ2_getChar_3b067 24 = .ok (.invokespecial 56, 3) := by decide +kernel
theorem dJ2_getChar_3b067_27 : decode cJ2_getChar_3b067 27 = .ok (.athrow, 1) := by decide +kernel
theorem dJ2_getChar_3b067_28 : decode cJ2_getChar_3b067 28 = .ok (.iload_n 1, 1) := by decide +kernel
theorem dJ2_getChar_3b067_29 : decode cJ2_getChar_3b067 29 = .ok (.iconst 1, 1) := by decide +kernel
theorem dJ2_getChar_3b067_30 : decode cJ2_getChar_3b067 30 = .ok (.ishl, 1) := by decide +kernel
theorem dJ2_getChar_3b067_31 : decode cJ2_getChar_3b067 31 = .ok (.istore_n 1, 1) := by decide +kernel
theorem dJ2_getChar_3b067_32 : decode cJ2_getChar_3b067 32 = .ok (.aload_n 0, 1) := by decide +kernel
theorem dJ2_getChar_3b067_33 : decode cJ2_getChar_3b067 33 = .ok (.iload_n 1, 1) := by decide +kernel
theorem dJ2_getChar_3b067_34 : decode cJ2_getChar_3b067 34 = .ok (.iinc 1 1, 3) := by decide +kernel
theorem dJ2_getChar_3b067_37 : decode cJ2_getChar_3b067 37 = .ok (.baload, 1) := by decide +kernel
theorem dJ2_getChar_3b067_38 : decode cJ2_getChar_3b067 38 = .ok (.sipush 255, 3) := by decide +kernel
theorem dJ2_getChar_3b067_41 : decode cJ2_getChar_3b067 41 = .ok (.iand, 1) := by decide +kernel
theorem dJ2_getChar_3b067_42 : decode cJ2_getChar_3b067 42 = .ok (.getstatic 59, 3) := by decide +kernel
theorem dJ2_getChar_3b067_45 : decode cJ2_getChar_3b067 45 = .ok (.ishl, 1) := by decide +kernel
theorem dJ2_getChar_3b067_46 : decode cJ2_getChar_3b067 46 = .ok (.aload_n 0, 1) := by decide +kernel
theorem dJ2_getChar_3b067_47 : decode cJ2_getChar_3b067 47 = .ok (.iload_n 1, 1) := by decide +kernel
theorem dJ2_getChar_3b067_48 : decode cJ2_getChar_3b067 48 = .ok (.baload, 1) := by decide +kernel
theorem dJ2_getChar_3b067_49 : decode cJ2_getChar_3b067 49 = .ok (.sipush 255, 3) := by decide +kernel
theorem dJ2_getChar_3b067_52 : decode cJ2_getChar_3b067 52 = .ok (.iand, 1) := by decide +kernel
theorem dJ2_getChar_3b067_53 : decode cJ2_getChar_3b067 53 = .ok (.getstatic 63, 3) := by decide +kernel
theorem dJ2_getChar_3b067_56 : decode cJ2_getChar_3b067 56 = .ok (.ishl, 1) := by decide +kernel
theorem dJ2_getChar_3b067_57 : decode cJ2_getChar_3b067 57 = .ok (.ior, 1) := by decide +kernel
theorem dJ2_getChar_3b067_58 : decode cJ2_getChar_3b067 58 = .ok (.i2c, 1) := by decide +kernel
theorem dJ2_getChar_3b067_59 : decode cJ2_getChar_3b067 59 = .ok (.ireturn, 1) := by decide +kernel
theorem dJ2_length_9d52b_0 : decode cJ2_length_9d52b 0 = .ok (.aload_n 0, 1) := by decide +kernel
theorem dJ2_length_9d52b_1 : decode cJ2_length_9d52b 1 = .ok (.arraylength, 1) := by decide +kernel
theorem dJ2_length_9d52b_2 : decode cJ2_length_9d52b 2 = .ok (.iconst 1, 1) := by decide +kernel
theorem dJ2_length_9d52b_3 : decode cJ2_length_9d52b 3 = .ok (.ishr, 1) := by decide +kernel
theorem dJ2_length_9d52b_4 : decode cJ2_length_9d52b 4 = .ok (.ireturn, 1) := by decide +kernel
theorem dJ2_indexOf_4cfef_0 : decode cJ2_indexOf_4cfef 0 = .ok (.iload_n 2, 1) := by decide +kernel
theorem dJ2_indexOf_4cfef_1 : decode cJ2_indexOf_4cfef 1 = .ok (.iconst 0, 1) := by decide +kernel
theorem dJ2_indexOf_4cfef_2 : decode cJ2_indexOf_4cfef 2 = .ok (.invokestatic 224, 3) := by decide +kernel
theorem dJ2_indexOf_4cfef_5 : decode cJ2_indexOf_4cfef 5 = .ok (.istore_n 2, 1) := by decide +kernel
theorem dJ2_indexOf_4cfef_6 : decode cJ2_indexOf_4cfef 6 = .ok (.iload_n 3, 1) := by decide +kernel
theorem dJ2_indexOf_4cfef_7 : decode cJ2_indexOf_4cfef 7 = .ok (.aload_n 0, 1) := by decide +kernel
theorem dJ2_indexOf_4cfef_8 : decode cJ2_indexOf_4cfef 8 = .ok (.arraylength, 1) := by decide +kernel
theorem dJ2_indexOf_4cfef_9 : decode cJ2_indexOf_4cfef 9 = .ok (.iconst 1, 1) := by decide +kernel
theorem dJ2_indexOf_4cfef_10 : decode cJ2_indexOf_4cfef 10 = .ok (.ishr, 1) := by decide +kernel
theorem dJ2_indexOf_4cfef_11 : decode cJ2_indexOf_4cfef 11 = .ok (.invokestatic 183, 3) := by decide +kernel
theorem dJ2_indexOf_4cfef_14 : decode cJ2_indexOf_4cfef 14 = .ok (.istore_n 3, 1) := by decide +kernel
theorem dJ2_indexOf_4cfef_15 : decode cJ2_indexOf_4cfef 15 = .ok (.iload_n 2, 1) := by decide +kernel
theorem dJ2_indexOf_4cfef_16 : decode cJ2_indexOf_4cfef 16 = .ok (.iload_n 3, 1) := by decide +kernel
theorem dJ2_indexOf_4cfef_17 : decode cJ2_indexOf_4cfef 17 = .ok (.if_icmp .lt 5, 3) := by decide +kernel
theorem dJ2_indexOf_4cfef_20 : decode cJ2_indexOf_4cfef 20 = .ok (.iconst (-1), 1) := by decide +kernel
theorem dJ2_indexOf_4cfef_21 : decode cJ2_indexOf_4cfef 21 = .ok (.ireturn, 1) := by decide +kernel
theorem dJ2_indexOf_4cfef_22 : decode cJ2_indexOf_4cfef 22 = .ok (.iload_n 1, 1) := by decide +kernel
theorem dJ2_indexOf_4cfef_23 : decode cJ2_indexOf_4cfef 23 = .ok (.ldc 227, 2) := by decide +kernel
theorem dJ2_indexOf_4cfef_25 : decode cJ2_indexOf_4cfef 25 = .ok (.if_icmp .ge 11, 3) := by decide +kernel
theorem dJ2_indexOf_4cfef_28 : decode cJ2_indexOf_4cfef 28 = .ok (.aload_n 0, 1) := by decide +kernel
theorem dJ2_indexOf_4cfef_29 : decode cJ2_indexOf_4cfef 29 = .ok (.iload_n 1, 1) := by decide +kernel
theorem dJ2_indexOf_4cfef_30 : decode cJ2_indexOf_4cfef 30 = .ok (.iload_n 2, 1) := by decide +kernel
theorem dJ2_indexOf_4cfef_31 : decode cJ2_indexOf_4cfef 31 = .ok (.iload_n 3, 1) := by decide +kernel
theorem dJ2_indexOf_4cfef_32 : decode cJ2_indexOf_4cfef 32 = .ok (.invokestatic 228, 3) := by decide +kernel
theorem dJ2_indexOf_4cfef_35 : decode cJ2_indexOf_4cfef 35 = .ok (.ireturn, 1) := by decide +kernel
theorem dJ2_indexOf_4cfef_36 : decode cJ2_indexOf_4cfef 36 = .ok (.aload_n 0, 1) := by decide +kernel
theorem dJ2_indexOf_4cfef_37 : decode cJ2_indexOf_4cfef 37 = .ok (.iload_n 1, 1) := by decide +kernel
theorem dJ2_indexOf_4cfef_38 : decode cJ2_indexOf_4cfef 38 = .ok (.iload_n 2, 1) := by decide +kernel
theorem dJ2_indexOf_4cfef_39 : decode cJ2_indexOf_4cfef 39 = .ok (.iload_n 3, 1) := by decide +kernel
theorem dJ2_indexOf_4cfef_40 : decode cJ2_indexOf_4cfef 40 = .ok (.invokestatic 232, 3) := by decide +kernel
theorem dJ2_indexOf_4cfef_43 : decode cJ2_indexOf_4cfef 43 = .ok (.ireturn, 1) := by decide +kernel
