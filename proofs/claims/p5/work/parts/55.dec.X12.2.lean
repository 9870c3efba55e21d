theorem dX12_writeNumberBy_421 : decode cX12_writeNumberBy 421 = .ok (.return_, 1) := by decide +kernel
theorem dX12_near_0 : decode cX12_near 0 = .ok (.aload_n 0, 1) := by decide +kernel
theorem dX12_near_1 : decode cX12_near 1 = .ok (.getfield 63, 3) := by decide +kernel
theorem dX12_near_4 : decode cX12_near 4 = .ok (.invokestatic 338, 3) := by decide +kernel
theorem dX12_near_7 : decode cX12_near 7 = .ok (.lstore_n 1, 1) := by decide +kernel
theorem dX12_near_8 : decode cX12_near 8 = .ok (.aload_n 0, 1) := by decide +kernel
theorem dX12_near_9 : decode cX12_near 9 = .ok (.getfield 63, 3) := by decide +kernel
theorem dX12_near_12 : decode cX12_near 12 = .ok (.aload_n 0, 1) := by decide +kernel
theorem dX12_near_13 : decode cX12_near 13 = .ok (.getfield 69, 3) := by decide +kernel
theorem dX12_near_16 : decode cX12_near 16 = .ok (.invokestatic 149, 3) := by decide +kernel
theorem dX12_near_19 : decode cX12_near 19 = .ok (.aload_n 0, 1) := by decide +kernel
theorem dX12_near_20 : decode cX12_near 20 = .ok (.getfield 69, 3) := by decide +kernel
theorem dX12_near_23 : decode cX12_near 23 = .ok (.invokestatic 342, 3) := by decide +kernel
theorem dX12_near_26 : decode cX12_near 26 = .ok (.aload_n 0, 1) := by decide +kernel
theorem dX12_near_27 : decode cX12_near 27 = .ok (.getfield 69, 3) := by decide +kernel
theorem dX12_near_30 : decode cX12_near 30 = .ok (.sipush 320, 3) := by decide +kernel
theorem dX12_near_33 : decode cX12_near 33 = .ok (.iaload, 1) := by decide +kernel
theorem dX12_near_34 : decode cX12_near 34 = .ok (.iconst 5, 1) := by decide +kernel
theorem dX12_near_35 : decode cX12_near 35 = .ok (.if_icmp .le 7, 3) := by decide +kernel
theorem dX12_near_38 : decode cX12_near 38 = .ok (.iconst 1, 1) := by decide +kernel
theorem dX12_near_39 : decode cX12_near 39 = .ok (.goto 4, 3) := by decide +kernel
theorem dX12_near_42 : decode cX12_near 42 = .ok (.iconst 0, 1) := by decide +kernel
theorem dX12_near_43 : decode cX12_near 43 = .ok (.istore_n 3, 1) := by decide +kernel
theorem dX12_near_44 : decode cX12_near 44 = .ok (.sipush 321, 3) := by decide +kernel
theorem dX12_near_47 : decode cX12_near 47 = .ok (.istore 4, 2) := by decide +kernel
theorem dX12_near_49 : decode cX12_near 49 = .ok (.aload_n 0, 1) := by decide +kernel
theorem dX12_near_50 : decode cX12_near 50 = .ok (.getfield 69, 3) := by decide +kernel
theorem dX12_near_53 : decode cX12_near 53 = .ok (.sipush 320, 3) := by decide +kernel
theorem dX12_near_56 : decode cX12_near 56 = .ok (.iaload, 1) := by decide +kernel
theorem dX12_near_57 : decode cX12_near 57 = .ok (.iconst 5, 1) := by decide +kernel
theorem dX12_near_58 : decode cX12_near 58 = .ok (.if_icmp .ne 37, 3) := by decide +kernel
theorem dX12_near_61 : decode cX12_near 61 = .ok (.iload 4, 2) := by decide +kernel
theorem dX12_near_63 : decode cX12_near 63 = .ok (.sipush 1420, 3) := by decide +kernel
theorem dX12_near_66 : decode cX12_near 66 = .ok (.if_icmp .ge 29, 3) := by decide +kernel
theorem dX12_near_69 : decode cX12_near 69 = .ok (.iload_n 3, 1) := by decide +kernel
theorem dX12_near_70 : decode cX12_near 70 = .ok (.ifCond .ne 25, 3) := by decide +kernel
theorem dX12_near_73 : decode cX12_near 73 = .ok (.aload_n 0, 1) := by decide +kernel
theorem dX12_near_74 : decode cX12_near 74 = .ok (.getfield 69, 3) := by decide +kernel
theorem dX12_near_77 : decode cX12_near 77 = .ok (.iload 4, 2) := by decide +kernel
theorem dX12_near_79 : decode cX12_near 79 = .ok (.iaload, 1) := by decide +kernel
theorem dX12_near_80 : decode cX12_near 80 = .ok (.ifCond .le 7, 3) := by decide +kernel
theorem dX12_near_83 : decode cX12_near 83 = .ok (.iconst 1, 1) := by decide +kernel
theorem dX12_near_84 : decode cX12_near 84 = .ok (.goto 4, 3) := by decide +kernel
theorem dX12_near_87 : decode cX12_near 87 = .ok (.iconst 0, 1) := by decide +kernel
theorem dX12_near_88 : decode cX12_near 88 = .ok (.istore_n 3, 1) := by decide +kernel
theorem dX12_near_89 : decode cX12_near 89 = .ok (.iinc 4 1, 3) := by decide +kernel
theorem dX12_near_92 : decode cX12_near 92 = .ok (.goto (-43), 3) := by decide +kernel
theorem dX12_near_95 : decode cX12_near 95 = .ok (.iload_n 3, 1) := by decide +kernel
theorem dX12_near_96 : decode cX12_near 96 = .ok (.ifCond .ne 5, 3) := by decide +kernel
theorem dX12_near_99 : decode cX12_near 99 = .ok (.lload_n 1, 1) := by decide +kernel
theorem dX12_near_100 : decode cX12_near 100 = .ok (.lreturn, 1) := by decide +kernel
theorem dX12_near_101 : decode cX12_near 101 = .ok (.aload_n 0, 1) := by decide +kernel
theorem dX12_near_102 : decode cX12_near 102 = .ok (.getfield 69, 3) := by decide +kernel
theorem dX12_near_105 : decode cX12_near 105 = .ok (.invokestatic 107, 3) := by decide +kernel
theorem dX12_near_108 : decode cX12_near 108 = .ok (.istore 4, 2) := by decide +kernel
theorem dX12_near_110 : decode cX12_near 110 = .ok (.sipush 320, 3) := by decide +kernel
theorem dX12_near_113 : decode cX12_near 113 = .ok (.istore 5, 2) := by decide +kernel
theorem dX12_near_115 : decode cX12_near 115 = .ok (.iload 5, 2) := by decide +kernel
theorem dX12_near_117 : decode cX12_near 117 = .ok (.iload 4, 2) := by decide +kernel
theorem dX12_near_119 : decode cX12_near 119 = .ok (.if_icmp .gt 46, 3) := by decide +kernel
theorem dX12_near_122 : decode cX12_near 122 = .ok (.aload_n 0, 1) := by decide +kernel
theorem dX12_near_123 : decode cX12_near 123 = .ok (.getfield 69, 3) := by decide +kernel
theorem dX12_near_126 : decode cX12_near 126 = .ok (.iload 5, 2) := by decide +kernel
theorem dX12_near_128 : decode cX12_near 128 = .ok (.iload 5, 2) := by decide +kernel
theorem dX12_near_130 : decode cX12_near 130 = .ok (.iload 4, 2) := by decide +kernel
theorem dX12_near_132 : decode cX12_near 132 = .ok (.if_icmp .ne 16, 3) := by decide +kernel
theorem dX12_near_135 : decode cX12_near 135 = .ok (.bipush 10, 2) := by decide +kernel
theorem dX12_near_137 : decode cX12_near 137 = .ok (.aload_n 0, 1) := by decide +kernel
theorem dX12_near_138 : decode cX12_near 138 = .ok (.getfield 69, 3) := by decide +kernel
theorem dX12_near_141 : decode cX12_near 141 = .ok (.iload 5, 2) := by decide +kernel
theorem dX12_near_143 : decode cX12_near 143 = .ok (.iaload, 1) := by decide +kernel
theorem dX12_near_144 : decode cX12_near 144 = .ok (.isub, 1) := by decide +kernel
theorem dX12_near_145 : decode cX12_near 145 = .ok (.goto 13, 3) := by decide +kernel
theorem dX12_near_148 : decode cX12_near 148 = .ok (.bipush 9, 2) := by decide +kernel
theorem dX12_near_150 : decode cX12_near 150 = .ok (.aload_n 0, 1) := by decide +kernel
theorem dX12_near_151 : decode cX12_near 151 = .ok (.getfield 69, 3) := by decide +kernel
theorem dX12_near_154 : decode cX12_near 154 = .ok (.iload 5, 2) := by decide +kernel
theorem dX12_near_156 : decode cX12_near 156 = .ok (.iaload, 1) := by decide +kernel
theorem dX12_near_157 : decode cX12_near 157 = .ok (.isub, 1) := by decide +kernel
theorem dX12_near_158 : decode cX12_near 158 = .ok (.iastore, 1) := by decide +kernel
theorem dX12_near_159 : decode cX12_near 159 = .ok (.iinc 5 1, 3) := by decide +kernel
theorem dX12_near_162 : decode cX12_near 162 = .ok (.goto (-47), 3) := by decide +kernel
theorem dX12_near_165 : decode cX12_near 165 = .ok (.lload_n 1, 1) := by decide +kernel
theorem dX12_near_166 : decode cX12_near 166 = .ok (.lconst 1, 1) := by decide +kernel
theorem dX12_near_167 : decode cX12_near 167 = .ok (.ladd, 1) := by decide +kernel
theorem dX12_near_168 : decode cX12_near 168 = .ok (.lreturn, 1) := by decide +kernel
theorem dX12_isLess_0 : decode cX12_isLess 0 = .ok (.aload_n 0, 1) := by decide +kernel
theorem dX12_isLess_1 : decode cX12_isLess 1 = .ok (.getfield 69, 3) := by decide +kernel
theorem dX12_isLess_4 : decode cX12_isLess 4 = .ok (.aload_n 0, 1) := by decide +kernel
theorem dX12_isLess_5 : decode cX12_isLess 5 = .ok (.getfield 60, 3) := by decide +kernel
theorem dX12_isLess_8 : decode cX12_isLess 8 = .ok (.invokestatic 149, 3) := by decide +kernel
theorem dX12_isLess_11 : decode cX12_isLess 11 = .ok (.aload_n 0, 1) := by decide +kernel
theorem dX12_isLess_12 : decode cX12_isLess 12 = .ok (.getfield 60, 3) := by decide +kernel
theorem dX12_isLess_15 : decode cX12_isLess 15 = .ok (.iload_n 2, 1) := by decide +kernel
theorem dX12_isLess_16 : decode cX12_isLess 16 = .ok (.invokestatic 116, 3) := by decide +kernel
theorem dX12_isLess_19 : decode cX12_isLess 19 = .ok (.aload_n 0, 1) := by decide +kernel
theorem dX12_isLess_20 : decode cX12_isLess 20 = .ok (.getfield 72, 3) := by decide +kernel
theorem dX12_isLess_23 : decode cX12_isLess 23 = .ok (.aload_n 0, 1) := by decide +kernel
theorem dX12_isLess_24 : decode cX12_isLess 24 = .ok (.getfield 63, 3) := by decide +kernel
theorem dX12_isLess_27 : decode cX12_isLess 27 = .ok (.invokestatic 149, 3) := by decide +kernel
theorem dX12_isLess_30 : decode cX12_isLess 30 = .ok (.aload_n 0, 1) := by decide +kernel
theorem dX12_isLess_31 : decode cX12_isLess 31 = .ok (.getfield 63, 3) := by decide +kernel
theorem dX12_isLess_34 : decode cX12_isLess 34 = .ok (.iload_n 1, 1) := by decide +kernel
theorem dX12_isLess_35 : decode cX12_isLess 35 = .ok (.invokestatic 116, 3) := by decide +kernel
theorem dX12_isLess_38 : decode cX12_isLess 38 = .ok (.aload_n 0, 1) := by decide +kernel
theorem dX12_isLess_39 : decode cX12_isLess 39 = .ok (.getfield 60, 3) := by decide +kernel
theorem dX12_isLess_42 : decode cX12_isLess 42 = .ok (.aload_n 0, 1) := by decide +kernel
theorem dX12_isLess_43 : decode cX12_isLess 43 = .ok (.getfield 63, 3) := by decide +kernel
theorem dX12_isLess_46 : decode cX12_isLess 46 = .ok (.invokestatic 155, 3) := by decide +kernel
theorem dX12_isLess_49 : decode cX12_isLess 49 = .ok (.ifCond .ge 7, 3) := by decide +kernel
theorem dX12_isLess_52 : decode cX12_isLess 52 = .ok (.iconst 1, 1) := by decide +kernel
theorem dX12_isLess_53 : decode cX12_isLess 53 = .ok (.goto 4, 3) := by decide +kernel
theorem dX12_isLess_56 : decode cX12_isLess 56 = .ok (.iconst 0, 1) := by decide +kernel
theorem dX12_isLess_57 : decode cX12_isLess 57 = .ok (.ireturn, 1) := by decide +kernel
theorem dX12_writeFraction_0 : decode cX12_writeFraction 0 = .ok (.aload_n 0, 1) := by decide +kernel
theorem dX12_writeFraction_1 : decode cX12_writeFraction 1 = .ok (.getfield 26, 3) := by decide +kernel
theorem dX12_writeFraction_4 : decode cX12_writeFraction 4 = .ok (.iload_n 1, 1) := by decide +kernel
theorem dX12_writeFraction_5 : decode cX12_writeFraction 5 = .ok (.iload_n 2, 1) := by decide +kernel
theorem dX12_writeFraction_6 : decode cX12_writeFraction 6 = .ok (.iconst 5, 1) := by decide +kernel
theorem dX12_writeFraction_7 : decode cX12_writeFraction 7 = .ok (.invokestatic 229, 3) := by decide +kernel
theorem dX12_writeFraction_10 : decode cX12_writeFraction 10 = .ok (.istore 4, 2) := by decide +kernel
theorem dX12_writeFraction_12 : decode cX12_writeFraction 12 = .ok (.iload 4, 2) := by decide +kernel
theorem dX12_writeFraction_14 : decode cX12_writeFraction 14 = .ok (.istore 5, 2) := by decide +kernel
theorem dX12_writeFraction_16 : decode cX12_writeFraction 16 = .ok (.iload 5, 2) := by decide +kernel
theorem dX12_writeFraction_18 : decode cX12_writeFraction 18 = .ok (.iload_n 1, 1) := by decide +kernel
theorem dX12_writeFraction_19 : decode cX12_writeFraction 19 = .ok (.if_icmp .le 22, 3) := by decide +kernel
theorem dX12_writeFraction_22 : decode cX12_writeFraction 22 = .ok (.aload_n 0, 1) := by decide +kernel
theorem dX12_writeFraction_23 : decode cX12_writeFraction 23 = .ok (.getfield 26, 3) := by decide +kernel
theorem dX12_writeFraction_26 : decode cX12_writeFraction 26 = .ok (.iload 5, 2) := by decide +kernel
theorem dX12_writeFraction_28 : decode cX12_writeFraction 28 = .ok (.iconst 1, 1) := by decide +kernel
theorem dX12_writeFraction_29 : decode cX12_writeFraction 29 = .ok (.isub, 1) := by decide +kernel
theorem dX12_writeFraction_30 : decode cX12_writeFraction 30 = .ok (.iaload, 1) := by decide +kernel
theorem dX12_writeFraction_31 : decode cX12_writeFraction 31 = .ok (.iconst 1, 1) := by decide +kernel
theorem dX12_writeFraction_32 : decode cX12_writeFraction 32 = .ok (.if_icmp .ne 9, 3) := by decide +kernel
theorem dX12_writeFraction_35 : decode cX12_writeFraction 35 = .ok (.iinc 5 (-1), 3) := by decide +kernel
theorem dX12_writeFraction_38 : decode cX12_writeFraction 38 = .ok (.goto (-22), 3) := by decide +kernel
theorem dX12_writeFraction_41 : decode cX12_writeFraction 41 = .ok (.aload_n 0, 1) := by decide +kernel
theorem dX12_writeFraction_42 : decode cX12_writeFraction 42 = .ok (.iload_n 1, 1) := by decide +kernel
theorem dX12_writeFraction_43 : decode cX12_writeFraction 43 = .ok (.iload 5, 2) := by decide +kernel
theorem dX12_writeFraction_45 : decode cX12_writeFraction 45 = .ok (.invokevirtual 300, 3) := by decide +kernel
theorem dX12_writeFraction_48 : decode cX12_writeFraction 48 = .ok (.ifCond .le 7, 3) := by decide +kernel
theorem dX12_writeFraction_51 : decode cX12_writeFraction 51 = .ok (.iconst 1, 1) := by decide +kernel
theorem dX12_writeFraction_52 : decode cX12_writeFraction 52 = .ok (.goto 4, 3) := by decide +kernel
theorem dX12_writeFraction_55 : decode cX12_writeFraction 55 = .ok (.iconst 0, 1) := by decide +kernel
theorem dX12_writeFraction_56 : decode cX12_writeFraction 56 = .ok (.istore 6, 2) := by decide +kernel
theorem dX12_writeFraction_58 : decode cX12_writeFraction 58 = .ok (.aload_n 0, 1) := by decide +kernel
theorem dX12_writeFraction_59 : decode cX12_writeFraction 59 = .ok (.getfield 26, 3) := by decide +kernel
theorem dX12_writeFraction_62 : decode cX12_writeFraction 62 = .ok (.iload 4, 2) := by decide +kernel
theorem dX12_writeFraction_64 : decode cX12_writeFraction 64 = .ok (.iconst 1, 1) := by decide +kernel
theorem dX12_writeFraction_65 : decode cX12_writeFraction 65 = .ok (.iadd, 1) := by decide +kernel
theorem dX12_writeFraction_66 : decode cX12_writeFraction 66 = .ok (.iaload, 1) := by decide +kernel
theorem dX12_writeFraction_67 : decode cX12_writeFraction 67 = .ok (.bipush 13, 2) := by decide +kernel
theorem dX12_writeFraction_69 : decode cX12_writeFraction 69 = .ok (.if_icmp .ne 7, 3) := by decide +kernel
theorem dX12_writeFraction_72 : decode cX12_writeFraction 72 = .ok (.iconst 1, 1) := by decide +kernel
theorem dX12_writeFraction_73 : decode cX12_writeFraction 73 = .ok (.goto 4, 3) := by decide +kernel
theorem dX12_writeFraction_76 : decode cX12_writeFraction 76 = .ok (.iconst 0, 1) := by decide +kernel
theorem dX12_writeFraction_77 : decode cX12_writeFraction 77 = .ok (.istore 7, 2) := by decide +kernel
theorem dX12_writeFraction_79 : decode cX12_writeFraction 79 = .ok (.iload 7, 2) := by decide +kernel
theorem dX12_writeFraction_81 : decode cX12_writeFraction 81 = .ok (.ifCond .eq 7, 3) := by decide +kernel
theorem dX12_writeFraction_84 : decode cX12_writeFraction 84 = .ok (.iconst 1, 1) := by decide +kernel
theorem dX12_writeFraction_85 : decode cX12_writeFraction 85 = .ok (.goto 15, 3) := by decide +kernel
theorem dX12_writeFraction_88 : decode cX12_writeFraction 88 = .ok (.aload_n 0, 1) := by decide +kernel
theorem dX12_writeFraction_89 : decode cX12_writeFraction 89 = .ok (.getfield 26, 3) := by decide +kernel
theorem dX12_writeFraction_92 : decode cX12_writeFraction 92 = .ok (.iload 4, 2) := by decide +kernel
theorem dX12_writeFraction_94 : decode cX12_writeFraction 94 = .ok (.iconst 1, 1) := by decide +kernel
theorem dX12_writeFraction_95 : decode cX12_writeFraction 95 = .ok (.iadd, 1) := by decide +kernel
theorem dX12_writeFraction_96 : decode cX12_writeFraction 96 = .ok (.iload_n 2, 1) := by decide +kernel
theorem dX12_writeFraction_97 : decode cX12_writeFraction 97 = .ok (.invokestatic 237, 3) := by decide +kernel
theorem dX12_writeFraction_100 : decode cX12_writeFraction 100 = .ok (.istore 8, 2) := by decide +kernel
theorem dX12_writeFraction_102 : decode cX12_writeFraction 102 = .ok (.iload 7, 2) := by decide +kernel
theorem dX12_writeFraction_104 : decode cX12_writeFraction 104 = .ok (.ifCond .eq 15, 3) := by decide +kernel
theorem dX12_writeFraction_107 : decode cX12_writeFraction 107 = .ok (.aload_n 0, 1) := by decide +kernel
theorem dX12_writeFraction_108 : decode cX12_writeFraction 108 = .ok (.getfield 29, 3) := by decide +kernel
theorem dX12_writeFraction_111 : decode cX12_writeFraction 111 = .ok (.iload 4, 2) := by decide +kernel
theorem dX12_writeFraction_113 : decode cX12_writeFraction 113 = .ok (.iconst 1, 1) := by decide +kernel
theorem dX12_writeFraction_114 : decode cX12_writeFraction 114 = .ok (.iadd, 1) := by decide +kernel
theorem dX12_writeFraction_115 : decode cX12_writeFraction 115 = .ok (.iaload, 1) := by decide +kernel
theorem dX12_writeFraction_116 : decode cX12_writeFraction 116 = .ok (.goto 28, 3) := by decide +kernel
theorem dX12_writeFraction_119 : decode cX12_writeFraction 119 = .ok (.iload 8, 2) := by decide +kernel
theorem dX12_writeFraction_121 : decode cX12_writeFraction 121 = .ok (.iconst 1, 1) := by decide +kernel
theorem dX12_writeFraction_122 : decode cX12_writeFraction 122 = .ok (.if_icmp .ne 8, 3) := by decide +kernel
theorem dX12_writeFraction_125 : decode cX12_writeFraction 125 = .ok (.bipush 9, 2) := by decide +kernel
theorem dX12_writeFraction_127 : decode cX12_writeFraction 127 = .ok (.goto 17, 3) := by decide +kernel
theorem dX12_writeFraction_130 : decode cX12_writeFraction 130 = .ok (.iload 8, 2) := by decide +kernel
theorem dX12_writeFraction_132 : decode cX12_writeFraction 132 = .ok (.iconst 2, 1) := by decide +kernel
theorem dX12_writeFraction_133 : decode cX12_writeFraction 133 = .ok (.if_icmp .ne 8, 3) := by decide +kernel
theorem dX12_writeFraction_136 : decode cX12_writeFraction 136 = .ok (.bipush 99, 2) := by decide +kernel
theorem dX12_writeFraction_138 : decode cX12_writeFraction 138 = .ok (.goto 6, 3) := by decide +kernel
theorem dX12_writeFraction_141 : decode cX12_writeFraction 141 = .ok (.sipush 999, 3) := by decide +kernel
theorem dX12_writeFraction_144 : decode cX12_writeFraction 144 = .ok (.istore 9, 2) := by decide +kernel
theorem dX12_writeFraction_146 : decode cX12_writeFraction 146 = .ok (.aload_n 0, 1) := by decide +kernel
theorem dX12_writeFraction_147 : decode cX12_writeFraction 147 = .ok (.invokevirtual 281, 3) := by decide +kernel
theorem dX12_writeFraction_150 : decode cX12_writeFraction 150 = .ok (.iload 6, 2) := by decide +kernel
theorem dX12_writeFraction_152 : decode cX12_writeFraction 152 = .ok (.ifCond .eq 13, 3) := by decide +kernel
theorem dX12_writeFraction_155 : decode cX12_writeFraction 155 = .ok (.aload_n 0, 1) := by decide +kernel
theorem dX12_writeFraction_156 : decode cX12_writeFraction 156 = .ok (.getfield 66, 3) := by decide +kernel
theorem dX12_writeFraction_159 : decode cX12_writeFraction 159 = .ok (.invokestatic 338, 3) := by decide +kernel
theorem dX12_writeFraction_162 : decode cX12_writeFraction 162 = .ok (.goto 4, 3) := by decide +kernel
theorem dX12_writeFraction_165 : decode cX12_writeFraction 165 = .ok (.lconst 0, 1) := by decide +kernel
theorem dX12_writeFraction_166 : decode cX12_writeFraction 166 = .ok (.lstore 10, 2) := by decide +kernel
theorem dX12_writeFraction_168 : decode cX12_writeFraction 168 = .ok (.iload 6, 2) := by decide +kernel
theorem dX12_writeFraction_170 : decode cX12_writeFraction 170 = .ok (.ifCond .eq 10, 3) := by decide +kernel
theorem dX12_writeFraction_173 : decode cX12_writeFraction 173 = .ok (.aload_n 0, 1) := by decide +kernel
theorem dX12_writeFraction_174 : decode cX12_writeFraction 174 = .ok (.getfield 66, 3) := by decide +kernel
theorem dX12_writeFraction_177 : decode cX12_writeFraction 177 = .ok (.invokestatic 342, 3) := by decide +kernel
theorem dX12_writeFraction_180 : decode cX12_writeFraction 180 = .ok (.iconst 0, 1) := by decide +kernel
theorem dX12_writeFraction_181 : decode cX12_writeFraction 181 = .ok (.istore 12, 2) := by decide +kernel
theorem dX12_writeFraction_183 : decode cX12_writeFraction 183 = .ok (.lconst 0, 1) := by decide +kernel
theorem dX12_writeFraction_184 : decode cX12_writeFraction 184 = .ok (.lstore 13, 2) := by decide +kernel
theorem dX12_writeFraction_186 : decode cX12_writeFraction 186 = .ok (.iload 7, 2) := by decide +kernel
theorem dX12_writeFraction_188 : decode cX12_writeFraction 188 = .ok (.ifCond .eq 8, 3) := by decide +kernel
theorem dX12_writeFraction_191 : decode cX12_writeFraction 191 = .ok (.iload 9, 2) := by decide +kernel
theorem dX12_writeFraction_193 : decode cX12_writeFraction 193 = .ok (.goto 4, 3) := by decide +kernel
theorem dX12_writeFraction_196 : decode cX12_writeFraction 196 = .ok (.iconst 1, 1) := by decide +kernel
theorem dX12_writeFraction_197 : decode cX12_writeFraction 197 = .ok (.istore 15, 2) := by decide +kernel
theorem dX12_writeFraction_199 : decode cX12_writeFraction 199 = .ok (.iload 15, 2) := by decide +kernel
theorem dX12_writeFraction_201 : decode cX12_writeFraction 201 = .ok (.iload 9, 2) := by decide +kernel
theorem dX12_writeFraction_203 : decode cX12_writeFraction 203 = .ok (.if_icmp .gt 73, 3) := by decide +kernel
theorem dX12_writeFraction_206 : decode cX12_writeFraction 206 = .ok (.aload_n 0, 1) := by decide +kernel
theorem dX12_writeFraction_207 : decode cX12_writeFraction 207 = .ok (.getfield 66, 3) := by decide +kernel
theorem dX12_writeFraction_210 : decode cX12_writeFraction 210 = .ok (.aload_n 0, 1) := by decide +kernel
theorem dX12_writeFraction_211 : decode cX12_writeFraction 211 = .ok (.getfield 63, 3) := by decide +kernel
theorem dX12_writeFraction_214 : decode cX12_writeFraction 214 = .ok (.invokestatic 149, 3) := by decide +kernel
theorem dX12_writeFraction_217 : decode cX12_writeFraction 217 = .ok (.aload_n 0, 1) := by decide +kernel
theorem dX12_writeFraction_218 : decode cX12_writeFraction 218 = .ok (.getfield 63, 3) := by decide +kernel
theorem dX12_writeFraction_221 : decode cX12_writeFraction 221 = .ok (.iload 15, 2) := by decide +kernel
theorem dX12_writeFraction_223 : decode cX12_writeFraction 223 = .ok (.invokestatic 116, 3) := by decide +kernel
theorem dX12_writeFraction_226 : decode cX12_writeFraction 226 = .ok (.aload_n 0, 1) := by decide +kernel
theorem dX12_writeFraction_227 : decode cX12_writeFraction 227 = .ok (.invokevirtual 345, 3) := by decide +kernel
theorem dX12_writeFraction_230 : decode cX12_writeFraction 230 = .ok (.lstore 16, 2) := by decide +kernel
theorem dX12_writeFraction_232 : decode cX12_writeFraction 232 = .ok (.iload 12, 2) := by decide +kernel
theorem dX12_writeFraction_234 : decode cX12_writeFraction 234 = .ok (.ifCond .le 17, 3) := by decide +kernel
theorem dX12_writeFraction_237 : decode cX12_writeFraction 237 = .ok (.aload_n 0, 1) := by decide +kernel
theorem dX12_writeFraction_238 : decode cX12_writeFraction 238 = .ok (.iload 15, 2) := by decide +kernel
theorem dX12_writeFraction_240 : decode cX12_writeFraction 240 = .ok (.iload 12, 2) := by decide +kernel
theorem dX12_writeFraction_242 : decode cX12_writeFraction 242 = .ok (.invokevirtual 349, 3) := by decide +kernel
theorem dX12_writeFraction_245 : decode cX12_writeFraction 245 = .ok (.ifCond .ne 6, 3) := by decide +kernel
theorem dX12_writeFraction_248 : decode cX12_writeFraction 248 = .ok (.goto 22, 3) := by decide +kernel
theorem dX12_writeFraction_251 : decode cX12_writeFraction 251 = .ok (.iload 15, 2) := by decide +kernel
theorem dX12_writeFraction_253 : decode cX12_writeFraction 253 = .ok (.istore 12, 2) := by decide +kernel
theorem dX12_writeFraction_255 : decode cX12_writeFraction 255 = .ok (.lload 16, 2) := by decide +kernel
theorem dX12_writeFraction_257 : decode cX12_writeFraction 257 = .ok (.lstore 13, 2) := by decide +kernel
theorem dX12_writeFraction_259 : decode cX12_writeFraction 259 = .ok (.aload_n 0, 1) := by decide +kernel
theorem dX12_writeFraction_260 : decode cX12_writeFraction 260 = .ok (.getfield 69, 3) := by decide +kernel
theorem dX12_writeFraction_263 : decode cX12_writeFraction 263 = .ok (.aload_n 0, 1) := by decide +kernel
theorem dX12_writeFraction_264 : decode cX12_writeFraction 264 = .ok (.getfield 72, 3) := by decide +kernel
theorem dX12_writeFraction_267 : decode cX12_writeFraction 267 = .ok (.invokestatic 149, 3) := by decide +kernel
theorem dX12_writeFraction_270 : decode cX12_writeFraction 270 = .ok (.iinc 15 1, 3) := by decide +kernel
theorem dX12_writeFraction_273 : decode cX12_writeFraction 273 = .ok (.goto (-74), 3) := by decide +kernel
theorem dX12_writeFraction_276 : decode cX12_writeFraction 276 = .ok (.iload 6, 2) := by decide +kernel
theorem dX12_writeFraction_278 : decode cX12_writeFraction 278 = .ok (.ifCond .eq 21, 3) := by decide +kernel
theorem dX12_writeFraction_281 : decode cX12_writeFraction 281 = .ok (.lload 13, 2) := by decide +kernel
theorem dX12_writeFraction_283 : decode cX12_writeFraction 283 = .ok (.iload 12, 2) := by decide +kernel
theorem dX12_writeFraction_285 : decode cX12_writeFraction 285 = .ok (.i2l, 1) := by decide +kernel
theorem dX12_writeFraction_286 : decode cX12_writeFraction 286 = .ok (.lcmp, 1) := by decide +kernel
theorem dX12_writeFraction_287 : decode cX12_writeFraction 287 = .ok (.ifCond .ne 12, 3) := by decide +kernel
theorem dX12_writeFraction_290 : decode cX12_writeFraction 290 = .ok (.lload 10, 2) := by decide +kernel
theorem dX12_writeFraction_292 : decode cX12_writeFraction 292 = .ok (.lconst 1, 1) := by decide +kernel
theorem dX12_writeFraction_293 : decode cX12_writeFraction 293 = .ok (.ladd, 1) := by decide +kernel
theorem dX12_writeFraction_294 : decode cX12_writeFraction 294 = .ok (.lstore 10, 2) := by decide +kernel
theorem dX12_writeFraction_296 : decode cX12_writeFraction 296 = .ok (.lconst 0, 1) := by decide +kernel
theorem dX12_writeFraction_297 : decode cX12_writeFraction 297 = .ok (.lstore 13, 2) := by decide +kernel
theorem dX12_writeFraction_299 : decode cX12_writeFraction 299 = .ok (.iload 6, 2) := by decide +kernel
theorem dX12_writeFraction_301 : decode cX12_writeFraction 301 = .ok (.ifCond .eq 14, 3) := by decide +kernel
theorem dX12_writeFraction_304 : decode cX12_writeFraction 304 = .ok (.lload 13, 2) := by decide +kernel
theorem dX12_writeFraction_306 : decode cX12_writeFraction 306 = .ok (.lconst 0, 1) := by decide +kernel
theorem dX12_writeFraction_307 : decode cX12_writeFraction 307 = .ok (.lcmp, 1) := by decide +kernel
theorem dX12_writeFraction_308 : decode cX12_writeFraction 308 = .ok (.ifCond .ne 7, 3) := by decide +kernel
theorem dX12_writeFraction_311 : decode cX12_writeFraction 311 = .ok (.iconst 1, 1) := by decide +kernel
theorem dX12_writeFraction_312 : decode cX12_writeFraction 312 = .ok (.goto 4, 3) := by decide +kernel
theorem dX12_writeFraction_315 : decode cX12_writeFraction 315 = .ok (.iconst 0, 1) := by decide +kernel
theorem dX12_writeFraction_316 : decode cX12_writeFraction 316 = .ok (.istore 15, 2) := by decide +kernel
theorem dX12_writeFraction_318 : decode cX12_writeFraction 318 = .ok (.iload_n 3, 1) := by decide +kernel
theorem dX12_writeFraction_319 : decode cX12_writeFraction 319 = .ok (.ifCond .eq 23, 3) := by decide +kernel
theorem dX12_writeFraction_322 : decode cX12_writeFraction 322 = .ok (.lload 10, 2) := by decide +kernel
theorem dX12_writeFraction_324 : decode cX12_writeFraction 324 = .ok (.lconst 0, 1) := by decide +kernel
theorem dX12_writeFraction_325 : decode cX12_writeFraction 325 = .ok (.lcmp, 1) := by decide +kernel
theorem dX12_writeFraction_326 : decode cX12_writeFraction 326 = .ok (.ifCond .gt 10, 3) := by decide +kernel
theorem dX12_writeFraction_329 : decode cX12_writeFraction 329 = .ok (.lload 13, 2) := by decide +kernel
theorem dX12_writeFraction_331 : decode cX12_writeFraction 331 = .ok (.lconst 0, 1) := by decide +kernel
theorem dX12_writeFraction_332 : decode cX12_writeFraction 332 = .ok (.lcmp, 1) := by decide +kernel
theorem dX12_writeFraction_333 : decode cX12_writeFraction 333 = .ok (.ifCond .le 9, 3) := by decide +kernel
theorem dX12_writeFraction_336 : decode cX12_writeFraction 336 = .ok (.aload_n 0, 1) := by decide +kernel
theorem dX12_writeFraction_337 : decode cX12_writeFraction 337 = .ok (.bipush 45, 2) := by decide +kernel
theorem dX12_writeFraction_339 : decode cX12_writeFraction 339 = .ok (.invokevirtual 278, 3) := by decide +kernel
theorem dX12_writeFraction_342 : decode cX12_writeFraction 342 = .ok (.iload 6, 2) := by decide +kernel
theorem dX12_writeFraction_344 : decode cX12_writeFraction 344 = .ok (.ifCond .eq 20, 3) := by decide +kernel
theorem dX12_writeFraction_347 : decode cX12_writeFraction 347 = .ok (.aload_n 0, 1) := by decide +kernel
theorem dX12_writeFraction_348 : decode cX12_writeFraction 348 = .ok (.lload 10, 2) := by decide +kernel
theorem dX12_writeFraction_350 : decode cX12_writeFraction 350 = .ok (.invokevirtual 323, 3) := by decide +kernel
theorem dX12_writeFraction_353 : decode cX12_writeFraction 353 = .ok (.aload_n 0, 1) := by decide +kernel
theorem dX12_writeFraction_354 : decode cX12_writeFraction 354 = .ok (.iload_n 1, 1) := by decide +kernel
theorem dX12_writeFraction_355 : decode cX12_writeFraction 355 = .ok (.iload 5, 2) := by decide +kernel
theorem dX12_writeFraction_357 : decode cX12_writeFraction 357 = .ok (.iconst 0, 1) := by decide +kernel
theorem dX12_writeFraction_358 : decode cX12_writeFraction 358 = .ok (.invokevirtual 331, 3) := by decide +kernel
theorem dX12_writeFraction_361 : decode cX12_writeFraction 361 = .ok (.goto 25, 3) := by decide +kernel
theorem dX12_writeFraction_364 : decode cX12_writeFraction 364 = .ok (.iload_n 1, 1) := by decide +kernel
theorem dX12_writeFraction_365 : decode cX12_writeFraction 365 = .ok (.istore 16, 2) := by decide +kernel
theorem dX12_writeFraction_367 : decode cX12_writeFraction 367 = .ok (.iload 16, 2) := by decide +kernel
theorem dX12_writeFraction_369 : decode cX12_writeFraction 369 = .ok (.iload 5, 2) := by decide +kernel
theorem dX12_writeFraction_371 : decode cX12_writeFraction 371 = .ok (.if_icmp .ge 15, 3) := by decide +kernel
theorem dX12_writeFraction_374 : decode cX12_writeFraction 374 = .ok (.aload_n 0, 1) := by decide +kernel
theorem dX12_writeFraction_375 : decode cX12_writeFraction 375 = .ok (.iload 16, 2) := by decide +kernel
theorem dX12_writeFraction_377 : decode cX12_writeFraction 377 = .ok (.invokevirtual 304, 3) := by decide +kernel
theorem dX12_writeFraction_380 : decode cX12_writeFraction 380 = .ok (.iinc 16 1, 3) := by decide +kernel
theorem dX12_writeFraction_383 : decode cX12_writeFraction 383 = .ok (.goto (-16), 3) := by decide +kernel
theorem dX12_writeFraction_386 : decode cX12_writeFraction 386 = .ok (.aload_n 0, 1) := by decide +kernel
theorem dX12_writeFraction_387 : decode cX12_writeFraction 387 = .ok (.lload 13, 2) := by decide +kernel
theorem dX12_writeFraction_389 : decode cX12_writeFraction 389 = .ok (.invokevirtual 323, 3) := by decide +kernel
theorem dX12_writeFraction_392 : decode cX12_writeFraction 392 = .ok (.iload 15, 2) := by decide +kernel
theorem dX12_writeFraction_394 : decode cX12_writeFraction 394 = .ok (.ifCond .eq 32, 3) := by decide +kernel
theorem dX12_writeFraction_397 : decode cX12_writeFraction 397 = .ok (.iload 5, 2) := by decide +kernel
theorem dX12_writeFraction_399 : decode cX12_writeFraction 399 = .ok (.istore 16, 2) := by decide +kernel
theorem dX12_writeFraction_401 : decode cX12_writeFraction 401 = .ok (.iload 16, 2) := by decide +kernel
theorem dX12_writeFraction_403 : decode cX12_writeFraction 403 = .ok (.iload 4, 2) := by decide +kernel
theorem dX12_writeFraction_405 : decode cX12_writeFraction 405 = .ok (.iload 8, 2) := by decide +kernel
theorem dX12_writeFraction_407 : decode cX12_writeFraction 407 = .ok (.iadd, 1) := by decide +kernel
theorem dX12_writeFraction_408 : decode cX12_writeFraction 408 = .ok (.if_icmp .gt 15, 3) := by decide +kernel
theorem dX12_writeFraction_411 : decode cX12_writeFraction 411 = .ok (.aload_n 0, 1) := by decide +kernel
theorem dX12_writeFraction_412 : decode cX12_writeFraction 412 = .ok (.bipush 32, 2) := by decide +kernel
theorem dX12_writeFraction_414 : decode cX12_writeFraction 414 = .ok (.invokevirtual 278, 3) := by decide +kernel
theorem dX12_writeFraction_417 : decode cX12_writeFraction 417 = .ok (.iinc 16 1, 3) := by decide +kernel
theorem dX12_writeFraction_420 : decode cX12_writeFraction 420 = .ok (.goto (-19), 3) := by decide +kernel
theorem dX12_writeFraction_423 : decode cX12_writeFraction 423 = .ok (.goto 99, 3) := by decide +kernel
theorem dX12_writeFraction_426 : decode cX12_writeFraction 426 = .ok (.aload_n 0, 1) := by decide +kernel
theorem dX12_writeFraction_427 : decode cX12_writeFraction 427 = .ok (.iload 5, 2) := by decide +kernel
theorem dX12_writeFraction_429 : decode cX12_writeFraction 429 = .ok (.iload 4, 2) := by decide +kernel
theorem dX12_writeFraction_431 : decode cX12_writeFraction 431 = .ok (.iconst 0, 1) := by decide +kernel
theorem dX12_writeFraction_432 : decode cX12_writeFraction 432 = .ok (.invokevirtual 331, 3) := by decide +kernel
theorem dX12_writeFraction_435 : decode cX12_writeFraction 435 = .ok (.aload_n 0, 1) := by decide +kernel
theorem dX12_writeFraction_436 : decode cX12_writeFraction 436 = .ok (.bipush 47, 2) := by decide +kernel
theorem dX12_writeFraction_438 : decode cX12_writeFraction 438 = .ok (.invokevirtual 278, 3) := by decide +kernel
theorem dX12_writeFraction_441 : decode cX12_writeFraction 441 = .ok (.aload_n 0, 1) := by decide +kernel
theorem dX12_writeFraction_442 : decode cX12_writeFraction 442 = .ok (.iload 12, 2) := by decide +kernel
theorem dX12_writeFraction_444 : decode cX12_writeFraction 444 = .ok (.i2l, 1) := by decide +kernel
theorem dX12_writeFraction_445 : decode cX12_writeFraction 445 = .ok (.iconst 1, 1) := by decide +kernel
theorem dX12_writeFraction_446 : decode cX12_writeFraction 446 = .ok (.invokevirtual 287, 3) := by decide +kernel
theorem dX12_writeFraction_449 : decode cX12_writeFraction 449 = .ok (.iload 12, 2) := by decide +kernel
theorem dX12_writeFraction_451 : decode cX12_writeFraction 451 = .ok (.bipush 99, 2) := by decide +kernel
theorem dX12_writeFraction_453 : decode cX12_writeFraction 453 = .ok (.if_icmp .le 7, 3) := by decide +kernel
theorem dX12_writeFraction_456 : decode cX12_writeFraction 456 = .ok (.iconst 3, 1) := by decide +kernel
theorem dX12_writeFraction_457 : decode cX12_writeFraction 457 = .ok (.goto 15, 3) := by decide +kernel
theorem dX12_writeFraction_460 : decode cX12_writeFraction 460 = .ok (.iload 12, 2) := by decide +kernel
theorem dX12_writeFraction_462 : decode cX12_writeFraction 462 = .ok (.bipush 9, 2) := by decide +kernel
theorem dX12_writeFraction_464 : decode cX12_writeFraction 464 = .ok (.if_icmp .le 7, 3) := by decide +kernel
theorem dX12_writeFraction_467 : decode cX12_writeFraction 467 = .ok (.iconst 2, 1) := by decide +kernel
theorem dX12_writeFraction_468 : decode cX12_writeFraction 468 = .ok (.goto 4, 3) := by decide +kernel
theorem dX12_writeFraction_471 : decode cX12_writeFraction 471 = .ok (.iconst 1, 1) := by decide +kernel
theorem dX12_writeFraction_472 : decode cX12_writeFraction 472 = .ok (.istore 16, 2) := by decide +kernel
theorem dX12_writeFraction_474 : decode cX12_writeFraction 474 = .ok (.iload 4, 2) := by decide +kernel
theorem dX12_writeFraction_476 : decode cX12_writeFraction 476 = .ok (.iconst 1, 1) := by decide +kernel
theorem dX12_writeFraction_477 : decode cX12_writeFraction 477 = .ok (.iadd, 1) := by decide +kernel
theorem dX12_writeFraction_478 : decode cX12_writeFraction 478 = .ok (.iload 16, 2) := by decide +kernel
theorem dX12_writeFraction_480 : decode cX12_writeFraction 480 = .ok (.iadd, 1) := by decide +kernel
theorem dX12_writeFraction_481 : decode cX12_writeFraction 481 = .ok (.istore 17, 2) := by decide +kernel
theorem dX12_writeFraction_483 : decode cX12_writeFraction 483 = .ok (.iload 7, 2) := by decide +kernel
theorem dX12_writeFraction_485 : decode cX12_writeFraction 485 = .ok (.ifCond .ne 37, 3) := by decide +kernel
theorem dX12_writeFraction_488 : decode cX12_writeFraction 488 = .ok (.iload 17, 2) := by decide +kernel
theorem dX12_writeFraction_490 : decode cX12_writeFraction 490 = .ok (.iload 4, 2) := by decide +kernel
theorem dX12_writeFraction_492 : decode cX12_writeFraction 492 = .ok (.iload 8, 2) := by decide +kernel
theorem dX12_writeFraction_494 : decode cX12_writeFraction 494 = .ok (.iadd, 1) := by decide +kernel
theorem dX12_writeFraction_495 : decode cX12_writeFraction 495 = .ok (.if_icmp .gt 27, 3) := by decide +kernel
theorem dX12_writeFraction_498 : decode cX12_writeFraction 498 = .ok (.aload_n 0, 1) := by decide +kernel
theorem dX12_writeFraction_499 : decode cX12_writeFraction 499 = .ok (.getfield 29, 3) := by decide +kernel
theorem dX12_writeFraction_502 : decode cX12_writeFraction 502 = .ok (.iload 17, 2) := by decide +kernel
theorem dX12_writeFraction_504 : decode cX12_writeFraction 504 = .ok (.iaload, 1) := by decide +kernel
theorem dX12_writeFraction_505 : decode cX12_writeFraction 505 = .ok (.bipush 63, 2) := by decide +kernel
theorem dX12_writeFraction_507 : decode cX12_writeFraction 507 = .ok (.if_icmp .ne 9, 3) := by decide +kernel
theorem dX12_writeFraction_510 : decode cX12_writeFraction 510 = .ok (.aload_n 0, 1) := by decide +kernel
theorem dX12_writeFraction_511 : decode cX12_writeFraction 511 = .ok (.bipush 32, 2) := by decide +kernel
theorem dX12_writeFraction_513 : decode cX12_writeFraction 513 = .ok (.invokevirtual 278, 3) := by decide +kernel
theorem dX12_writeFraction_516 : decode cX12_writeFraction 516 = .ok (.iinc 17 1, 3) := by decide +kernel
theorem dX12_writeFraction_519 : decode cX12_writeFraction 519 = .ok (.goto (-36), 3) := by decide +kernel
theorem dX12_writeFraction_522 : decode cX12_writeFraction 522 = .ok (.iload 4, 2) := by decide +kernel
theorem dX12_writeFraction_524 : decode cX12_writeFraction 524 = .ok (.iconst 1, 1) := by decide +kernel
theorem dX12_writeFraction_525 : decode cX12_writeFraction 525 = .ok (.iadd, 1) := by decide +kernel
theorem dX12_writeFraction_526 : decode cX12_writeFraction 526 = .ok (.iload 8, 2) := by decide +kernel
theorem dX12_writeFraction_528 : decode cX12_writeFraction 528 = .ok (.iadd, 1) := by decide +kernel
theorem dX12_writeFraction_529 : decode cX12_writeFraction 529 = .ok (.istore 16, 2) := by decide +kernel
theorem dX12_writeFraction_531 : decode cX12_writeFraction 531 = .ok (.iload 16, 2) := by decide +kernel
theorem dX12_writeFraction_533 : decode cX12_writeFraction 533 = .ok (.iload_n 2, 1) := by decide +kernel
theorem dX12_writeFraction_534 : decode cX12_writeFraction 534 = .ok (.if_icmp .ge 15, 3) := by decide +kernel
theorem dX12_writeFraction_537 : decode cX12_writeFraction 537 = .ok (.aload_n 0, 1) := by decide +kernel
theorem dX12_writeFraction_538 : decode cX12_writeFraction 538 = .ok (.iload 16, 2) := by decide +kernel
theorem dX12_writeFraction_540 : decode cX12_writeFraction 540 = .ok (.invokevirtual 304, 3) := by decide +kernel
theorem dX12_writeFraction_543 : decode cX12_writeFraction 543 = .ok (.iinc 16 1, 3) := by decide +kernel
theorem dX12_writeFraction_546 : decode cX12_writeFraction 546 = .ok (.goto (-15), 3) := by decide +kernel
theorem dX12_writeFraction_549 : decode cX12_writeFraction 549 = .ok (.return_, 1) := by decide +kernel
theorem dX12_isLeap_0 : decode cX12_isLeap 0 = .ok (.iload_n 0, 1) := by decide +kernel
theorem dX12_isLeap_1 : decode cX12_isLeap 1 = .ok (.iconst 4, 1) := by decide +kernel
theorem dX12_isLeap_2 : decode cX12_isLeap 2 = .ok (.irem, 1) := by decide +kernel
theorem dX12_isLeap_3 : decode cX12_isLeap 3 = .ok (.ifCond .ne 22, 3) := by decide +kernel
theorem dX12_isLeap_6 : decode cX12_isLeap 6 = .ok (.iload_n 0, 1) := by decide +kernel
theorem dX12_isLeap_7 : decode cX12_isLeap 7 = .ok (.bipush 100, 2) := by decide +kernel
theorem dX12_isLeap_9 : decode cX12_isLeap 9 = .ok (.irem, 1) := by decide +kernel
theorem dX12_isLeap_10 : decode cX12_isLeap 10 = .ok (.ifCond .ne 11, 3) := by decide +kernel
theorem dX12_isLeap_13 : decode cX12_isLeap 13 = .ok (.iload_n 0, 1) := by decide +kernel
theorem dX12_isLeap_14 : decode cX12_isLeap 14 = .ok (.sipush 400, 3) := by decide +kernel
theorem dX12_isLeap_17 : decode cX12_isLeap 17 = .ok (.irem, 1) := by decide +kernel
theorem dX12_isLeap_18 : decode cX12_isLeap 18 = .ok (.ifCond .ne 7, 3) := by decide +kernel
theorem dX12_isLeap_21 : decode cX12_isLeap 21 = .ok (.iconst 1, 1) := by decide +kernel
theorem dX12_isLeap_22 : decode cX12_isLeap 22 = .ok (.goto 4, 3) := by decide +kernel
theorem dX12_isLeap_25 : decode cX12_isLeap 25 = .ok (.iconst 0, 1) := by decide +kernel
theorem dX12_isLeap_26 : decode cX12_isLeap 26 = .ok (.ireturn, 1) := by decide +kernel
theorem dX12_daysOf_0 : decode cX12_daysOf 0 = .ok (.iload_n 1, 1) := by decide +kernel
theorem dX12_daysOf_1 : decode cX12_daysOf 1 = .ok (.iconst 2, 1) := by decide +kernel
theorem dX12_daysOf_2 : decode cX12_daysOf 2 = .ok (.if_icmp .ne 20, 3) := by decide +kernel
theorem dX12_daysOf_5 : decode cX12_daysOf 5 = .ok (.iload_n 0, 1) := by decide +kernel
theorem dX12_daysOf_6 : decode cX12_daysOf 6 = .ok (.invokestatic 352, 3) := by decide +kernel
theorem dX12_daysOf_9 : decode cX12_daysOf 9 = .ok (.ifCond .eq 8, 3) := by decide +kernel
theorem dX12_daysOf_12 : decode cX12_daysOf 12 = .ok (.bipush 29, 2) := by decide +kernel
theorem dX12_daysOf_14 : decode cX12_daysOf 14 = .ok (.goto 38, 3) := by decide +kernel
theorem dX12_daysOf_17 : decode cX12_daysOf 17 = .ok (.bipush 28, 2) := by decide +kernel
theorem dX12_daysOf_19 : decode cX12_daysOf 19 = .ok (.goto 33, 3) := by decide +kernel
theorem dX12_daysOf_22 : decode cX12_daysOf 22 = .ok (.iload_n 1, 1) := by decide +kernel
theorem dX12_daysOf_23 : decode cX12_daysOf 23 = .ok (.iconst 4, 1) := by decide +kernel
theorem dX12_daysOf_24 : decode cX12_daysOf 24 = .ok (.if_icmp .eq 21, 3) := by decide +kernel
theorem dX12_daysOf_27 : decode cX12_daysOf 27 = .ok (.iload_n 1, 1) := by decide +kernel
theorem dX12_daysOf_28 : decode cX12_daysOf 28 = .ok (.bipush 6, 2) := by decide +kernel
theorem dX12_daysOf_30 : decode cX12_daysOf 30 = .ok (.if_icmp .eq 15, 3) := by decide +kernel
theorem dX12_daysOf_33 : decode cX12_daysOf 33 = .ok (.iload_n 1, 1) := by decide +kernel
theorem dX12_daysOf_34 : decode cX12_daysOf 34 = .ok (.bipush 9, 2) := by decide +kernel
theorem dX12_daysOf_36 : decode cX12_daysOf 36 = .ok (.if_icmp .eq 9, 3) := by decide +kernel
theorem dX12_daysOf_39 : decode cX12_daysOf 39 = .ok (.iload_n 1, 1) := by decide +kernel
theorem dX12_daysOf_40 : decode cX12_daysOf 40 = .ok (.bipush 11, 2) := by decide +kernel
theorem dX12_daysOf_42 : decode cX12_daysOf 42 = .ok (.if_icmp .ne 8, 3) := by decide +kernel
theorem dX12_daysOf_45 : decode cX12_daysOf 45 = .ok (.bipush 30, 2) := by decide +kernel
theorem dX12_daysOf_47 : decode cX12_daysOf 47 = .ok (.goto 5, 3) := by decide +kernel
theorem dX12_daysOf_50 : decode cX12_daysOf 50 = .ok (.bipush 31, 2) := by decide +kernel
theorem dX12_daysOf_52 : decode cX12_daysOf 52 = .ok (.ireturn, 1) := by decide +kernel
theorem dX12_monthName_0 : decode cX12_monthName 0 = .ok (.iload_n 0, 1) := by decide +kernel
theorem dX12_monthName_1 : decode cX12_monthName 1 = .ok (.tableswitch 103 1 11 #[59, 63, 67, 71, 75, 79, 83, 87, 91, 95, 99], 59) := by decide +kernel
theorem dX12_monthName_60 : decode cX12_monthName 60 = .ok (.ldc2_w 355, 3) := by decide +kernel
theorem dX12_monthName_63 : decode cX12_monthName 63 = .ok (.lreturn, 1) := by decide +kernel
theorem dX12_monthName_64 : decode cX12_monthName 64 = .ok (.ldc2_w 357, 3) := by decide +kernel
theorem dX12_monthName_67 : decode cX12_monthName 67 = .ok (.lreturn, 1) := by decide +kernel
theorem dX12_monthName_68 : decode cX12_monthName 68 = .ok (.ldc2_w 359, 3) := by decide +kernel
theorem dX12_monthName_71 : decode cX12_monthName 71 = .ok (.lreturn, 1) := by decide +kernel
theorem dX12_monthName_72 : decode cX12_monthName 72 = .ok (.ldc2_w 361, 3) := by decide +kernel
theorem dX12_monthName_75 : decode cX12_monthName 75 = .ok (.lreturn, 1) := by decide +kernel
theorem dX12_monthName_76 : decode cX12_monthName 76 = .ok (.ldc2_w 363, 3) := by decide +kernel
theorem dX12_monthName_79 : decode cX12_monthName 79 = .ok (.lreturn, 1) := by decide +kernel
theorem dX12_monthName_80 : decode cX12_monthName 80 = .ok (.ldc2_w 365, 3) := by decide +kernel
theorem dX12_monthName_83 : decode cX12_monthName 83 = .ok (.lreturn, 1) := by decide +kernel
theorem dX12_monthName_84 : decode cX12_monthName 84 = .ok (.ldc2_w 367, 3) := by decide +kernel
theorem dX12_monthName_87 : decode cX12_monthName 87 = .ok (.lreturn, 1) := by decide +kernel
theorem dX12_monthName_88 : decode cX12_monthName 88 = .ok (.ldc2_w 369, 3) := by decide +kernel
theorem dX12_monthName_91 : decode cX12_monthName 91 = .ok (.lreturn, 1) := by decide +kernel
theorem dX12_monthName_92 : decode cX12_monthName 92 = .ok (.ldc2_w 371, 3) := by decide +kernel
theorem dX12_monthName_95 : decode cX12_monthName 95 = .ok (.lreturn, 1) := by decide +kernel
theorem dX12_monthName_96 : decode cX12_monthName 96 = .ok (.ldc2_w 373, 3) := by decide +kernel
theorem dX12_monthName_99 : decode cX12_monthName 99 = .ok (.lreturn, 1) := by decide +kernel
theorem dX12_monthName_100 : decode cX12_monthName 100 = .ok (.ldc2_w 375, 3) := by decide +kernel
theorem dX12_monthName_103 : decode cX12_monthName 103 = .ok (.lreturn, 1) := by decide +kernel
theorem dX12_monthName_104 : decode cX12_monthName 104 = .ok (.ldc2_w 377, 3) := by decide +kernel
theorem dX12_monthName_107 : decode cX12_monthName 107 = .ok (.lreturn, 1) := by decide +kernel
theorem dX12_dayName_0 : decode cX12_dayName 0 = .ok (.iload_n 0, 1) := by decide +kernel
theorem dX12_dayName_1 : decode cX12_dayName 1 = .ok (.tableswitch 63 0 5 #[39, 43, 47, 51, 55, 59], 39) := by decide +kernel
theorem dX12_dayName_40 : decode cX12_dayName 40 = .ok (.ldc2_w 379, 3) := by decide +kernel
theorem dX12_dayName_43 : decode cX12_dayName 43 = .ok (.lreturn, 1) := by decide +kernel
theorem dX12_dayName_44 : decode cX12_dayName 44 = .ok (.ldc2_w 381, 3) := by decide +kernel
theorem dX12_dayName_47 : decode cX12_dayName 47 = .ok (.lreturn, 1) := by decide +kernel
theorem dX12_dayName_48 : decode cX12_dayName 48 = .ok (.ldc2_w 383, 3) := by decide +kernel
theorem dX12_dayName_51 : decode cX12_dayName 51 = .ok (.lreturn, 1) := by decide +kernel
theorem dX12_dayName_52 : decode cX12_dayName 52 = .ok (.ldc2_w 385, 3) := by decide +kernel
theorem dX12_dayName_55 : decode cX12_dayName 55 = .ok (.lreturn, 1) := by decide +kernel
theorem dX12_dayName_56 : decode cX12_dayName 56 = .ok (.ldc2_w 387, 3) := by decide +kernel
theorem dX12_dayName_59 : decode cX12_dayName 59 = .ok (.lreturn, 1) := by decide +kernel
theorem dX12_dayName_60 : decode cX12_dayName 60 = .ok (.ldc2_w 389, 3) := by decide +kernel
theorem dX12_dayName_63 : decode cX12_dayName 63 = .ok (.lreturn, 1) := by decide +kernel
theorem dX12_dayName_64 : decode cX12_dayName 64 = .ok (.ldc2_w 391, 3) := by decide +kernel
theorem dX12_dayName_67 : decode cX12_dayName 67 = .ok (.lreturn, 1) := by decide +kernel
theorem dX12_writeName_0 : decode cX12_writeName 0 = .ok (.iconst 0, 1) := by decide +kernel
theorem dX12_writeName_1 : decode cX12_writeName 1 = .ok (.istore 4, 2) := by decide +kernel
theorem dX12_writeName_3 : decode cX12_writeName 3 = .ok (.bipush 56, 2) := by decide +kernel
theorem dX12_writeName_5 : decode cX12_writeName 5 = .ok (.istore 5, 2) := by decide +kernel
theorem dX12_writeName_7 : decode cX12_writeName 7 = .ok (.iload 5, 2) := by decide +kernel
theorem dX12_writeName_9 : decode cX12_writeName 9 = .ok (.ifCond .lt 43, 3) := by decide +kernel
theorem dX12_writeName_12 : decode cX12_writeName 12 = .ok (.lload_n 1, 1) := by decide +kernel
theorem dX12_writeName_13 : decode cX12_writeName 13 = .ok (.iload 5, 2) := by decide +kernel
theorem dX12_writeName_15 : decode cX12_writeName 15 = .ok (.lshr, 1) := by decide +kernel
theorem dX12_writeName_16 : decode cX12_writeName 16 = .ok (.ldc2_w 163, 3) := by decide +kernel
theorem dX12_writeName_19 : decode cX12_writeName 19 = .ok (.land, 1) := by decide +kernel
theorem dX12_writeName_20 : decode cX12_writeName 20 = .ok (.l2i, 1) := by decide +kernel
theorem dX12_writeName_21 : decode cX12_writeName 21 = .ok (.istore 6, 2) := by decide +kernel
theorem dX12_writeName_23 : decode cX12_writeName 23 = .ok (.iload 6, 2) := by decide +kernel
theorem dX12_writeName_25 : decode cX12_writeName 25 = .ok (.ifCond .eq 21, 3) := by decide +kernel
theorem dX12_writeName_28 : decode cX12_writeName 28 = .ok (.iload 4, 2) := by decide +kernel
theorem dX12_writeName_30 : decode cX12_writeName 30 = .ok (.iload_n 3, 1) := by decide +kernel
theorem dX12_writeName_31 : decode cX12_writeName 31 = .ok (.if_icmp .ne 6, 3) := by decide +kernel
theorem dX12_writeName_34 : decode cX12_writeName 34 = .ok (.goto 12, 3) := by decide +kernel
theorem dX12_writeName_37 : decode cX12_writeName 37 = .ok (.aload_n 0, 1) := by decide +kernel
theorem dX12_writeName_38 : decode cX12_writeName 38 = .ok (.iload 6, 2) := by decide +kernel
theorem dX12_writeName_40 : decode cX12_writeName 40 = .ok (.invokevirtual 278, 3) := by decide +kernel
theorem dX12_writeName_43 : decode cX12_writeName 43 = .ok (.iinc 4 1, 3) := by decide +kernel
theorem dX12_writeName_46 : decode cX12_writeName 46 = .ok (.iinc 5 (-8), 3) := by decide +kernel
theorem dX12_writeName_49 : decode cX12_writeName 49 = .ok (.goto (-42), 3) := by decide +kernel
theorem dX12_writeName_52 : decode cX12_writeName 52 = .ok (.return_, 1) := by decide +kernel
theorem dX12_writeMonth_0 : decode cX12_writeMonth 0 = .ok (.iload_n 2, 1) := by decide +kernel
theorem dX12_writeMonth_1 : decode cX12_writeMonth 1 = .ok (.iconst 3, 1) := by decide +kernel
theorem dX12_writeMonth_2 : decode cX12_writeMonth 2 = .ok (.if_icmp .ge 13, 3) := by decide +kernel
theorem dX12_writeMonth_5 : decode cX12_writeMonth 5 = .ok (.aload_n 0, 1) := by decide +kernel
theorem dX12_writeMonth_6 : decode cX12_writeMonth 6 = .ok (.iload_n 1, 1) := by decide +kernel
theorem dX12_writeMonth_7 : decode cX12_writeMonth 7 = .ok (.i2l, 1) := by decide +kernel
theorem dX12_writeMonth_8 : decode cX12_writeMonth 8 = .ok (.iload_n 2, 1) := by decide +kernel
theorem dX12_writeMonth_9 : decode cX12_writeMonth 9 = .ok (.invokevirtual 287, 3) := by decide +kernel
theorem dX12_writeMonth_12 : decode cX12_writeMonth 12 = .ok (.goto 51, 3) := by decide +kernel
theorem dX12_writeMonth_15 : decode cX12_writeMonth 15 = .ok (.iload_n 2, 1) := by decide +kernel
theorem dX12_writeMonth_16 : decode cX12_writeMonth 16 = .ok (.iconst 4, 1) := by decide +kernel
theorem dX12_writeMonth_17 : decode cX12_writeMonth 17 = .ok (.if_icmp .eq 24, 3) := by decide +kernel
theorem dX12_writeMonth_20 : decode cX12_writeMonth 20 = .ok (.aload_n 0, 1) := by decide +kernel
theorem dX12_writeMonth_21 : decode cX12_writeMonth 21 = .ok (.iload_n 1, 1) := by decide +kernel
theorem dX12_writeMonth_22 : decode cX12_writeMonth 22 = .ok (.invokestatic 393, 3) := by decide +kernel
theorem dX12_writeMonth_25 : decode cX12_writeMonth 25 = .ok (.iload_n 2, 1) := by decide +kernel
theorem dX12_writeMonth_26 : decode cX12_writeMonth 26 = .ok (.iconst 3, 1) := by decide +kernel
theorem dX12_writeMonth_27 : decode cX12_writeMonth 27 = .ok (.if_icmp .ne 7, 3) := by decide +kernel
theorem dX12_writeMonth_30 : decode cX12_writeMonth 30 = .ok (.iconst 3, 1) := by decide +kernel
theorem dX12_writeMonth_31 : decode cX12_writeMonth 31 = .ok (.goto 4, 3) := by decide +kernel
theorem dX12_writeMonth_34 : decode cX12_writeMonth 34 = .ok (.iconst 1, 1) := by decide +kernel
theorem dX12_writeMonth_35 : decode cX12_writeMonth 35 = .ok (.invokevirtual 397, 3) := by decide +kernel
theorem dX12_writeMonth_38 : decode cX12_writeMonth 38 = .ok (.goto 25, 3) := by decide +kernel
theorem dX12_writeMonth_41 : decode cX12_writeMonth 41 = .ok (.aload_n 0, 1) := by decide +kernel
theorem dX12_writeMonth_42 : decode cX12_writeMonth 42 = .ok (.iload_n 1, 1) := by decide +kernel
theorem dX12_writeMonth_43 : decode cX12_writeMonth 43 = .ok (.invokestatic 393, 3) := by decide +kernel
theorem dX12_writeMonth_46 : decode cX12_writeMonth 46 = .ok (.bipush 8, 2) := by decide +kernel
theorem dX12_writeMonth_48 : decode cX12_writeMonth 48 = .ok (.invokevirtual 397, 3) := by decide +kernel
theorem dX12_writeMonth_51 : decode cX12_writeMonth 51 = .ok (.iload_n 1, 1) := by decide +kernel
theorem dX12_writeMonth_52 : decode cX12_writeMonth 52 = .ok (.bipush 9, 2) := by decide +kernel
theorem dX12_writeMonth_54 : decode cX12_writeMonth 54 = .ok (.if_icmp .ne 9, 3) := by decide +kernel
theorem dX12_writeMonth_57 : decode cX12_writeMonth 57 = .ok (.aload_n 0, 1) := by decide +kernel
theorem dX12_writeMonth_58 : decode cX12_writeMonth 58 = .ok (.bipush 114, 2) := by decide +kernel
theorem dX12_writeMonth_60 : decode cX12_writeMonth 60 = .ok (.invokevirtual 278, 3) := by decide +kernel
theorem dX12_writeMonth_63 : decode cX12_writeMonth 63 = .ok (.return_, 1) := by decide +kernel
theorem dX12_writeDay_0 : decode cX12_writeDay 0 = .ok (.iload_n 3, 1) := by decide +kernel
theorem dX12_writeDay_1 : decode cX12_writeDay 1 = .ok (.iconst 3, 1) := by decide +kernel
theorem dX12_writeDay_2 : decode cX12_writeDay 2 = .ok (.if_icmp .ge 13, 3) := by decide +kernel
theorem dX12_writeDay_5 : decode cX12_writeDay 5 = .ok (.aload_n 0, 1) := by decide +kernel
theorem dX12_writeDay_6 : decode cX12_writeDay 6 = .ok (.iload_n 2, 1) := by decide +kernel
theorem dX12_writeDay_7 : decode cX12_writeDay 7 = .ok (.i2l, 1) := by decide +kernel
theorem dX12_writeDay_8 : decode cX12_writeDay 8 = .ok (.iload_n 3, 1) := by decide +kernel
theorem dX12_writeDay_9 : decode cX12_writeDay 9 = .ok (.invokevirtual 287, 3) := by decide +kernel
theorem dX12_writeDay_12 : decode cX12_writeDay 12 = .ok (.goto 22, 3) := by decide +kernel
theorem dX12_writeDay_15 : decode cX12_writeDay 15 = .ok (.aload_n 0, 1) := by decide +kernel
theorem dX12_writeDay_16 : decode cX12_writeDay 16 = .ok (.iload_n 1, 1) := by decide +kernel
theorem dX12_writeDay_17 : decode cX12_writeDay 17 = .ok (.invokestatic 400, 3) := by decide +kernel
theorem dX12_writeDay_20 : decode cX12_writeDay 20 = .ok (.iload_n 3, 1) := by decide +kernel
theorem dX12_writeDay_21 : decode cX12_writeDay 21 = .ok (.iconst 3, 1) := by decide +kernel
theorem dX12_writeDay_22 : decode cX12_writeDay 22 = .ok (.if_icmp .ne 7, 3) := by decide +kernel
theorem dX12_writeDay_25 : decode cX12_writeDay 25 = .ok (.iconst 3, 1) := by decide +kernel
theorem dX12_writeDay_26 : decode cX12_writeDay 26 = .ok (.goto 5, 3) := by decide +kernel
theorem dX12_writeDay_29 : decode cX12_writeDay 29 = .ok (.bipush 8, 2) := by decide +kernel
theorem dX12_writeDay_31 : decode cX12_writeDay 31 = .ok (.invokevirtual 397, 3) := by decide +kernel
theorem dX12_writeDay_34 : decode cX12_writeDay 34 = .ok (.iload_n 3, 1) := by decide +kernel
theorem dX12_writeDay_35 : decode cX12_writeDay 35 = .ok (.iconst 4, 1) := by decide +kernel
theorem dX12_writeDay_36 : decode cX12_writeDay 36 = .ok (.if_icmp .ne 14, 3) := by decide +kernel
theorem dX12_writeDay_39 : decode cX12_writeDay 39 = .ok (.iload_n 1, 1) := by decide +kernel
theorem dX12_writeDay_40 : decode cX12_writeDay 40 = .ok (.iconst 4, 1) := by decide +kernel
theorem dX12_writeDay_41 : decode cX12_writeDay 41 = .ok (.if_icmp .ne 9, 3) := by decide +kernel
theorem dX12_writeDay_44 : decode cX12_writeDay 44 = .ok (.aload_n 0, 1) := by decide +kernel
theorem dX12_writeDay_45 : decode cX12_writeDay 45 = .ok (.bipush 121, 2) := by decide +kernel
theorem dX12_writeDay_47 : decode cX12_writeDay 47 = .ok (.invokevirtual 278, 3) := by decide +kernel
theorem dX12_writeDay_50 : decode cX12_writeDay 50 = .ok (.return_, 1) := by decide +kernel
theorem dX12_letterBy_0 : decode cX12_letterBy 0 = .ok (.iload_n 1, 1) := by decide +kernel
theorem dX12_letterBy_1 : decode cX12_letterBy 1 = .ok (.iload_n 2, 1) := by decide +kernel
theorem dX12_letterBy_2 : decode cX12_letterBy 2 = .ok (.iadd, 1) := by decide +kernel
theorem dX12_letterBy_3 : decode cX12_letterBy 3 = .ok (.istore 5, 2) := by decide +kernel
theorem dX12_letterBy_5 : decode cX12_letterBy 5 = .ok (.iload 5, 2) := by decide +kernel
theorem dX12_letterBy_7 : decode cX12_letterBy 7 = .ok (.iload_n 3, 1) := by decide +kernel
theorem dX12_letterBy_8 : decode cX12_letterBy 8 = .ok (.if_icmp .lt 43, 3) := by decide +kernel
theorem dX12_letterBy_11 : decode cX12_letterBy 11 = .ok (.iload 5, 2) := by decide +kernel
theorem dX12_letterBy_13 : decode cX12_letterBy 13 = .ok (.iload 4, 2) := by decide +kernel
theorem dX12_letterBy_15 : decode cX12_letterBy 15 = .ok (.if_icmp .ge 36, 3) := by decide +kernel
theorem dX12_letterBy_18 : decode cX12_letterBy 18 = .ok (.aload_n 0, 1) := by decide +kernel
theorem dX12_letterBy_19 : decode cX12_letterBy 19 = .ok (.getfield 26, 3) := by decide +kernel
theorem dX12_letterBy_22 : decode cX12_letterBy 22 = .ok (.iload 5, 2) := by decide +kernel
theorem dX12_letterBy_24 : decode cX12_letterBy 24 = .ok (.iaload, 1) := by decide +kernel
theorem dX12_letterBy_25 : decode cX12_letterBy 25 = .ok (.bipush 10, 2) := by decide +kernel
theorem dX12_letterBy_27 : decode cX12_letterBy 27 = .ok (.if_icmp .eq 24, 3) := by decide +kernel
theorem dX12_letterBy_30 : decode cX12_letterBy 30 = .ok (.aload_n 0, 1) := by decide +kernel
theorem dX12_letterBy_31 : decode cX12_letterBy 31 = .ok (.getfield 26, 3) := by decide +kernel
theorem dX12_letterBy_34 : decode cX12_letterBy 34 = .ok (.iload 5, 2) := by decide +kernel
theorem dX12_letterBy_36 : decode cX12_letterBy 36 = .ok (.iaload, 1) := by decide +kernel
theorem dX12_letterBy_37 : decode cX12_letterBy 37 = .ok (.bipush 12, 2) := by decide +kernel
theorem dX12_letterBy_39 : decode cX12_letterBy 39 = .ok (.if_icmp .eq 12, 3) := by decide +kernel
theorem dX12_letterBy_42 : decode cX12_letterBy 42 = .ok (.iload 5, 2) := by decide +kernel
theorem dX12_letterBy_44 : decode cX12_letterBy 44 = .ok (.iload_n 2, 1) := by decide +kernel
theorem dX12_letterBy_45 : decode cX12_letterBy 45 = .ok (.iadd, 1) := by decide +kernel
theorem dX12_letterBy_46 : decode cX12_letterBy 46 = .ok (.istore 5, 2) := by decide +kernel
theorem dX12_letterBy_48 : decode cX12_letterBy 48 = .ok (.goto (-43), 3) := by decide +kernel
theorem dX12_letterBy_51 : decode cX12_letterBy 51 = .ok (.iload 5, 2) := by decide +kernel
theorem dX12_letterBy_53 : decode cX12_letterBy 53 = .ok (.iload_n 3, 1) := by decide +kernel
theorem dX12_letterBy_54 : decode cX12_letterBy 54 = .ok (.if_icmp .lt 23, 3) := by decide +kernel
theorem dX12_letterBy_57 : decode cX12_letterBy 57 = .ok (.iload 5, 2) := by decide +kernel
theorem dX12_letterBy_59 : decode cX12_letterBy 59 = .ok (.iload 4, 2) := by decide +kernel
theorem dX12_letterBy_61 : decode cX12_letterBy 61 = .ok (.if_icmp .ge 16, 3) := by decide +kernel
theorem dX12_letterBy_64 : decode cX12_letterBy 64 = .ok (.aload_n 0, 1) := by decide +kernel
theorem dX12_letterBy_65 : decode cX12_letterBy 65 = .ok (.getfield 29, 3) := by decide +kernel
theorem dX12_letterBy_68 : decode cX12_letterBy 68 = .ok (.iload 5, 2) := by decide +kernel
theorem dX12_letterBy_70 : decode cX12_letterBy 70 = .ok (.iaload, 1) := by decide +kernel
theorem dX12_letterBy_71 : decode cX12_letterBy 71 = .ok (.bipush 8, 2) := by decide +kernel
theorem dX12_letterBy_73 : decode cX12_letterBy 73 = .ok (.idiv, 1) := by decide +kernel
theorem dX12_letterBy_74 : decode cX12_letterBy 74 = .ok (.goto 4, 3) := by decide +kernel
theorem dX12_letterBy_77 : decode cX12_letterBy 77 = .ok (.iconst 0, 1) := by decide +kernel
theorem dX12_letterBy_78 : decode cX12_letterBy 78 = .ok (.ireturn, 1) := by decide +kernel
theorem dX12_writeDate_0 : decode cX12_writeDate 0 = .ok (.iconst 0, 1) := by decide +kernel
theorem dX12_writeDate_1 : decode cX12_writeDate 1 = .ok (.istore_n 3, 1) := by decide +kernel
theorem dX12_writeDate_2 : decode cX12_writeDate 2 = .ok (.iload_n 1, 1) := by decide +kernel
theorem dX12_writeDate_3 : decode cX12_writeDate 3 = .ok (.istore 4, 2) := by decide +kernel
theorem dX12_writeDate_5 : decode cX12_writeDate 5 = .ok (.iload 4, 2) := by decide +kernel
theorem dX12_writeDate_7 : decode cX12_writeDate 7 = .ok (.iload_n 2, 1) := by decide +kernel
theorem dX12_writeDate_8 : decode cX12_writeDate 8 = .ok (.if_icmp .ge 39, 3) := by decide +kernel
theorem dX12_writeDate_11 : decode cX12_writeDate 11 = .ok (.aload_n 0, 1) := by decide +kernel
theorem dX12_writeDate_12 : decode cX12_writeDate 12 = .ok (.getfield 26, 3) := by decide +kernel
theorem dX12_writeDate_15 : decode cX12_writeDate 15 = .ok (.aload_n 0, 1) := by decide +kernel
theorem dX12_writeDate_16 : decode cX12_writeDate 16 = .ok (.getfield 29, 3) := by decide +kernel
theorem dX12_writeDate_19 : decode cX12_writeDate 19 = .ok (.iload 4, 2) := by decide +kernel
theorem dX12_writeDate_21 : decode cX12_writeDate 21 = .ok (.iload_n 1, 1) := by decide +kernel
theorem dX12_writeDate_22 : decode cX12_writeDate 22 = .ok (.iload_n 2, 1) := by decide +kernel
theorem dX12_writeDate_23 : decode cX12_writeDate 23 = .ok (.invokestatic 241, 3) := by decide +kernel
theorem dX12_writeDate_26 : decode cX12_writeDate 26 = .ok (.istore 5, 2) := by decide +kernel
theorem dX12_writeDate_28 : decode cX12_writeDate 28 = .ok (.iload 5, 2) := by decide +kernel
theorem dX12_writeDate_30 : decode cX12_writeDate 30 = .ok (.iload_n 3, 1) := by decide +kernel
theorem dX12_writeDate_31 : decode cX12_writeDate 31 = .ok (.if_icmp .le 8, 3) := by decide +kernel
theorem dX12_writeDate_34 : decode cX12_writeDate 34 = .ok (.iload 5, 2) := by decide +kernel
theorem dX12_writeDate_36 : decode cX12_writeDate 36 = .ok (.goto 4, 3) := by decide +kernel
theorem dX12_writeDate_39 : decode cX12_writeDate 39 = .ok (.iload_n 3, 1) := by decide +kernel
theorem dX12_writeDate_40 : decode cX12_writeDate 40 = .ok (.istore_n 3, 1) := by decide +kernel
theorem dX12_writeDate_41 : decode cX12_writeDate 41 = .ok (.iinc 4 1, 3) := by decide +kernel
theorem dX12_writeDate_44 : decode cX12_writeDate 44 = .ok (.goto (-39), 3) := by decide +kernel
theorem dX12_writeDate_47 : decode cX12_writeDate 47 = .ok (.iload_n 3, 1) := by decide +kernel
theorem dX12_writeDate_48 : decode cX12_writeDate 48 = .ok (.ifCond .ne 7, 3) := by decide +kernel
theorem dX12_writeDate_51 : decode cX12_writeDate 51 = .ok (.iconst 1, 1) := by decide +kernel
theorem dX12_writeDate_52 : decode cX12_writeDate 52 = .ok (.goto 26, 3) := by decide +kernel
theorem dX12_writeDate_55 : decode cX12_writeDate 55 = .ok (.iload_n 3, 1) := by decide +kernel
theorem dX12_writeDate_56 : decode cX12_writeDate 56 = .ok (.iconst 1, 1) := by decide +kernel
theorem dX12_writeDate_57 : decode cX12_writeDate 57 = .ok (.if_icmp .ne 8, 3) := by decide +kernel
theorem dX12_writeDate_60 : decode cX12_writeDate 60 = .ok (.bipush 10, 2) := by decide +kernel
theorem dX12_writeDate_62 : decode cX12_writeDate 62 = .ok (.goto 16, 3) := by decide +kernel
theorem dX12_writeDate_65 : decode cX12_writeDate 65 = .ok (.iload_n 3, 1) := by decide +kernel
theorem dX12_writeDate_66 : decode cX12_writeDate 66 = .ok (.iconst 2, 1) := by decide +kernel
theorem dX12_writeDate_67 : decode cX12_writeDate 67 = .ok (.if_icmp .ne 8, 3) := by decide +kernel
theorem dX12_writeDate_70 : decode cX12_writeDate 70 = .ok (.bipush 100, 2) := by decide +kernel
theorem dX12_writeDate_72 : decode cX12_writeDate 72 = .ok (.goto 6, 3) := by decide +kernel
theorem dX12_writeDate_75 : decode cX12_writeDate 75 = .ok (.sipush 1000, 3) := by decide +kernel
theorem dX12_writeDate_78 : decode cX12_writeDate 78 = .ok (.istore 4, 2) := by decide +kernel
theorem dX12_writeDate_80 : decode cX12_writeDate 80 = .ok (.aload_n 0, 1) := by decide +kernel
theorem dX12_writeDate_81 : decode cX12_writeDate 81 = .ok (.getfield 95, 3) := by decide +kernel
theorem dX12_writeDate_84 : decode cX12_writeDate 84 = .ok (.dconst 0, 1) := by decide +kernel
theorem dX12_writeDate_85 : decode cX12_writeDate 85 = .ok (.dcmp .l, 1) := by decide +kernel
theorem dX12_writeDate_86 : decode cX12_writeDate 86 = .ok (.ifCond .lt 18, 3) := by decide +kernel
theorem dX12_writeDate_89 : decode cX12_writeDate 89 = .ok (.aload_n 0, 1) := by decide +kernel
theorem dX12_writeDate_90 : decode cX12_writeDate 90 = .ok (.getfield 95, 3) := by decide +kernel
theorem dX12_writeDate_93 : decode cX12_writeDate 93 = .ok (.ldc2_w 403, 3) := by decide +kernel
theorem dX12_writeDate_96 : decode cX12_writeDate 96 = .ok (.dcmp .g, 1) := by decide +kernel
theorem dX12_writeDate_97 : decode cX12_writeDate 97 = .ok (.ifCond .ge 7, 3) := by decide +kernel
theorem dX12_writeDate_100 : decode cX12_writeDate 100 = .ok (.iconst 1, 1) := by decide +kernel
theorem dX12_writeDate_101 : decode cX12_writeDate 101 = .ok (.goto 4, 3) := by decide +kernel
theorem dX12_writeDate_104 : decode cX12_writeDate 104 = .ok (.iconst 0, 1) := by decide +kernel
theorem dX12_writeDate_105 : decode cX12_writeDate 105 = .ok (.istore 5, 2) := by decide +kernel
theorem dX12_writeDate_107 : decode cX12_writeDate 107 = .ok (.lconst 0, 1) := by decide +kernel
theorem dX12_writeDate_108 : decode cX12_writeDate 108 = .ok (.lstore 6, 2) := by decide +kernel
theorem dX12_writeDate_110 : decode cX12_writeDate 110 = .ok (.iload 5, 2) := by decide +kernel
theorem dX12_writeDate_112 : decode cX12_writeDate 112 = .ok (.ifCond .eq 84, 3) := by decide +kernel
theorem dX12_writeDate_115 : decode cX12_writeDate 115 = .ok (.aload_n 0, 1) := by decide +kernel
theorem dX12_writeDate_116 : decode cX12_writeDate 116 = .ok (.invokevirtual 281, 3) := by decide +kernel
theorem dX12_writeDate_119 : decode cX12_writeDate 119 = .ok (.aload_n 0, 1) := by decide +kernel
theorem dX12_writeDate_120 : decode cX12_writeDate 120 = .ok (.getfield 66, 3) := by decide +kernel
theorem dX12_writeDate_123 : decode cX12_writeDate 123 = .ok (.aload_n 0, 1) := by decide +kernel
theorem dX12_writeDate_124 : decode cX12_writeDate 124 = .ok (.getfield 63, 3) := by decide +kernel
theorem dX12_writeDate_127 : decode cX12_writeDate 127 = .ok (.invokestatic 149, 3) := by decide +kernel
theorem dX12_writeDate_130 : decode cX12_writeDate 130 = .ok (.aload_n 0, 1) := by decide +kernel
theorem dX12_writeDate_131 : decode cX12_writeDate 131 = .ok (.getfield 63, 3) := by decide +kernel
theorem dX12_writeDate_134 : decode cX12_writeDate 134 = .ok (.ldc_w 405, 3) := by decide +kernel
theorem dX12_writeDate_137 : decode cX12_writeDate 137 = .ok (.invokestatic 116, 3) := by decide +kernel
theorem dX12_writeDate_140 : decode cX12_writeDate 140 = .ok (.aload_n 0, 1) := by decide +kernel
theorem dX12_writeDate_141 : decode cX12_writeDate 141 = .ok (.getfield 63, 3) := by decide +kernel
theorem dX12_writeDate_144 : decode cX12_writeDate 144 = .ok (.iload 4, 2) := by decide +kernel
theorem dX12_writeDate_146 : decode cX12_writeDate 146 = .ok (.invokestatic 116, 3) := by decide +kernel
theorem dX12_writeDate_149 : decode cX12_writeDate 149 = .ok (.aload_n 0, 1) := by decide +kernel
theorem dX12_writeDate_150 : decode cX12_writeDate 150 = .ok (.getfield 63, 3) := by decide +kernel
theorem dX12_writeDate_153 : decode cX12_writeDate 153 = .ok (.invokestatic 338, 3) := by decide +kernel
theorem dX12_writeDate_156 : decode cX12_writeDate 156 = .ok (.aload_n 0, 1) := by decide +kernel
theorem dX12_writeDate_157 : decode cX12_writeDate 157 = .ok (.getfield 63, 3) := by decide +kernel
theorem dX12_writeDate_160 : decode cX12_writeDate 160 = .ok (.sipush 320, 3) := by decide +kernel
theorem dX12_writeDate_163 : decode cX12_writeDate 163 = .ok (.iaload, 1) := by decide +kernel
theorem dX12_writeDate_164 : decode cX12_writeDate 164 = .ok (.iconst 4, 1) := by decide +kernel
theorem dX12_writeDate_165 : decode cX12_writeDate 165 = .ok (.if_icmp .le 7, 3) := by decide +kernel
theorem dX12_writeDate_168 : decode cX12_writeDate 168 = .ok (.lconst 1, 1) := by decide +kernel
theorem dX12_writeDate_169 : decode cX12_writeDate 169 = .ok (.goto 4, 3) := by decide +kernel
theorem dX12_writeDate_172 : decode cX12_writeDate 172 = .ok (.lconst 0, 1) := by decide +kernel
theorem dX12_writeDate_173 : decode cX12_writeDate 173 = .ok (.ladd, 1) := by decide +kernel
theorem dX12_writeDate_174 : decode cX12_writeDate 174 = .ok (.lstore 6, 2) := by decide +kernel
theorem dX12_writeDate_176 : decode cX12_writeDate 176 = .ok (.lload 6, 2) := by decide +kernel
theorem dX12_writeDate_178 : decode cX12_writeDate 178 = .ok (.ldc2_w 406, 3) := by decide +kernel
theorem dX12_writeDate_181 : decode cX12_writeDate 181 = .ok (.iload 4, 2) := by decide +kernel
theorem dX12_writeDate_183 : decode cX12_writeDate 183 = .ok (.i2l, 1) := by decide +kernel
theorem dX12_writeDate_184 : decode cX12_writeDate 184 = .ok (.lmul, 1) := by decide +kernel
theorem dX12_writeDate_185 : decode cX12_writeDate 185 = .ok (.lcmp, 1) := by decide +kernel
theorem dX12_writeDate_186 : decode cX12_writeDate 186 = .ok (.ifCond .ge 7, 3) := by decide +kernel
theorem dX12_writeDate_189 : decode cX12_writeDate 189 = .ok (.iconst 1, 1) := by decide +kernel
theorem dX12_writeDate_190 : decode cX12_writeDate 190 = .ok (.goto 4, 3) := by decide +kernel
theorem dX12_writeDate_193 : decode cX12_writeDate 193 = .ok (.iconst 0, 1) := by decide +kernel
theorem dX12_writeDate_194 : decode cX12_writeDate 194 = .ok (.istore 5, 2) := by decide +kernel
theorem dX12_writeDate_196 : decode cX12_writeDate 196 = .ok (.iload 5, 2) := by decide +kernel
theorem dX12_writeDate_198 : decode cX12_writeDate 198 = .ok (.ifCond .ne 26, 3) := by decide +kernel
theorem dX12_writeDate_201 : decode cX12_writeDate 201 = .ok (.iconst 0, 1) := by decide +kernel
theorem dX12_writeDate_202 : decode cX12_writeDate 202 = .ok (.istore 8, 2) := by decide +kernel
theorem dX12_writeDate_204 : decode cX12_writeDate 204 = .ok (.iload 8, 2) := by decide +kernel
theorem dX12_writeDate_206 : decode cX12_writeDate 206 = .ok (.bipush 8, 2) := by decide +kernel
theorem dX12_writeDate_208 : decode cX12_writeDate 208 = .ok (.if_icmp .ge 15, 3) := by decide +kernel
theorem dX12_writeDate_211 : decode cX12_writeDate 211 = .ok (.aload_n 0, 1) := by decide +kernel
theorem dX12_writeDate_212 : decode cX12_writeDate 212 = .ok (.bipush 35, 2) := by decide +kernel
theorem dX12_writeDate_214 : decode cX12_writeDate 214 = .ok (.invokevirtual 278, 3) := by decide +kernel
theorem dX12_writeDate_217 : decode cX12_writeDate 217 = .ok (.iinc 8 1, 3) := by decide +kernel
theorem dX12_writeDate_220 : decode cX12_writeDate 220 = .ok (.goto (-16), 3) := by decide +kernel
theorem dX12_writeDate_223 : decode cX12_writeDate 223 = .ok (.return_, 1) := by decide +kernel
theorem dX12_writeDate_224 : decode cX12_writeDate 224 = .ok (.iload_n 1, 1) := by decide +kernel
theorem dX12_writeDate_225 : decode cX12_writeDate 225 = .ok (.istore 8, 2) := by decide +kernel
theorem dX12_writeDate_227 : decode cX12_writeDate 227 = .ok (.iload 8, 2) := by decide +kernel
theorem dX12_writeDate_229 : decode cX12_writeDate 229 = .ok (.iload_n 2, 1) := by decide +kernel
theorem dX12_writeDate_230 : decode cX12_writeDate 230 = .ok (.if_icmp .ge 21, 3) := by decide +kernel
theorem dX12_writeDate_233 : decode cX12_writeDate 233 = .ok (.aload_n 0, 1) := by decide +kernel
theorem dX12_writeDate_234 : decode cX12_writeDate 234 = .ok (.iload 8, 2) := by decide +kernel
theorem dX12_writeDate_236 : decode cX12_writeDate 236 = .ok (.iload_n 1, 1) := by decide +kernel
theorem dX12_writeDate_237 : decode cX12_writeDate 237 = .ok (.iload_n 2, 1) := by decide +kernel
theorem dX12_writeDate_238 : decode cX12_writeDate 238 = .ok (.lload 6, 2) := by decide +kernel
theorem dX12_writeDate_240 : decode cX12_writeDate 240 = .ok (.iload 4, 2) := by decide +kernel
theorem dX12_writeDate_242 : decode cX12_writeDate 242 = .ok (.invokevirtual 408, 3) := by decide +kernel
theorem dX12_writeDate_245 : decode cX12_writeDate 245 = .ok (.iinc 8 1, 3) := by decide +kernel
theorem dX12_writeDate_248 : decode cX12_writeDate 248 = .ok (.goto (-21), 3) := by decide +kernel
theorem dX12_writeDate_251 : decode cX12_writeDate 251 = .ok (.return_, 1) := by decide +kernel
theorem dX12_writeDateItem_0 : decode cX12_writeDateItem 0 = .ok (.lload 4, 2) := by decide +kernel
theorem dX12_writeDateItem_2 : decode cX12_writeDateItem 2 = .ok (.iload 6, 2) := by decide +kernel
theorem dX12_writeDateItem_4 : decode cX12_writeDateItem 4 = .ok (.i2l, 1) := by decide +kernel
theorem dX12_writeDateItem_5 : decode cX12_writeDateItem 5 = .ok (.ldiv, 1) := by decide +kernel
theorem dX12_writeDateItem_6 : decode cX12_writeDateItem 6 = .ok (.lstore 7, 2) := by decide +kernel
theorem dX12_writeDateItem_8 : decode cX12_writeDateItem 8 = .ok (.aload_n 0, 1) := by decide +kernel
theorem dX12_writeDateItem_9 : decode cX12_writeDateItem 9 = .ok (.getfield 29, 3) := by decide +kernel
theorem dX12_writeDateItem_12 : decode cX12_writeDateItem 12 = .ok (.iload_n 1, 1) := by decide +kernel
theorem dX12_writeDateItem_13 : decode cX12_writeDateItem 13 = .ok (.iaload, 1) := by decide +kernel
theorem dX12_writeDateItem_14 : decode cX12_writeDateItem 14 = .ok (.bipush 8, 2) := by decide +kernel
theorem dX12_writeDateItem_16 : decode cX12_writeDateItem 16 = .ok (.irem, 1) := by decide +kernel
theorem dX12_writeDateItem_17 : decode cX12_writeDateItem 17 = .ok (.istore 9, 2) := by decide +kernel
theorem dX12_writeDateItem_19 : decode cX12_writeDateItem 19 = .ok (.aload_n 0, 1) := by decide +kernel
theorem dX12_writeDateItem_20 : decode cX12_writeDateItem 20 = .ok (.getfield 26, 3) := by decide +kernel
theorem dX12_writeDateItem_23 : decode cX12_writeDateItem 23 = .ok (.iload_n 1, 1) := by decide +kernel
theorem dX12_writeDateItem_24 : decode cX12_writeDateItem 24 = .ok (.iaload, 1) := by decide +kernel
theorem dX12_writeDateItem_25 : decode cX12_writeDateItem 25 = .ok (.tableswitch 460 2 12 #[374, 447, 460, 447, 460, 460, 460, 311, 59, 460, 254], 59) := by decide +kernel
theorem dX12_writeDateItem_84 : decode cX12_writeDateItem 84 = .ok (.aload_n 0, 1) := by decide +kernel
theorem dX12_writeDateItem_85 : decode cX12_writeDateItem 85 = .ok (.getfield 29, 3) := by decide +kernel
theorem dX12_writeDateItem_88 : decode cX12_writeDateItem 88 = .ok (.iload_n 1, 1) := by decide +kernel
theorem dX12_writeDateItem_89 : decode cX12_writeDateItem 89 = .ok (.iaload, 1) := by decide +kernel
theorem dX12_writeDateItem_90 : decode cX12_writeDateItem 90 = .ok (.bipush 8, 2) := by decide +kernel
theorem dX12_writeDateItem_92 : decode cX12_writeDateItem 92 = .ok (.idiv, 1) := by decide +kernel
theorem dX12_writeDateItem_93 : decode cX12_writeDateItem 93 = .ok (.bipush 104, 2) := by decide +kernel
theorem dX12_writeDateItem_95 : decode cX12_writeDateItem 95 = .ok (.if_icmp .ne 65, 3) := by decide +kernel
theorem dX12_writeDateItem_98 : decode cX12_writeDateItem 98 = .ok (.lload 7, 2) := by decide +kernel
theorem dX12_writeDateItem_100 : decode cX12_writeDateItem 100 = .ok (.ldc2_w 412, 3) := by decide +kernel
theorem dX12_writeDateItem_103 : decode cX12_writeDateItem 103 = .ok (.ldiv, 1) := by decide +kernel
theorem dX12_writeDateItem_104 : decode cX12_writeDateItem 104 = .ok (.ldc2_w 414, 3) := by decide +kernel
theorem dX12_writeDateItem_107 : decode cX12_writeDateItem 107 = .ok (.lrem, 1) := by decide +kernel
theorem dX12_writeDateItem_108 : decode cX12_writeDateItem 108 = .ok (.l2i, 1) := by decide +kernel
theorem dX12_writeDateItem_109 : decode cX12_writeDateItem 109 = .ok (.istore 10, 2) := by decide +kernel
theorem dX12_writeDateItem_111 : decode cX12_writeDateItem 111 = .ok (.aload_n 0, 1) := by decide +kernel
theorem dX12_writeDateItem_112 : decode cX12_writeDateItem 112 = .ok (.aload_n 0, 1) := by decide +kernel
theorem dX12_writeDateItem_113 : decode cX12_writeDateItem 113 = .ok (.getfield 26, 3) := by decide +kernel
theorem dX12_writeDateItem_116 : decode cX12_writeDateItem 116 = .ok (.iload_n 2, 1) := by decide +kernel
theorem dX12_writeDateItem_117 : decode cX12_writeDateItem 117 = .ok (.iload_n 3, 1) := by decide +kernel
theorem dX12_writeDateItem_118 : decode cX12_writeDateItem 118 = .ok (.bipush 9, 2) := by decide +kernel
theorem dX12_writeDateItem_120 : decode cX12_writeDateItem 120 = .ok (.invokestatic 225, 3) := by decide +kernel
theorem dX12_writeDateItem_123 : decode cX12_writeDateItem 123 = .ok (.ifCond .eq 26, 3) := by decide +kernel
theorem dX12_writeDateItem_126 : decode cX12_writeDateItem 126 = .ok (.iload 10, 2) := by decide +kernel
theorem dX12_writeDateItem_128 : decode cX12_writeDateItem 128 = .ok (.bipush 12, 2) := by decide +kernel
theorem dX12_writeDateItem_130 : decode cX12_writeDateItem 130 = .ok (.irem, 1) := by decide +kernel
theorem dX12_writeDateItem_131 : decode cX12_writeDateItem 131 = .ok (.ifCond .ne 9, 3) := by decide +kernel
theorem dX12_writeDateItem_134 : decode cX12_writeDateItem 134 = .ok (.ldc2_w 416, 3) := by decide +kernel
theorem dX12_writeDateItem_137 : decode cX12_writeDateItem 137 = .ok (.goto 15, 3) := by decide +kernel
theorem dX12_writeDateItem_140 : decode cX12_writeDateItem 140 = .ok (.iload 10, 2) := by decide +kernel
theorem dX12_writeDateItem_142 : decode cX12_writeDateItem 142 = .ok (.bipush 12, 2) := by decide +kernel
theorem dX12_writeDateItem_144 : decode cX12_writeDateItem 144 = .ok (.irem, 1) := by decide +kernel
theorem dX12_writeDateItem_145 : decode cX12_writeDateItem 145 = .ok (.i2l, 1) := by decide +kernel
theorem dX12_writeDateItem_146 : decode cX12_writeDateItem 146 = .ok (.goto 6, 3) := by decide +kernel
theorem dX12_writeDateItem_149 : decode cX12_writeDateItem 149 = .ok (.iload 10, 2) := by decide +kernel
theorem dX12_writeDateItem_151 : decode cX12_writeDateItem 151 = .ok (.i2l, 1) := by decide +kernel
theorem dX12_writeDateItem_152 : decode cX12_writeDateItem 152 = .ok (.iload 9, 2) := by decide +kernel
theorem dX12_writeDateItem_154 : decode cX12_writeDateItem 154 = .ok (.invokevirtual 287, 3) := by decide +kernel
theorem dX12_writeDateItem_157 : decode cX12_writeDateItem 157 = .ok (.goto 333, 3) := by decide +kernel
theorem dX12_writeDateItem_160 : decode cX12_writeDateItem 160 = .ok (.aload_n 0, 1) := by decide +kernel
theorem dX12_writeDateItem_161 : decode cX12_writeDateItem 161 = .ok (.getfield 29, 3) := by decide +kernel
theorem dX12_writeDateItem_164 : decode cX12_writeDateItem 164 = .ok (.iload_n 1, 1) := by decide +kernel
theorem dX12_writeDateItem_165 : decode cX12_writeDateItem 165 = .ok (.iaload, 1) := by decide +kernel
theorem dX12_writeDateItem_166 : decode cX12_writeDateItem 166 = .ok (.bipush 8, 2) := by decide +kernel
theorem dX12_writeDateItem_168 : decode cX12_writeDateItem 168 = .ok (.idiv, 1) := by decide +kernel
theorem dX12_writeDateItem_169 : decode cX12_writeDateItem 169 = .ok (.bipush 115, 2) := by decide +kernel
theorem dX12_writeDateItem_171 : decode cX12_writeDateItem 171 = .ok (.if_icmp .ne 18, 3) := by decide +kernel
theorem dX12_writeDateItem_174 : decode cX12_writeDateItem 174 = .ok (.aload_n 0, 1) := by decide +kernel
theorem dX12_writeDateItem_175 : decode cX12_writeDateItem 175 = .ok (.lload 7, 2) := by decide +kernel
theorem dX12_writeDateItem_177 : decode cX12_writeDateItem 177 = .ok (.ldc2_w 418, 3) := by decide +kernel
theorem dX12_writeDateItem_180 : decode cX12_writeDateItem 180 = .ok (.lrem, 1) := by decide +kernel
theorem dX12_writeDateItem_181 : decode cX12_writeDateItem 181 = .ok (.iload 9, 2) := by decide +kernel
theorem dX12_writeDateItem_183 : decode cX12_writeDateItem 183 = .ok (.invokevirtual 287, 3) := by decide +kernel
theorem dX12_writeDateItem_186 : decode cX12_writeDateItem 186 = .ok (.goto 304, 3) := by decide +kernel
theorem dX12_writeDateItem_189 : decode cX12_writeDateItem 189 = .ok (.aload_n 0, 1) := by decide +kernel
theorem dX12_writeDateItem_190 : decode cX12_writeDateItem 190 = .ok (.getfield 29, 3) := by decide +kernel
theorem dX12_writeDateItem_193 : decode cX12_writeDateItem 193 = .ok (.iload_n 1, 1) := by decide +kernel
theorem dX12_writeDateItem_194 : decode cX12_writeDateItem 194 = .ok (.iaload, 1) := by decide +kernel
theorem dX12_writeDateItem_195 : decode cX12_writeDateItem 195 = .ok (.bipush 8, 2) := by decide +kernel
theorem dX12_writeDateItem_197 : decode cX12_writeDateItem 197 = .ok (.idiv, 1) := by decide +kernel
theorem dX12_writeDateItem_198 : decode cX12_writeDateItem 198 = .ok (.bipush 109, 2) := by decide +kernel
theorem dX12_writeDateItem_200 : decode cX12_writeDateItem 200 = .ok (.if_icmp .ne 54, 3) := by decide +kernel
theorem dX12_writeDateItem_203 : decode cX12_writeDateItem 203 = .ok (.iload 9, 2) := by decide +kernel
theorem dX12_writeDateItem_205 : decode cX12_writeDateItem 205 = .ok (.iconst 3, 1) := by decide +kernel
theorem dX12_writeDateItem_206 : decode cX12_writeDateItem 206 = .ok (.if_icmp .ge 48, 3) := by decide +kernel
theorem dX12_writeDateItem_209 : decode cX12_writeDateItem 209 = .ok (.aload_n 0, 1) := by decide +kernel
theorem dX12_writeDateItem_210 : decode cX12_writeDateItem 210 = .ok (.iload_n 1, 1) := by decide +kernel
theorem dX12_writeDateItem_211 : decode cX12_writeDateItem 211 = .ok (.iconst (-1), 1) := by decide +kernel
theorem dX12_writeDateItem_212 : decode cX12_writeDateItem 212 = .ok (.iload_n 2, 1) := by decide +kernel
theorem dX12_writeDateItem_213 : decode cX12_writeDateItem 213 = .ok (.iload_n 3, 1) := by decide +kernel
theorem dX12_writeDateItem_214 : decode cX12_writeDateItem 214 = .ok (.invokevirtual 420, 3) := by decide +kernel
theorem dX12_writeDateItem_217 : decode cX12_writeDateItem 217 = .ok (.bipush 104, 2) := by decide +kernel
theorem dX12_writeDateItem_219 : decode cX12_writeDateItem 219 = .ok (.if_icmp .eq 16, 3) := by decide +kernel
theorem dX12_writeDateItem_222 : decode cX12_writeDateItem 222 = .ok (.aload_n 0, 1) := by decide +kernel
theorem dX12_writeDateItem_223 : decode cX12_writeDateItem 223 = .ok (.iload_n 1, 1) := by decide +kernel
theorem dX12_writeDateItem_224 : decode cX12_writeDateItem 224 = .ok (.iconst 1, 1) := by decide +kernel
theorem dX12_writeDateItem_225 : decode cX12_writeDateItem 225 = .ok (.iload_n 2, 1) := by decide +kernel
theorem dX12_writeDateItem_226 : decode cX12_writeDateItem 226 = .ok (.iload_n 3, 1) := by decide +kernel
theorem dX12_writeDateItem_227 : decode cX12_writeDateItem 227 = .ok (.invokevirtual 420, 3) := by decide +kernel
theorem dX12_writeDateItem_230 : decode cX12_writeDateItem 230 = .ok (.bipush 115, 2) := by decide +kernel
theorem dX12_writeDateItem_232 : decode cX12_writeDateItem 232 = .ok (.if_icmp .ne 22, 3) := by decide +kernel
theorem dX12_writeDateItem_235 : decode cX12_writeDateItem 235 = .ok (.aload_n 0, 1) := by decide +kernel
theorem dX12_writeDateItem_236 : decode cX12_writeDateItem 236 = .ok (.lload 7, 2) := by decide +kernel
theorem dX12_writeDateItem_238 : decode cX12_writeDateItem 238 = .ok (.ldc2_w 418, 3) := by decide +kernel
theorem dX12_writeDateItem_241 : decode cX12_writeDateItem 241 = .ok (.ldiv, 1) := by decide +kernel
theorem dX12_writeDateItem_242 : decode cX12_writeDateItem 242 = .ok (.ldc2_w 418, 3) := by decide +kernel
theorem dX12_writeDateItem_245 : decode cX12_writeDateItem 245 = .ok (.lrem, 1) := by decide +kernel
theorem dX12_writeDateItem_246 : decode cX12_writeDateItem 246 = .ok (.iload 9, 2) := by decide +kernel
theorem dX12_writeDateItem_248 : decode cX12_writeDateItem 248 = .ok (.invokevirtual 287, 3) := by decide +kernel
theorem dX12_writeDateItem_251 : decode cX12_writeDateItem 251 = .ok (.goto 239, 3) := by decide +kernel
theorem dX12_writeDateItem_254 : decode cX12_writeDateItem 254 = .ok (.aload_n 0, 1) := by decide +kernel
theorem dX12_writeDateItem_255 : decode cX12_writeDateItem 255 = .ok (.aload_n 0, 1) := by decide +kernel
theorem dX12_writeDateItem_256 : decode cX12_writeDateItem 256 = .ok (.getfield 29, 3) := by decide +kernel
theorem dX12_writeDateItem_259 : decode cX12_writeDateItem 259 = .ok (.iload_n 1, 1) := by decide +kernel
theorem dX12_writeDateItem_260 : decode cX12_writeDateItem 260 = .ok (.iaload, 1) := by decide +kernel
theorem dX12_writeDateItem_261 : decode cX12_writeDateItem 261 = .ok (.bipush 8, 2) := by decide +kernel
theorem dX12_writeDateItem_263 : decode cX12_writeDateItem 263 = .ok (.idiv, 1) := by decide +kernel
theorem dX12_writeDateItem_264 : decode cX12_writeDateItem 264 = .ok (.iload 9, 2) := by decide +kernel
theorem dX12_writeDateItem_266 : decode cX12_writeDateItem 266 = .ok (.lload 7, 2) := by decide +kernel
theorem dX12_writeDateItem_268 : decode cX12_writeDateItem 268 = .ok (.ldc2_w 424, 3) := by decide +kernel
theorem dX12_writeDateItem_271 : decode cX12_writeDateItem 271 = .ok (.ldiv, 1) := by decide +kernel
theorem dX12_writeDateItem_272 : decode cX12_writeDateItem 272 = .ok (.l2i, 1) := by decide +kernel
theorem dX12_writeDateItem_273 : decode cX12_writeDateItem 273 = .ok (.invokevirtual 426, 3) := by decide +kernel
theorem dX12_writeDateItem_276 : decode cX12_writeDateItem 276 = .ok (.goto 214, 3) := by decide +kernel
theorem dX12_writeDateItem_279 : decode cX12_writeDateItem 279 = .ok (.aload_n 0, 1) := by decide +kernel
theorem dX12_writeDateItem_280 : decode cX12_writeDateItem 280 = .ok (.aload_n 0, 1) := by decide +kernel
theorem dX12_writeDateItem_281 : decode cX12_writeDateItem 281 = .ok (.getfield 29, 3) := by decide +kernel
theorem dX12_writeDateItem_284 : decode cX12_writeDateItem 284 = .ok (.iload_n 1, 1) := by decide +kernel
theorem dX12_writeDateItem_285 : decode cX12_writeDateItem 285 = .ok (.iaload, 1) := by decide +kernel
theorem dX12_writeDateItem_286 : decode cX12_writeDateItem 286 = .ok (.bipush 8, 2) := by decide +kernel
theorem dX12_writeDateItem_288 : decode cX12_writeDateItem 288 = .ok (.idiv, 1) := by decide +kernel
theorem dX12_writeDateItem_289 : decode cX12_writeDateItem 289 = .ok (.bipush 104, 2) := by decide +kernel
theorem dX12_writeDateItem_291 : decode cX12_writeDateItem 291 = .ok (.if_icmp .ne 12, 3) := by decide +kernel
theorem dX12_writeDateItem_294 : decode cX12_writeDateItem 294 = .ok (.lload 7, 2) := by decide +kernel
theorem dX12_writeDateItem_296 : decode cX12_writeDateItem 296 = .ok (.ldc2_w 412, 3) := by decide +kernel
theorem dX12_writeDateItem_299 : decode cX12_writeDateItem 299 = .ok (.ldiv, 1) := by decide +kernel
theorem dX12_writeDateItem_300 : decode cX12_writeDateItem 300 = .ok (.goto 28, 3) := by decide +kernel
theorem dX12_writeDateItem_303 : decode cX12_writeDateItem 303 = .ok (.aload_n 0, 1) := by decide +kernel
theorem dX12_writeDateItem_304 : decode cX12_writeDateItem 304 = .ok (.getfield 29, 3) := by decide +kernel
theorem dX12_writeDateItem_307 : decode cX12_writeDateItem 307 = .ok (.iload_n 1, 1) := by decide +kernel
theorem dX12_writeDateItem_308 : decode cX12_writeDateItem 308 = .ok (.iaload, 1) := by decide +kernel
theorem dX12_writeDateItem_309 : decode cX12_writeDateItem 309 = .ok (.bipush 8, 2) := by decide +kernel
theorem dX12_writeDateItem_311 : decode cX12_writeDateItem 311 = .ok (.idiv, 1) := by decide +kernel
theorem dX12_writeDateItem_312 : decode cX12_writeDateItem 312 = .ok (.bipush 109, 2) := by decide +kernel
theorem dX12_writeDateItem_314 : decode cX12_writeDateItem 314 = .ok (.if_icmp .ne 12, 3) := by decide +kernel
theorem dX12_writeDateItem_317 : decode cX12_writeDateItem 317 = .ok (.lload 7, 2) := by decide +kernel
theorem dX12_writeDateItem_319 : decode cX12_writeDateItem 319 = .ok (.ldc2_w 418, 3) := by decide +kernel
theorem dX12_writeDateItem_322 : decode cX12_writeDateItem 322 = .ok (.ldiv, 1) := by decide +kernel
theorem dX12_writeDateItem_323 : decode cX12_writeDateItem 323 = .ok (.goto 5, 3) := by decide +kernel
theorem dX12_writeDateItem_326 : decode cX12_writeDateItem 326 = .ok (.lload 7, 2) := by decide +kernel
theorem dX12_writeDateItem_328 : decode cX12_writeDateItem 328 = .ok (.iload 9, 2) := by decide +kernel
theorem dX12_writeDateItem_330 : decode cX12_writeDateItem 330 = .ok (.invokevirtual 287, 3) := by decide +kernel
theorem dX12_writeDateItem_333 : decode cX12_writeDateItem 333 = .ok (.goto 157, 3) := by decide +kernel
theorem dX12_writeDateItem_336 : decode cX12_writeDateItem 336 = .ok (.aload_n 0, 1) := by decide +kernel
theorem dX12_writeDateItem_337 : decode cX12_writeDateItem 337 = .ok (.lload 7, 2) := by decide +kernel
theorem dX12_writeDateItem_339 : decode cX12_writeDateItem 339 = .ok (.ldc2_w 412, 3) := by decide +kernel
theorem dX12_writeDateItem_342 : decode cX12_writeDateItem 342 = .ok (.ldiv, 1) := by decide +kernel
theorem dX12_writeDateItem_343 : decode cX12_writeDateItem 343 = .ok (.ldc2_w 414, 3) := by decide +kernel
theorem dX12_writeDateItem_346 : decode cX12_writeDateItem 346 = .ok (.lrem, 1) := by decide +kernel
theorem dX12_writeDateItem_347 : decode cX12_writeDateItem 347 = .ok (.ldc2_w 416, 3) := by decide +kernel
theorem dX12_writeDateItem_350 : decode cX12_writeDateItem 350 = .ok (.lcmp, 1) := by decide +kernel
theorem dX12_writeDateItem_351 : decode cX12_writeDateItem 351 = .ok (.ifCond .ge 24, 3) := by decide +kernel
theorem dX12_writeDateItem_354 : decode cX12_writeDateItem 354 = .ok (.aload_n 0, 1) := by decide +kernel
theorem dX12_writeDateItem_355 : decode cX12_writeDateItem 355 = .ok (.getfield 29, 3) := by decide +kernel
theorem dX12_writeDateItem_358 : decode cX12_writeDateItem 358 = .ok (.iload_n 1, 1) := by decide +kernel
theorem dX12_writeDateItem_359 : decode cX12_writeDateItem 359 = .ok (.iaload, 1) := by decide +kernel
theorem dX12_writeDateItem_360 : decode cX12_writeDateItem 360 = .ok (.ifCond .ne 9, 3) := by decide +kernel
theorem dX12_writeDateItem_363 : decode cX12_writeDateItem 363 = .ok (.ldc2_w 429, 3) := by decide +kernel
theorem dX12_writeDateItem_366 : decode cX12_writeDateItem 366 = .ok (.goto 27, 3) := by decide +kernel
theorem dX12_writeDateItem_369 : decode cX12_writeDateItem 369 = .ok (.ldc2_w 431, 3) := by decide +kernel
theorem dX12_writeDateItem_372 : decode cX12_writeDateItem 372 = .ok (.goto 21, 3) := by decide +kernel
theorem dX12_writeDateItem_375 : decode cX12_writeDateItem 375 = .ok (.aload_n 0, 1) := by decide +kernel
theorem dX12_writeDateItem_376 : decode cX12_writeDateItem 376 = .ok (.getfield 29, 3) := by decide +kernel
theorem dX12_writeDateItem_379 : decode cX12_writeDateItem 379 = .ok (.iload_n 1, 1) := by decide +kernel
theorem dX12_writeDateItem_380 : decode cX12_writeDateItem 380 = .ok (.iaload, 1) := by decide +kernel
theorem dX12_writeDateItem_381 : decode cX12_writeDateItem 381 = .ok (.ifCond .ne 9, 3) := by decide +kernel
theorem dX12_writeDateItem_384 : decode cX12_writeDateItem 384 = .ok (.ldc2_w 433, 3) := by decide +kernel
theorem dX12_writeDateItem_387 : decode cX12_writeDateItem 387 = .ok (.goto 6, 3) := by decide +kernel
theorem dX12_writeDateItem_390 : decode cX12_writeDateItem 390 = .ok (.ldc2_w 435, 3) := by decide +kernel
theorem dX12_writeDateItem_393 : decode cX12_writeDateItem 393 = .ok (.invokevirtual 437, 3) := by decide +kernel
theorem dX12_writeDateItem_396 : decode cX12_writeDateItem 396 = .ok (.goto 94, 3) := by decide +kernel
theorem dX12_writeDateItem_399 : decode cX12_writeDateItem 399 = .ok (.aload_n 0, 1) := by decide +kernel
theorem dX12_writeDateItem_400 : decode cX12_writeDateItem 400 = .ok (.bipush 46, 2) := by decide +kernel
theorem dX12_writeDateItem_402 : decode cX12_writeDateItem 402 = .ok (.invokevirtual 278, 3) := by decide +kernel
theorem dX12_writeDateItem_405 : decode cX12_writeDateItem 405 = .ok (.iload 6, 2) := by decide +kernel
theorem dX12_writeDateItem_407 : decode cX12_writeDateItem 407 = .ok (.bipush 10, 2) := by decide +kernel
theorem dX12_writeDateItem_409 : decode cX12_writeDateItem 409 = .ok (.idiv, 1) := by decide +kernel
theorem dX12_writeDateItem_410 : decode cX12_writeDateItem 410 = .ok (.istore 10, 2) := by decide +kernel
theorem dX12_writeDateItem_412 : decode cX12_writeDateItem 412 = .ok (.aload_n 0, 1) := by decide +kernel
theorem dX12_writeDateItem_413 : decode cX12_writeDateItem 413 = .ok (.getfield 26, 3) := by decide +kernel
theorem dX12_writeDateItem_416 : decode cX12_writeDateItem 416 = .ok (.aload_n 0, 1) := by decide +kernel
theorem dX12_writeDateItem_417 : decode cX12_writeDateItem 417 = .ok (.getfield 29, 3) := by decide +kernel
theorem dX12_writeDateItem_420 : decode cX12_writeDateItem 420 = .ok (.iload_n 1, 1) := by decide +kernel
theorem dX12_writeDateItem_421 : decode cX12_writeDateItem 421 = .ok (.iload_n 2, 1) := by decide +kernel
theorem dX12_writeDateItem_422 : decode cX12_writeDateItem 422 = .ok (.iload_n 3, 1) := by decide +kernel
theorem dX12_writeDateItem_423 : decode cX12_writeDateItem 423 = .ok (.invokestatic 241, 3) := by decide +kernel
theorem dX12_writeDateItem_426 : decode cX12_writeDateItem 426 = .ok (.istore 11, 2) := by decide +kernel
theorem dX12_writeDateItem_428 : decode cX12_writeDateItem 428 = .ok (.iload 11, 2) := by decide +kernel
theorem dX12_writeDateItem_430 : decode cX12_writeDateItem 430 = .ok (.ifCond .le 39, 3) := by decide +kernel
theorem dX12_writeDateItem_433 : decode cX12_writeDateItem 433 = .ok (.aload_n 0, 1) := by decide +kernel
theorem dX12_writeDateItem_434 : decode cX12_writeDateItem 434 = .ok (.ldc2_w 219, 3) := by decide +kernel
theorem dX12_writeDateItem_437 : decode cX12_writeDateItem 437 = .ok (.lload 4, 2) := by decide +kernel
theorem dX12_writeDateItem_439 : decode cX12_writeDateItem 439 = .ok (.iload 6, 2) := by decide +kernel
theorem dX12_writeDateItem_441 : decode cX12_writeDateItem 441 = .ok (.i2l, 1) := by decide +kernel
theorem dX12_writeDateItem_442 : decode cX12_writeDateItem 442 = .ok (.lrem, 1) := by decide +kernel
theorem dX12_writeDateItem_443 : decode cX12_writeDateItem 443 = .ok (.iload 10, 2) := by decide +kernel
theorem dX12_writeDateItem_445 : decode cX12_writeDateItem 445 = .ok (.i2l, 1) := by decide +kernel
theorem dX12_writeDateItem_446 : decode cX12_writeDateItem 446 = .ok (.ldiv, 1) := by decide +kernel
theorem dX12_writeDateItem_447 : decode cX12_writeDateItem 447 = .ok (.ldc2_w 114, 3) := by decide +kernel
theorem dX12_writeDateItem_450 : decode cX12_writeDateItem 450 = .ok (.lrem, 1) := by decide +kernel
theorem dX12_writeDateItem_451 : decode cX12_writeDateItem 451 = .ok (.ladd, 1) := by decide +kernel
theorem dX12_writeDateItem_452 : decode cX12_writeDateItem 452 = .ok (.l2i, 1) := by decide +kernel
theorem dX12_writeDateItem_453 : decode cX12_writeDateItem 453 = .ok (.invokevirtual 278, 3) := by decide +kernel
theorem dX12_writeDateItem_456 : decode cX12_writeDateItem 456 = .ok (.iload 10, 2) := by decide +kernel
theorem dX12_writeDateItem_458 : decode cX12_writeDateItem 458 = .ok (.bipush 10, 2) := by decide +kernel
theorem dX12_writeDateItem_460 : decode cX12_writeDateItem 460 = .ok (.idiv, 1) := by decide +kernel
theorem dX12_writeDateItem_461 : decode cX12_writeDateItem 461 = .ok (.istore 10, 2) := by decide +kernel
theorem dX12_writeDateItem_463 : decode cX12_writeDateItem 463 = .ok (.iinc 11 (-1), 3) := by decide +kernel
theorem dX12_writeDateItem_466 : decode cX12_writeDateItem 466 = .ok (.goto (-38), 3) := by decide +kernel
theorem dX12_writeDateItem_469 : decode cX12_writeDateItem 469 = .ok (.goto 21, 3) := by decide +kernel
theorem dX12_writeDateItem_472 : decode cX12_writeDateItem 472 = .ok (.aload_n 0, 1) := by decide +kernel
theorem dX12_writeDateItem_473 : decode cX12_writeDateItem 473 = .ok (.aload_n 0, 1) := by decide +kernel
theorem dX12_writeDateItem_474 : decode cX12_writeDateItem 474 = .ok (.getfield 29, 3) := by decide +kernel
theorem dX12_writeDateItem_477 : decode cX12_writeDateItem 477 = .ok (.iload_n 1, 1) := by decide +kernel
theorem dX12_writeDateItem_478 : decode cX12_writeDateItem 478 = .ok (.iaload, 1) := by decide +kernel
theorem dX12_writeDateItem_479 : decode cX12_writeDateItem 479 = .ok (.invokevirtual 278, 3) := by decide +kernel
theorem dX12_writeDateItem_482 : decode cX12_writeDateItem 482 = .ok (.goto 8, 3) := by decide +kernel
theorem dX12_writeDateItem_485 : decode cX12_writeDateItem 485 = .ok (.aload_n 0, 1) := by decide +kernel
theorem dX12_writeDateItem_486 : decode cX12_writeDateItem 486 = .ok (.iload_n 1, 1) := by decide +kernel
theorem dX12_writeDateItem_487 : decode cX12_writeDateItem 487 = .ok (.invokevirtual 304, 3) := by decide +kernel
theorem dX12_writeDateItem_490 : decode cX12_writeDateItem 490 = .ok (.return_, 1) := by decide +kernel
theorem dX12_writeDayItem_0 : decode cX12_writeDayItem 0 = .ok (.sipush 1899, 3) := by decide +kernel
theorem dX12_writeDayItem_3 : decode cX12_writeDayItem 3 = .ok (.istore 4, 2) := by decide +kernel
theorem dX12_writeDayItem_5 : decode cX12_writeDayItem 5 = .ok (.bipush 12, 2) := by decide +kernel
theorem dX12_writeDayItem_7 : decode cX12_writeDayItem 7 = .ok (.istore 5, 2) := by decide +kernel
theorem dX12_writeDayItem_9 : decode cX12_writeDayItem 9 = .ok (.bipush 30, 2) := by decide +kernel
theorem dX12_writeDayItem_11 : decode cX12_writeDayItem 11 = .ok (.iload_n 3, 1) := by decide +kernel
theorem dX12_writeDayItem_12 : decode cX12_writeDayItem 12 = .ok (.iadd, 1) := by decide +kernel
theorem dX12_writeDayItem_13 : decode cX12_writeDayItem 13 = .ok (.istore 6, 2) := by decide +kernel
theorem dX12_writeDayItem_15 : decode cX12_writeDayItem 15 = .ok (.iload 6, 2) := by decide +kernel
theorem dX12_writeDayItem_17 : decode cX12_writeDayItem 17 = .ok (.iload 4, 2) := by decide +kernel
theorem dX12_writeDayItem_19 : decode cX12_writeDayItem 19 = .ok (.iload 5, 2) := by decide +kernel
theorem dX12_writeDayItem_21 : decode cX12_writeDayItem 21 = .ok (.invokestatic 440, 3) := by decide +kernel
theorem dX12_writeDayItem_24 : decode cX12_writeDayItem 24 = .ok (.if_icmp .le 52, 3) := by decide +kernel
theorem dX12_writeDayItem_27 : decode cX12_writeDayItem 27 = .ok (.iload 6, 2) := by decide +kernel
theorem dX12_writeDayItem_29 : decode cX12_writeDayItem 29 = .ok (.iload 4, 2) := by decide +kernel
theorem dX12_writeDayItem_31 : decode cX12_writeDayItem 31 = .ok (.iload 5, 2) := by decide +kernel
theorem dX12_writeDayItem_33 : decode cX12_writeDayItem 33 = .ok (.invokestatic 440, 3) := by decide +kernel
theorem dX12_writeDayItem_36 : decode cX12_writeDayItem 36 = .ok (.isub, 1) := by decide +kernel
theorem dX12_writeDayItem_37 : decode cX12_writeDayItem 37 = .ok (.istore 6, 2) := by decide +kernel
theorem dX12_writeDayItem_39 : decode cX12_writeDayItem 39 = .ok (.iload 4, 2) := by decide +kernel
theorem dX12_writeDayItem_41 : decode cX12_writeDayItem 41 = .ok (.iload 5, 2) := by decide +kernel
theorem dX12_writeDayItem_43 : decode cX12_writeDayItem 43 = .ok (.bipush 12, 2) := by decide +kernel
theorem dX12_writeDayItem_45 : decode cX12_writeDayItem 45 = .ok (.if_icmp .ne 7, 3) := by decide +kernel
theorem dX12_writeDayItem_48 : decode cX12_writeDayItem 48 = .ok (.iconst 1, 1) := by decide +kernel
theorem dX12_writeDayItem_49 : decode cX12_writeDayItem 49 = .ok (.goto 4, 3) := by decide +kernel
theorem dX12_writeDayItem_52 : decode cX12_writeDayItem 52 = .ok (.iconst 0, 1) := by decide +kernel
theorem dX12_writeDayItem_53 : decode cX12_writeDayItem 53 = .ok (.iadd, 1) := by decide +kernel
theorem dX12_writeDayItem_54 : decode cX12_writeDayItem 54 = .ok (.istore 4, 2) := by decide +kernel
theorem dX12_writeDayItem_56 : decode cX12_writeDayItem 56 = .ok (.iload 5, 2) := by decide +kernel
theorem dX12_writeDayItem_58 : decode cX12_writeDayItem 58 = .ok (.bipush 12, 2) := by decide +kernel
theorem dX12_writeDayItem_60 : decode cX12_writeDayItem 60 = .ok (.if_icmp .ne 7, 3) := by decide +kernel
theorem dX12_writeDayItem_63 : decode cX12_writeDayItem 63 = .ok (.iconst 1, 1) := by decide +kernel
theorem dX12_writeDayItem_64 : decode cX12_writeDayItem 64 = .ok (.goto 7, 3) := by decide +kernel
theorem dX12_writeDayItem_67 : decode cX12_writeDayItem 67 = .ok (.iload 5, 2) := by decide +kernel
theorem dX12_writeDayItem_69 : decode cX12_writeDayItem 69 = .ok (.iconst 1, 1) := by decide +kernel
theorem dX12_writeDayItem_70 : decode cX12_writeDayItem 70 = .ok (.iadd, 1) := by decide +kernel
theorem dX12_writeDayItem_71 : decode cX12_writeDayItem 71 = .ok (.istore 5, 2) := by decide +kernel
theorem dX12_writeDayItem_73 : decode cX12_writeDayItem 73 = .ok (.goto (-58), 3) := by decide +kernel
theorem dX12_writeDayItem_76 : decode cX12_writeDayItem 76 = .ok (.iload_n 1, 1) := by decide +kernel
theorem dX12_writeDayItem_77 : decode cX12_writeDayItem 77 = .ok (.bipush 121, 2) := by decide +kernel
theorem dX12_writeDayItem_79 : decode cX12_writeDayItem 79 = .ok (.if_icmp .ne 37, 3) := by decide +kernel
theorem dX12_writeDayItem_82 : decode cX12_writeDayItem 82 = .ok (.aload_n 0, 1) := by decide +kernel
theorem dX12_writeDayItem_83 : decode cX12_writeDayItem 83 = .ok (.iload_n 2, 1) := by decide +kernel
theorem dX12_writeDayItem_84 : decode cX12_writeDayItem 84 = .ok (.iconst 3, 1) := by decide +kernel
theorem dX12_writeDayItem_85 : decode cX12_writeDayItem 85 = .ok (.if_icmp .ge 12, 3) := by decide +kernel
theorem dX12_writeDayItem_88 : decode cX12_writeDayItem 88 = .ok (.iload 4, 2) := by decide +kernel
theorem dX12_writeDayItem_90 : decode cX12_writeDayItem 90 = .ok (.bipush 100, 2) := by decide +kernel
theorem dX12_writeDayItem_92 : decode cX12_writeDayItem 92 = .ok (.irem, 1) := by decide +kernel
theorem dX12_writeDayItem_93 : decode cX12_writeDayItem 93 = .ok (.i2l, 1) := by decide +kernel
theorem dX12_writeDayItem_94 : decode cX12_writeDayItem 94 = .ok (.goto 6, 3) := by decide +kernel
theorem dX12_writeDayItem_97 : decode cX12_writeDayItem 97 = .ok (.iload 4, 2) := by decide +kernel
theorem dX12_writeDayItem_99 : decode cX12_writeDayItem 99 = .ok (.i2l, 1) := by decide +kernel
theorem dX12_writeDayItem_100 : decode cX12_writeDayItem 100 = .ok (.iload_n 2, 1) := by decide +kernel
theorem dX12_writeDayItem_101 : decode cX12_writeDayItem 101 = .ok (.iconst 3, 1) := by decide +kernel
theorem dX12_writeDayItem_102 : decode cX12_writeDayItem 102 = .ok (.if_icmp .ge 7, 3) := by decide +kernel
theorem dX12_writeDayItem_105 : decode cX12_writeDayItem 105 = .ok (.iconst 2, 1) := by decide +kernel
theorem dX12_writeDayItem_106 : decode cX12_writeDayItem 106 = .ok (.goto 4, 3) := by decide +kernel
theorem dX12_writeDayItem_109 : decode cX12_writeDayItem 109 = .ok (.iconst 4, 1) := by decide +kernel
theorem dX12_writeDayItem_110 : decode cX12_writeDayItem 110 = .ok (.invokevirtual 287, 3) := by decide +kernel
theorem dX12_writeDayItem_113 : decode cX12_writeDayItem 113 = .ok (.goto 30, 3) := by decide +kernel
theorem dX12_writeDayItem_116 : decode cX12_writeDayItem 116 = .ok (.iload_n 1, 1) := by decide +kernel
theorem dX12_writeDayItem_117 : decode cX12_writeDayItem 117 = .ok (.bipush 109, 2) := by decide +kernel
theorem dX12_writeDayItem_119 : decode cX12_writeDayItem 119 = .ok (.if_icmp .ne 13, 3) := by decide +kernel
theorem dX12_writeDayItem_122 : decode cX12_writeDayItem 122 = .ok (.aload_n 0, 1) := by decide +kernel
theorem dX12_writeDayItem_123 : decode cX12_writeDayItem 123 = .ok (.iload 5, 2) := by decide +kernel
theorem dX12_writeDayItem_125 : decode cX12_writeDayItem 125 = .ok (.iload_n 2, 1) := by decide +kernel
theorem dX12_writeDayItem_126 : decode cX12_writeDayItem 126 = .ok (.invokevirtual 443, 3) := by decide +kernel
theorem dX12_writeDayItem_129 : decode cX12_writeDayItem 129 = .ok (.goto 14, 3) := by decide +kernel
theorem dX12_writeDayItem_132 : decode cX12_writeDayItem 132 = .ok (.aload_n 0, 1) := by decide +kernel
theorem dX12_writeDayItem_133 : decode cX12_writeDayItem 133 = .ok (.iload_n 3, 1) := by decide +kernel
theorem dX12_writeDayItem_134 : decode cX12_writeDayItem 134 = .ok (.bipush 7, 2) := by decide +kernel
theorem dX12_writeDayItem_136 : decode cX12_writeDayItem 136 = .ok (.irem, 1) := by decide +kernel
theorem dX12_writeDayItem_137 : decode cX12_writeDayItem 137 = .ok (.iload 6, 2) := by decide +kernel
theorem dX12_writeDayItem_139 : decode cX12_writeDayItem 139 = .ok (.iload_n 2, 1) := by decide +kernel
theorem dX12_writeDayItem_140 : decode cX12_writeDayItem 140 = .ok (.invokevirtual 446, 3) := by decide +kernel
theorem dX12_writeDayItem_143 : decode cX12_writeDayItem 143 = .ok (.return_, 1) := by decide +kernel
theorem dX12_holds_0 : decode cX12_holds 0 = .ok (.aload_n 0, 1) := by decide +kernel
theorem dX12_holds_1 : decode cX12_holds 1 = .ok (.getfield 38, 3) := by decide +kernel
theorem dX12_holds_4 : decode cX12_holds 4 = .ok (.iload_n 1, 1) := by decide +kernel
theorem dX12_holds_5 : decode cX12_holds 5 = .ok (.daload, 1) := by decide +kernel
theorem dX12_holds_6 : decode cX12_holds 6 = .ok (.dstore_n 2, 1) := by decide +kernel
theorem dX12_holds_7 : decode cX12_holds 7 = .ok (.aload_n 0, 1) := by decide +kernel
theorem dX12_holds_8 : decode cX12_holds 8 = .ok (.getfield 35, 3) := by decide +kernel
theorem dX12_holds_11 : decode cX12_holds 11 = .ok (.iload_n 1, 1) := by decide +kernel
theorem dX12_holds_12 : decode cX12_holds 12 = .ok (.iaload, 1) := by decide +kernel
theorem dX12_holds_13 : decode cX12_holds 13 = .ok (.tableswitch 110 1 5 #[35, 50, 65, 80, 95], 35) := by decide +kernel
theorem dX12_holds_48 : decode cX12_holds 48 = .ok (.aload_n 0, 1) := by decide +kernel
theorem dX12_holds_49 : decode cX12_holds 49 = .ok (.getfield 95, 3) := by decide +kernel
theorem dX12_holds_52 : decode cX12_holds 52 = .ok (.dload_n 2, 1) := by decide +kernel
theorem dX12_holds_53 : decode cX12_holds 53 = .ok (.dcmp .g, 1) := by decide +kernel
theorem dX12_holds_54 : decode cX12_holds 54 = .ok (.ifCond .ge 7, 3) := by decide +kernel
theorem dX12_holds_57 : decode cX12_holds 57 = .ok (.iconst 1, 1) := by decide +kernel
theorem dX12_holds_58 : decode cX12_holds 58 = .ok (.goto 4, 3) := by decide +kernel
theorem dX12_holds_61 : decode cX12_holds 61 = .ok (.iconst 0, 1) := by decide +kernel
theorem dX12_holds_62 : decode cX12_holds 62 = .ok (.ireturn, 1) := by decide +kernel
theorem dX12_holds_63 : decode cX12_holds 63 = .ok (.aload_n 0, 1) := by decide +kernel
theorem dX12_holds_64 : decode cX12_holds 64 = .ok (.getfield 95, 3) := by decide +kernel
theorem dX12_holds_67 : decode cX12_holds 67 = .ok (.dload_n 2, 1) := by decide +kernel
theorem dX12_holds_68 : decode cX12_holds 68 = .ok (.dcmp .g, 1) := by decide +kernel
theorem dX12_holds_69 : decode cX12_holds 69 = .ok (.ifCond .gt 7, 3) := by decide +kernel
theorem dX12_holds_72 : decode cX12_holds 72 = .ok (.iconst 1, 1) := by decide +kernel
theorem dX12_holds_73 : decode cX12_holds 73 = .ok (.goto 4, 3) := by decide +kernel
theorem dX12_holds_76 : decode cX12_holds 76 = .ok (.iconst 0, 1) := by decide +kernel
theorem dX12_holds_77 : decode cX12_holds 77 = .ok (.ireturn, 1) := by decide +kernel
theorem dX12_holds_78 : decode cX12_holds 78 = .ok (.aload_n 0, 1) := by decide +kernel
theorem dX12_holds_79 : decode cX12_holds 79 = .ok (.getfield 95, 3) := by decide +kernel
theorem dX12_holds_82 : decode cX12_holds 82 = .ok (.dload_n 2, 1) := by decide +kernel
theorem dX12_holds_83 : decode cX12_holds 83 = .ok (.dcmp .l, 1) := by decide +kernel
theorem dX12_holds_84 : decode cX12_holds 84 = .ok (.ifCond .ne 7, 3) := by decide +kernel
theorem dX12_holds_87 : decode cX12_holds 87 = .ok (.iconst 1, 1) := by decide +kernel
theorem dX12_holds_88 : decode cX12_holds 88 = .ok (.goto 4, 3) := by decide +kernel
theorem dX12_holds_91 : decode cX12_holds 91 = .ok (.iconst 0, 1) := by decide +kernel
theorem dX12_holds_92 : decode cX12_holds 92 = .ok (.ireturn, 1) := by decide +kernel
theorem dX12_holds_93 : decode cX12_holds 93 = .ok (.aload_n 0, 1) := by decide +kernel
theorem dX12_holds_94 : decode cX12_holds 94 = .ok (.getfield 95, 3) := by decide +kernel
theorem dX12_holds_97 : decode cX12_holds 97 = .ok (.dload_n 2, 1) := by decide +kernel
theorem dX12_holds_98 : decode cX12_holds 98 = .ok (.dcmp .l, 1) := by decide +kernel
theorem dX12_holds_99 : decode cX12_holds 99 = .ok (.ifCond .eq 7, 3) := by decide +kernel
theorem dX12_holds_102 : decode cX12_holds 102 = .ok (.iconst 1, 1) := by decide +kernel
theorem dX12_holds_103 : decode cX12_holds 103 = .ok (.goto 4, 3) := by decide +kernel
theorem dX12_holds_106 : decode cX12_holds 106 = .ok (.iconst 0, 1) := by decide +kernel
theorem dX12_holds_107 : decode cX12_holds 107 = .ok (.ireturn, 1) := by decide +kernel
theorem dX12_holds_108 : decode cX12_holds 108 = .ok (.aload_n 0, 1) := by decide +kernel
theorem dX12_holds_109 : decode cX12_holds 109 = .ok (.getfield 95, 3) := by decide +kernel
theorem dX12_holds_112 : decode cX12_holds 112 = .ok (.dload_n 2, 1) := by decide +kernel
theorem dX12_holds_113 : decode cX12_holds 113 = .ok (.dcmp .l, 1) := by decide +kernel
theorem dX12_holds_114 : decode cX12_holds 114 = .ok (.ifCond .lt 7, 3) := by decide +kernel
theorem dX12_holds_117 : decode cX12_holds 117 = .ok (.iconst 1, 1) := by decide +kernel
theorem dX12_holds_118 : decode cX12_holds 118 = .ok (.goto 4, 3) := by decide +kernel
theorem dX12_holds_121 : decode cX12_holds 121 = .ok (.iconst 0, 1) := by decide +kernel
theorem dX12_holds_122 : decode cX12_holds 122 = .ok (.ireturn, 1) := by decide +kernel
theorem dX12_holds_123 : decode cX12_holds 123 = .ok (.aload_n 0, 1) := by decide +kernel
theorem dX12_holds_124 : decode cX12_holds 124 = .ok (.getfield 95, 3) := by decide +kernel
theorem dX12_holds_127 : decode cX12_holds 127 = .ok (.dload_n 2, 1) := by decide +kernel
theorem dX12_holds_128 : decode cX12_holds 128 = .ok (.dcmp .l, 1) := by decide +kernel
theorem dX12_holds_129 : decode cX12_holds 129 = .ok (.ifCond .le 7, 3) := by decide +kernel
theorem dX12_holds_132 : decode cX12_holds 132 = .ok (.iconst 1, 1) := by decide +kernel
theorem dX12_holds_133 : decode cX12_holds 133 = .ok (.goto 4, 3) := by decide +kernel
theorem dX12_holds_136 : decode cX12_holds 136 = .ok (.iconst 0, 1) := by decide +kernel
theorem dX12_holds_137 : decode cX12_holds 137 = .ok (.ireturn, 1) := by decide +kernel
theorem dX12_choose_0 : decode cX12_choose 0 = .ok (.aload_n 0, 1) := by decide +kernel
theorem dX12_choose_1 : decode cX12_choose 1 = .ok (.getfield 267, 3) := by decide +kernel
theorem dX12_choose_4 : decode cX12_choose 4 = .ok (.iconst 3, 1) := by decide +kernel
theorem dX12_choose_5 : decode cX12_choose 5 = .ok (.if_icmp .ge 10, 3) := by decide +kernel
theorem dX12_choose_8 : decode cX12_choose 8 = .ok (.aload_n 0, 1) := by decide +kernel
theorem dX12_choose_9 : decode cX12_choose 9 = .ok (.getfield 267, 3) := by decide +kernel
theorem dX12_choose_12 : decode cX12_choose 12 = .ok (.goto 4, 3) := by decide +kernel
theorem dX12_choose_15 : decode cX12_choose 15 = .ok (.iconst 3, 1) := by decide +kernel
theorem dX12_choose_16 : decode cX12_choose 16 = .ok (.istore_n 1, 1) := by decide +kernel
theorem dX12_choose_17 : decode cX12_choose 17 = .ok (.iload_n 1, 1) := by decide +kernel
theorem dX12_choose_18 : decode cX12_choose 18 = .ok (.iconst 1, 1) := by decide +kernel
theorem dX12_choose_19 : decode cX12_choose 19 = .ok (.if_icmp .ne 26, 3) := by decide +kernel
theorem dX12_choose_22 : decode cX12_choose 22 = .ok (.aload_n 0, 1) := by decide +kernel
theorem dX12_choose_23 : decode cX12_choose 23 = .ok (.getfield 35, 3) := by decide +kernel
theorem dX12_choose_26 : decode cX12_choose 26 = .ok (.iconst 0, 1) := by decide +kernel
theorem dX12_choose_27 : decode cX12_choose 27 = .ok (.iaload, 1) := by decide +kernel
theorem dX12_choose_28 : decode cX12_choose 28 = .ok (.ifCond .eq 11, 3) := by decide +kernel
theorem dX12_choose_31 : decode cX12_choose 31 = .ok (.aload_n 0, 1) := by decide +kernel
theorem dX12_choose_32 : decode cX12_choose 32 = .ok (.iconst 0, 1) := by decide +kernel
theorem dX12_choose_33 : decode cX12_choose 33 = .ok (.invokevirtual 449, 3) := by decide +kernel
theorem dX12_choose_36 : decode cX12_choose 36 = .ok (.ifCond .eq 7, 3) := by decide +kernel
theorem dX12_choose_39 : decode cX12_choose 39 = .ok (.iconst 0, 1) := by decide +kernel
theorem dX12_choose_40 : decode cX12_choose 40 = .ok (.goto 4, 3) := by decide +kernel
theorem dX12_choose_43 : decode cX12_choose 43 = .ok (.iconst (-1), 1) := by decide +kernel
theorem dX12_choose_44 : decode cX12_choose 44 = .ok (.ireturn, 1) := by decide +kernel
theorem dX12_choose_45 : decode cX12_choose 45 = .ok (.aload_n 0, 1) := by decide +kernel
theorem dX12_choose_46 : decode cX12_choose 46 = .ok (.getfield 35, 3) := by decide +kernel
theorem dX12_choose_49 : decode cX12_choose 49 = .ok (.iconst 0, 1) := by decide +kernel
theorem dX12_choose_50 : decode cX12_choose 50 = .ok (.iaload, 1) := by decide +kernel
theorem dX12_choose_51 : decode cX12_choose 51 = .ok (.ifCond .le 11, 3) := by decide +kernel
theorem dX12_choose_54 : decode cX12_choose 54 = .ok (.aload_n 0, 1) := by decide +kernel
theorem dX12_choose_55 : decode cX12_choose 55 = .ok (.iconst 0, 1) := by decide +kernel
theorem dX12_choose_56 : decode cX12_choose 56 = .ok (.invokevirtual 449, 3) := by decide +kernel
theorem dX12_choose_59 : decode cX12_choose 59 = .ok (.goto 31, 3) := by decide +kernel
theorem dX12_choose_62 : decode cX12_choose 62 = .ok (.aload_n 0, 1) := by decide +kernel
theorem dX12_choose_63 : decode cX12_choose 63 = .ok (.getfield 95, 3) := by decide +kernel
theorem dX12_choose_66 : decode cX12_choose 66 = .ok (.dconst 0, 1) := by decide +kernel
theorem dX12_choose_67 : decode cX12_choose 67 = .ok (.dcmp .l, 1) := by decide +kernel
theorem dX12_choose_68 : decode cX12_choose 68 = .ok (.ifCond .gt 17, 3) := by decide +kernel
theorem dX12_choose_71 : decode cX12_choose 71 = .ok (.iload_n 1, 1) := by decide +kernel
theorem dX12_choose_72 : decode cX12_choose 72 = .ok (.iconst 2, 1) := by decide +kernel
theorem dX12_choose_73 : decode cX12_choose 73 = .ok (.if_icmp .ne 16, 3) := by decide +kernel
theorem dX12_choose_76 : decode cX12_choose 76 = .ok (.aload_n 0, 1) := by decide +kernel
theorem dX12_choose_77 : decode cX12_choose 77 = .ok (.getfield 95, 3) := by decide +kernel
theorem dX12_choose_80 : decode cX12_choose 80 = .ok (.dconst 0, 1) := by decide +kernel
theorem dX12_choose_81 : decode cX12_choose 81 = .ok (.dcmp .l, 1) := by decide +kernel
theorem dX12_choose_82 : decode cX12_choose 82 = .ok (.ifCond .ne 7, 3) := by decide +kernel
theorem dX12_choose_85 : decode cX12_choose 85 = .ok (.iconst 1, 1) := by decide +kernel
theorem dX12_choose_86 : decode cX12_choose 86 = .ok (.goto 4, 3) := by decide +kernel
theorem dX12_choose_89 : decode cX12_choose 89 = .ok (.iconst 0, 1) := by decide +kernel
theorem dX12_choose_90 : decode cX12_choose 90 = .ok (.istore_n 2, 1) := by decide +kernel
theorem dX12_choose_91 : decode cX12_choose 91 = .ok (.iload_n 2, 1) := by decide +kernel
theorem dX12_choose_92 : decode cX12_choose 92 = .ok (.ifCond .eq 5, 3) := by decide +kernel
theorem dX12_choose_95 : decode cX12_choose 95 = .ok (.iconst 0, 1) := by decide +kernel
theorem dX12_choose_96 : decode cX12_choose 96 = .ok (.ireturn, 1) := by decide +kernel
theorem dX12_choose_97 : decode cX12_choose 97 = .ok (.aload_n 0, 1) := by decide +kernel
theorem dX12_choose_98 : decode cX12_choose 98 = .ok (.getfield 35, 3) := by decide +kernel
theorem dX12_choose_101 : decode cX12_choose 101 = .ok (.iconst 1, 1) := by decide +kernel
theorem dX12_choose_102 : decode cX12_choose 102 = .ok (.iaload, 1) := by decide +kernel
theorem dX12_choose_103 : decode cX12_choose 103 = .ok (.ifCond .le 11, 3) := by decide +kernel
theorem dX12_choose_106 : decode cX12_choose 106 = .ok (.aload_n 0, 1) := by decide +kernel
theorem dX12_choose_107 : decode cX12_choose 107 = .ok (.iconst 1, 1) := by decide +kernel
theorem dX12_choose_108 : decode cX12_choose 108 = .ok (.invokevirtual 449, 3) := by decide +kernel
theorem dX12_choose_111 : decode cX12_choose 111 = .ok (.goto 22, 3) := by decide +kernel
theorem dX12_choose_114 : decode cX12_choose 114 = .ok (.iload_n 1, 1) := by decide +kernel
theorem dX12_choose_115 : decode cX12_choose 115 = .ok (.iconst 2, 1) := by decide +kernel
theorem dX12_choose_116 : decode cX12_choose 116 = .ok (.if_icmp .eq 12, 3) := by decide +kernel
theorem dX12_choose_119 : decode cX12_choose 119 = .ok (.aload_n 0, 1) := by decide +kernel
theorem dX12_choose_120 : decode cX12_choose 120 = .ok (.getfield 95, 3) := by decide +kernel
theorem dX12_choose_123 : decode cX12_choose 123 = .ok (.dconst 0, 1) := by decide +kernel
theorem dX12_choose_124 : decode cX12_choose 124 = .ok (.dcmp .g, 1) := by decide +kernel
theorem dX12_choose_125 : decode cX12_choose 125 = .ok (.ifCond .ge 7, 3) := by decide +kernel
theorem dX12_choose_128 : decode cX12_choose 128 = .ok (.iconst 1, 1) := by decide +kernel
theorem dX12_choose_129 : decode cX12_choose 129 = .ok (.goto 4, 3) := by decide +kernel
theorem dX12_choose_132 : decode cX12_choose 132 = .ok (.iconst 0, 1) := by decide +kernel
theorem dX12_choose_133 : decode cX12_choose 133 = .ok (.istore_n 3, 1) := by decide +kernel
theorem dX12_choose_134 : decode cX12_choose 134 = .ok (.iload_n 3, 1) := by decide +kernel
theorem dX12_choose_135 : decode cX12_choose 135 = .ok (.ifCond .eq 7, 3) := by decide +kernel
theorem dX12_choose_138 : decode cX12_choose 138 = .ok (.iconst 1, 1) := by decide +kernel
theorem dX12_choose_139 : decode cX12_choose 139 = .ok (.goto 13, 3) := by decide +kernel
theorem dX12_choose_142 : decode cX12_choose 142 = .ok (.iload_n 1, 1) := by decide +kernel
theorem dX12_choose_143 : decode cX12_choose 143 = .ok (.iconst 3, 1) := by decide +kernel
theorem dX12_choose_144 : decode cX12_choose 144 = .ok (.if_icmp .ne 7, 3) := by decide +kernel
theorem dX12_choose_147 : decode cX12_choose 147 = .ok (.iconst 2, 1) := by decide +kernel
theorem dX12_choose_148 : decode cX12_choose 148 = .ok (.goto 4, 3) := by decide +kernel
theorem dX12_choose_151 : decode cX12_choose 151 = .ok (.iconst (-1), 1) := by decide +kernel
theorem dX12_choose_152 : decode cX12_choose 152 = .ok (.ireturn, 1) := by decide +kernel
theorem dX12_begin_0 : decode cX12_begin 0 = .ok (.iconst 0, 1) := by decide +kernel
theorem dX12_begin_1 : decode cX12_begin 1 = .ok (.istore_n 2, 1) := by decide +kernel
theorem dX12_begin_2 : decode cX12_begin 2 = .ok (.iload_n 2, 1) := by decide +kernel
theorem dX12_begin_3 : decode cX12_begin 3 = .ok (.aload_n 0, 1) := by decide +kernel
theorem dX12_begin_4 : decode cX12_begin 4 = .ok (.getfield 270, 3) := by decide +kernel
theorem dX12_begin_7 : decode cX12_begin 7 = .ok (.if_icmp .ge 19, 3) := by decide +kernel
theorem dX12_begin_10 : decode cX12_begin 10 = .ok (.aload_n 0, 1) := by decide +kernel
theorem dX12_begin_11 : decode cX12_begin 11 = .ok (.getfield 32, 3) := by decide +kernel
theorem dX12_begin_14 : decode cX12_begin 14 = .ok (.iload_n 2, 1) := by decide +kernel
theorem dX12_begin_15 : decode cX12_begin 15 = .ok (.iaload, 1) := by decide +kernel
theorem dX12_begin_16 : decode cX12_begin 16 = .ok (.iload_n 1, 1) := by decide +kernel
theorem dX12_begin_17 : decode cX12_begin 17 = .ok (.if_icmp .ge 9, 3) := by decide +kernel
theorem dX12_begin_20 : decode cX12_begin 20 = .ok (.iinc 2 1, 3) := by decide +kernel
theorem dX12_begin_23 : decode cX12_begin 23 = .ok (.goto (-21), 3) := by decide +kernel
theorem dX12_begin_26 : decode cX12_begin 26 = .ok (.iload_n 2, 1) := by decide +kernel
theorem dX12_begin_27 : decode cX12_begin 27 = .ok (.ireturn, 1) := by decide +kernel
theorem dX12_writeItems_0 : decode cX12_writeItems 0 = .ok (.iload_n 1, 1) := by decide +kernel
theorem dX12_writeItems_1 : decode cX12_writeItems 1 = .ok (.istore 4, 2) := by decide +kernel
theorem dX12_writeItems_3 : decode cX12_writeItems 3 = .ok (.iload 4, 2) := by decide +kernel
theorem dX12_writeItems_5 : decode cX12_writeItems 5 = .ok (.iload_n 2, 1) := by decide +kernel
theorem dX12_writeItems_6 : decode cX12_writeItems 6 = .ok (.if_icmp .ge 130, 3) := by decide +kernel
theorem dX12_writeItems_9 : decode cX12_writeItems 9 = .ok (.aload_n 0, 1) := by decide +kernel
theorem dX12_writeItems_10 : decode cX12_writeItems 10 = .ok (.getfield 26, 3) := by decide +kernel
theorem dX12_writeItems_13 : decode cX12_writeItems 13 = .ok (.iload 4, 2) := by decide +kernel
theorem dX12_writeItems_15 : decode cX12_writeItems 15 = .ok (.iaload, 1) := by decide +kernel
theorem dX12_writeItems_16 : decode cX12_writeItems 16 = .ok (.bipush 8, 2) := by decide +kernel
theorem dX12_writeItems_18 : decode cX12_writeItems 18 = .ok (.if_icmp .eq 19, 3) := by decide +kernel
theorem dX12_writeItems_21 : decode cX12_writeItems 21 = .ok (.aload_n 0, 1) := by decide +kernel
theorem dX12_writeItems_22 : decode cX12_writeItems 22 = .ok (.getfield 26, 3) := by decide +kernel
theorem dX12_writeItems_25 : decode cX12_writeItems 25 = .ok (.iload 4, 2) := by decide +kernel
theorem dX12_writeItems_27 : decode cX12_writeItems 27 = .ok (.iaload, 1) := by decide +kernel
theorem dX12_writeItems_28 : decode cX12_writeItems 28 = .ok (.bipush 6, 2) := by decide +kernel
theorem dX12_writeItems_30 : decode cX12_writeItems 30 = .ok (.if_icmp .ne 14, 3) := by decide +kernel
theorem dX12_writeItems_33 : decode cX12_writeItems 33 = .ok (.iload_n 3, 1) := by decide +kernel
theorem dX12_writeItems_34 : decode cX12_writeItems 34 = .ok (.ifCond .ne 10, 3) := by decide +kernel
theorem dX12_writeItems_37 : decode cX12_writeItems 37 = .ok (.aload_n 0, 1) := by decide +kernel
theorem dX12_writeItems_38 : decode cX12_writeItems 38 = .ok (.invokevirtual 452, 3) := by decide +kernel
theorem dX12_writeItems_41 : decode cX12_writeItems 41 = .ok (.goto 89, 3) := by decide +kernel
theorem dX12_writeItems_44 : decode cX12_writeItems 44 = .ok (.aload_n 0, 1) := by decide +kernel
theorem dX12_writeItems_45 : decode cX12_writeItems 45 = .ok (.getfield 26, 3) := by decide +kernel
theorem dX12_writeItems_48 : decode cX12_writeItems 48 = .ok (.iload 4, 2) := by decide +kernel
theorem dX12_writeItems_50 : decode cX12_writeItems 50 = .ok (.iaload, 1) := by decide +kernel
theorem dX12_writeItems_51 : decode cX12_writeItems 51 = .ok (.bipush 6, 2) := by decide +kernel
theorem dX12_writeItems_53 : decode cX12_writeItems 53 = .ok (.if_icmp .ne 35, 3) := by decide +kernel
theorem dX12_writeItems_56 : decode cX12_writeItems 56 = .ok (.iconst 0, 1) := by decide +kernel
theorem dX12_writeItems_57 : decode cX12_writeItems 57 = .ok (.istore 5, 2) := by decide +kernel
theorem dX12_writeItems_59 : decode cX12_writeItems 59 = .ok (.iload 5, 2) := by decide +kernel
theorem dX12_writeItems_61 : decode cX12_writeItems 61 = .ok (.aload_n 0, 1) := by decide +kernel
theorem dX12_writeItems_62 : decode cX12_writeItems 62 = .ok (.getfield 88, 3) := by decide +kernel
theorem dX12_writeItems_65 : decode cX12_writeItems 65 = .ok (.if_icmp .ge 20, 3) := by decide +kernel
theorem dX12_writeItems_68 : decode cX12_writeItems 68 = .ok (.aload_n 0, 1) := by decide +kernel
theorem dX12_writeItems_69 : decode cX12_writeItems 69 = .ok (.aload_n 0, 1) := by decide +kernel
theorem dX12_writeItems_70 : decode cX12_writeItems 70 = .ok (.getfield 13, 3) := by decide +kernel
theorem dX12_writeItems_73 : decode cX12_writeItems 73 = .ok (.iload 5, 2) := by decide +kernel
theorem dX12_writeItems_75 : decode cX12_writeItems 75 = .ok (.iaload, 1) := by decide +kernel
theorem dX12_writeItems_76 : decode cX12_writeItems 76 = .ok (.invokevirtual 278, 3) := by decide +kernel
theorem dX12_writeItems_79 : decode cX12_writeItems 79 = .ok (.iinc 5 1, 3) := by decide +kernel
theorem dX12_writeItems_82 : decode cX12_writeItems 82 = .ok (.goto (-23), 3) := by decide +kernel
theorem dX12_writeItems_85 : decode cX12_writeItems 85 = .ok (.goto 45, 3) := by decide +kernel
theorem dX12_writeItems_88 : decode cX12_writeItems 88 = .ok (.aload_n 0, 1) := by decide +kernel
theorem dX12_writeItems_89 : decode cX12_writeItems 89 = .ok (.getfield 26, 3) := by decide +kernel
theorem dX12_writeItems_92 : decode cX12_writeItems 92 = .ok (.iload 4, 2) := by decide +kernel
theorem dX12_writeItems_94 : decode cX12_writeItems 94 = .ok (.iaload, 1) := by decide +kernel
theorem dX12_writeItems_95 : decode cX12_writeItems 95 = .ok (.iconst 3, 1) := by decide +kernel
theorem dX12_writeItems_96 : decode cX12_writeItems 96 = .ok (.if_icmp .eq 14, 3) := by decide +kernel
theorem dX12_writeItems_99 : decode cX12_writeItems 99 = .ok (.aload_n 0, 1) := by decide +kernel
theorem dX12_writeItems_100 : decode cX12_writeItems 100 = .ok (.getfield 26, 3) := by decide +kernel
theorem dX12_writeItems_103 : decode cX12_writeItems 103 = .ok (.iload 4, 2) := by decide +kernel
theorem dX12_writeItems_105 : decode cX12_writeItems 105 = .ok (.iaload, 1) := by decide +kernel
theorem dX12_writeItems_106 : decode cX12_writeItems 106 = .ok (.iconst 5, 1) := by decide +kernel
theorem dX12_writeItems_107 : decode cX12_writeItems 107 = .ok (.if_icmp .ne 17, 3) := by decide +kernel
theorem dX12_writeItems_110 : decode cX12_writeItems 110 = .ok (.aload_n 0, 1) := by decide +kernel
theorem dX12_writeItems_111 : decode cX12_writeItems 111 = .ok (.aload_n 0, 1) := by decide +kernel
theorem dX12_writeItems_112 : decode cX12_writeItems 112 = .ok (.getfield 29, 3) := by decide +kernel
theorem dX12_writeItems_115 : decode cX12_writeItems 115 = .ok (.iload 4, 2) := by decide +kernel
theorem dX12_writeItems_117 : decode cX12_writeItems 117 = .ok (.iaload, 1) := by decide +kernel
theorem dX12_writeItems_118 : decode cX12_writeItems 118 = .ok (.invokevirtual 278, 3) := by decide +kernel
theorem dX12_writeItems_121 : decode cX12_writeItems 121 = .ok (.goto 9, 3) := by decide +kernel
theorem dX12_writeItems_124 : decode cX12_writeItems 124 = .ok (.aload_n 0, 1) := by decide +kernel
theorem dX12_writeItems_125 : decode cX12_writeItems 125 = .ok (.iload 4, 2) := by decide +kernel
theorem dX12_writeItems_127 : decode cX12_writeItems 127 = .ok (.invokevirtual 304, 3) := by decide +kernel
theorem dX12_writeItems_130 : decode cX12_writeItems 130 = .ok (.iinc 4 1, 3) := by decide +kernel
theorem dX12_writeItems_133 : decode cX12_writeItems 133 = .ok (.goto (-130), 3) := by decide +kernel
theorem dX12_writeItems_136 : decode cX12_writeItems 136 = .ok (.return_, 1) := by decide +kernel
theorem dX12_show_0 : decode cX12_show 0 = .ok (.aload_n 0, 1) := by decide +kernel
theorem dX12_show_1 : decode cX12_show 1 = .ok (.aload_n 0, 1) := by decide +kernel
theorem dX12_show_2 : decode cX12_show 2 = .ok (.getfield 267, 3) := by decide +kernel
theorem dX12_show_5 : decode cX12_show 5 = .ok (.ifCond .le 7, 3) := by decide +kernel
theorem dX12_show_8 : decode cX12_show 8 = .ok (.iconst 0, 1) := by decide +kernel
theorem dX12_show_9 : decode cX12_show 9 = .ok (.goto 4, 3) := by decide +kernel
theorem dX12_show_12 : decode cX12_show 12 = .ok (.iconst 1, 1) := by decide +kernel
theorem dX12_show_13 : decode cX12_show 13 = .ok (.putfield 78, 3) := by decide +kernel
theorem dX12_show_16 : decode cX12_show 16 = .ok (.aload_n 0, 1) := by decide +kernel
theorem dX12_show_17 : decode cX12_show 17 = .ok (.getfield 78, 3) := by decide +kernel
theorem dX12_show_20 : decode cX12_show 20 = .ok (.ifCond .eq 5, 3) := by decide +kernel
theorem dX12_show_23 : decode cX12_show 23 = .ok (.iconst 0, 1) := by decide +kernel
theorem dX12_show_24 : decode cX12_show 24 = .ok (.ireturn, 1) := by decide +kernel
theorem dX12_show_25 : decode cX12_show 25 = .ok (.aload_n 0, 1) := by decide +kernel
theorem dX12_show_26 : decode cX12_show 26 = .ok (.iconst 0, 1) := by decide +kernel
theorem dX12_show_27 : decode cX12_show 27 = .ok (.putfield 273, 3) := by decide +kernel
theorem dX12_show_30 : decode cX12_show 30 = .ok (.aload_n 0, 1) := by decide +kernel
theorem dX12_show_31 : decode cX12_show 31 = .ok (.invokevirtual 455, 3) := by decide +kernel
theorem dX12_show_34 : decode cX12_show 34 = .ok (.istore_n 1, 1) := by decide +kernel
theorem dX12_show_35 : decode cX12_show 35 = .ok (.aload_n 0, 1) := by decide +kernel
theorem dX12_show_36 : decode cX12_show 36 = .ok (.getfield 95, 3) := by decide +kernel
theorem dX12_show_39 : decode cX12_show 39 = .ok (.dconst 0, 1) := by decide +kernel
theorem dX12_show_40 : decode cX12_show 40 = .ok (.dcmp .g, 1) := by decide +kernel
theorem dX12_show_41 : decode cX12_show 41 = .ok (.ifCond .ge 30, 3) := by decide +kernel
theorem dX12_show_44 : decode cX12_show 44 = .ok (.iload_n 1, 1) := by decide +kernel
theorem dX12_show_45 : decode cX12_show 45 = .ok (.iconst 1, 1) := by decide +kernel
theorem dX12_show_46 : decode cX12_show 46 = .ok (.if_icmp .ne 21, 3) := by decide +kernel
theorem dX12_show_49 : decode cX12_show 49 = .ok (.aload_n 0, 1) := by decide +kernel
theorem dX12_show_50 : decode cX12_show 50 = .ok (.getfield 35, 3) := by decide +kernel
theorem dX12_show_53 : decode cX12_show 53 = .ok (.iconst 0, 1) := by decide +kernel
theorem dX12_show_54 : decode cX12_show 54 = .ok (.iaload, 1) := by decide +kernel
theorem dX12_show_55 : decode cX12_show 55 = .ok (.ifCond .gt 12, 3) := by decide +kernel
theorem dX12_show_58 : decode cX12_show 58 = .ok (.aload_n 0, 1) := by decide +kernel
theorem dX12_show_59 : decode cX12_show 59 = .ok (.getfield 35, 3) := by decide +kernel
theorem dX12_show_62 : decode cX12_show 62 = .ok (.iconst 1, 1) := by decide +kernel
theorem dX12_show_63 : decode cX12_show 63 = .ok (.iaload, 1) := by decide +kernel
theorem dX12_show_64 : decode cX12_show 64 = .ok (.ifCond .le 7, 3) := by decide +kernel
theorem dX12_show_67 : decode cX12_show 67 = .ok (.iconst 1, 1) := by decide +kernel
theorem dX12_show_68 : decode cX12_show 68 = .ok (.goto 4, 3) := by decide +kernel
theorem dX12_show_71 : decode cX12_show 71 = .ok (.iconst 0, 1) := by decide +kernel
theorem dX12_show_72 : decode cX12_show 72 = .ok (.istore_n 2, 1) := by decide +kernel
theorem dX12_show_73 : decode cX12_show 73 = .ok (.iload_n 1, 1) := by decide +kernel
theorem dX12_show_74 : decode cX12_show 74 = .ok (.ifCond .ge 7, 3) := by decide +kernel
theorem dX12_show_77 : decode cX12_show 77 = .ok (.iconst 0, 1) := by decide +kernel
theorem dX12_show_78 : decode cX12_show 78 = .ok (.goto 8, 3) := by decide +kernel
theorem dX12_show_81 : decode cX12_show 81 = .ok (.aload_n 0, 1) := by decide +kernel
theorem dX12_show_82 : decode cX12_show 82 = .ok (.iload_n 1, 1) := by decide +kernel
theorem dX12_show_83 : decode cX12_show 83 = .ok (.invokevirtual 458, 3) := by decide +kernel
theorem dX12_show_86 : decode cX12_show 86 = .ok (.istore_n 3, 1) := by decide +kernel
theorem dX12_show_87 : decode cX12_show 87 = .ok (.iload_n 1, 1) := by decide +kernel
theorem dX12_show_88 : decode cX12_show 88 = .ok (.ifCond .ge 7, 3) := by decide +kernel
theorem dX12_show_91 : decode cX12_show 91 = .ok (.iconst 0, 1) := by decide +kernel
theorem dX12_show_92 : decode cX12_show 92 = .ok (.goto 10, 3) := by decide +kernel
theorem dX12_show_95 : decode cX12_show 95 = .ok (.aload_n 0, 1) := by decide +kernel
theorem dX12_show_96 : decode cX12_show 96 = .ok (.iload_n 1, 1) := by decide +kernel
theorem dX12_show_97 : decode cX12_show 97 = .ok (.iconst 1, 1) := by decide +kernel
theorem dX12_show_98 : decode cX12_show 98 = .ok (.iadd, 1) := by decide +kernel
theorem dX12_show_99 : decode cX12_show 99 = .ok (.invokevirtual 458, 3) := by decide +kernel
theorem dX12_show_102 : decode cX12_show 102 = .ok (.istore 4, 2) := by decide +kernel
theorem dX12_show_104 : decode cX12_show 104 = .ok (.iload_n 1, 1) := by decide +kernel
theorem dX12_show_105 : decode cX12_show 105 = .ok (.ifCond .ge 8, 3) := by decide +kernel
theorem dX12_show_108 : decode cX12_show 108 = .ok (.bipush 8, 2) := by decide +kernel
theorem dX12_show_110 : decode cX12_show 110 = .ok (.goto 13, 3) := by decide +kernel
theorem dX12_show_113 : decode cX12_show 113 = .ok (.aload_n 0, 1) := by decide +kernel
theorem dX12_show_114 : decode cX12_show 114 = .ok (.getfield 26, 3) := by decide +kernel
theorem dX12_show_117 : decode cX12_show 117 = .ok (.iload_n 3, 1) := by decide +kernel
theorem dX12_show_118 : decode cX12_show 118 = .ok (.iload 4, 2) := by decide +kernel
theorem dX12_show_120 : decode cX12_show 120 = .ok (.invokestatic 245, 3) := by decide +kernel
theorem dX12_show_123 : decode cX12_show 123 = .ok (.istore 5, 2) := by decide +kernel
theorem dX12_show_125 : decode cX12_show 125 = .ok (.iload 5, 2) := by decide +kernel
theorem dX12_show_127 : decode cX12_show 127 = .ok (.iconst 1, 1) := by decide +kernel
theorem dX12_show_128 : decode cX12_show 128 = .ok (.if_icmp .ne 20, 3) := by decide +kernel
theorem dX12_show_131 : decode cX12_show 131 = .ok (.aload_n 0, 1) := by decide +kernel
theorem dX12_show_132 : decode cX12_show 132 = .ok (.getfield 26, 3) := by decide +kernel
theorem dX12_show_135 : decode cX12_show 135 = .ok (.iload_n 3, 1) := by decide +kernel
theorem dX12_show_136 : decode cX12_show 136 = .ok (.iload 4, 2) := by decide +kernel
theorem dX12_show_138 : decode cX12_show 138 = .ok (.invokestatic 233, 3) := by decide +kernel
theorem dX12_show_141 : decode cX12_show 141 = .ok (.ifCond .eq 7, 3) := by decide +kernel
theorem dX12_show_144 : decode cX12_show 144 = .ok (.iconst 1, 1) := by decide +kernel
theorem dX12_show_145 : decode cX12_show 145 = .ok (.goto 4, 3) := by decide +kernel
theorem dX12_show_148 : decode cX12_show 148 = .ok (.iconst 0, 1) := by decide +kernel
theorem dX12_show_149 : decode cX12_show 149 = .ok (.istore 6, 2) := by decide +kernel
theorem dX12_show_151 : decode cX12_show 151 = .ok (.iload_n 1, 1) := by decide +kernel
theorem dX12_show_152 : decode cX12_show 152 = .ok (.ifCond .lt 22, 3) := by decide +kernel
theorem dX12_show_155 : decode cX12_show 155 = .ok (.iload 6, 2) := by decide +kernel
theorem dX12_show_157 : decode cX12_show 157 = .ok (.ifCond .eq 21, 3) := by decide +kernel
theorem dX12_show_160 : decode cX12_show 160 = .ok (.aload_n 0, 1) := by decide +kernel
theorem dX12_show_161 : decode cX12_show 161 = .ok (.getfield 95, 3) := by decide +kernel
theorem dX12_show_164 : decode cX12_show 164 = .ok (.invokestatic 138, 3) := by decide +kernel
theorem dX12_show_167 : decode cX12_show 167 = .ok (.ldc2_w 461, 3) := by decide +kernel
theorem dX12_show_170 : decode cX12_show 170 = .ok (.dcmp .l, 1) := by decide +kernel
theorem dX12_show_171 : decode cX12_show 171 = .ok (.ifCond .lt 7, 3) := by decide +kernel
theorem dX12_show_174 : decode cX12_show 174 = .ok (.iconst 1, 1) := by decide +kernel
theorem dX12_show_175 : decode cX12_show 175 = .ok (.goto 4, 3) := by decide +kernel
theorem dX12_show_178 : decode cX12_show 178 = .ok (.iconst 0, 1) := by decide +kernel
theorem dX12_show_179 : decode cX12_show 179 = .ok (.istore 7, 2) := by decide +kernel
theorem dX12_show_181 : decode cX12_show 181 = .ok (.iload 7, 2) := by decide +kernel
theorem dX12_show_183 : decode cX12_show 183 = .ok (.ifCond .eq 25, 3) := by decide +kernel
theorem dX12_show_186 : decode cX12_show 186 = .ok (.aload_n 0, 1) := by decide +kernel
theorem dX12_show_187 : decode cX12_show 187 = .ok (.getfield 95, 3) := by decide +kernel
theorem dX12_show_190 : decode cX12_show 190 = .ok (.dconst 0, 1) := by decide +kernel
theorem dX12_show_191 : decode cX12_show 191 = .ok (.dcmp .g, 1) := by decide +kernel
theorem dX12_show_192 : decode cX12_show 192 = .ok (.ifCond .ge 9, 3) := by decide +kernel
theorem dX12_show_195 : decode cX12_show 195 = .ok (.aload_n 0, 1) := by decide +kernel
theorem dX12_show_196 : decode cX12_show 196 = .ok (.bipush 45, 2) := by decide +kernel
theorem dX12_show_198 : decode cX12_show 198 = .ok (.invokevirtual 278, 3) := by decide +kernel
theorem dX12_show_201 : decode cX12_show 201 = .ok (.aload_n 0, 1) := by decide +kernel
theorem dX12_show_202 : decode cX12_show 202 = .ok (.invokevirtual 452, 3) := by decide +kernel
theorem dX12_show_205 : decode cX12_show 205 = .ok (.goto 75, 3) := by decide +kernel
theorem dX12_show_208 : decode cX12_show 208 = .ok (.iload 6, 2) := by decide +kernel
theorem dX12_show_210 : decode cX12_show 210 = .ok (.ifCond .eq 14, 3) := by decide +kernel
theorem dX12_show_213 : decode cX12_show 213 = .ok (.aload_n 0, 1) := by decide +kernel
theorem dX12_show_214 : decode cX12_show 214 = .ok (.iload_n 3, 1) := by decide +kernel
theorem dX12_show_215 : decode cX12_show 215 = .ok (.iload 4, 2) := by decide +kernel
theorem dX12_show_217 : decode cX12_show 217 = .ok (.iload_n 2, 1) := by decide +kernel
theorem dX12_show_218 : decode cX12_show 218 = .ok (.invokevirtual 463, 3) := by decide +kernel
theorem dX12_show_221 : decode cX12_show 221 = .ok (.goto 59, 3) := by decide +kernel
theorem dX12_show_224 : decode cX12_show 224 = .ok (.iload 5, 2) := by decide +kernel
theorem dX12_show_226 : decode cX12_show 226 = .ok (.iconst 1, 1) := by decide +kernel
theorem dX12_show_227 : decode cX12_show 227 = .ok (.if_icmp .ne 14, 3) := by decide +kernel
theorem dX12_show_230 : decode cX12_show 230 = .ok (.aload_n 0, 1) := by decide +kernel
theorem dX12_show_231 : decode cX12_show 231 = .ok (.iload_n 3, 1) := by decide +kernel
theorem dX12_show_232 : decode cX12_show 232 = .ok (.iload 4, 2) := by decide +kernel
theorem dX12_show_234 : decode cX12_show 234 = .ok (.iload_n 2, 1) := by decide +kernel
theorem dX12_show_235 : decode cX12_show 235 = .ok (.invokevirtual 466, 3) := by decide +kernel
theorem dX12_show_238 : decode cX12_show 238 = .ok (.goto 42, 3) := by decide +kernel
theorem dX12_show_241 : decode cX12_show 241 = .ok (.iload 5, 2) := by decide +kernel
theorem dX12_show_243 : decode cX12_show 243 = .ok (.iconst 3, 1) := by decide +kernel
theorem dX12_show_244 : decode cX12_show 244 = .ok (.if_icmp .ne 13, 3) := by decide +kernel
theorem dX12_show_247 : decode cX12_show 247 = .ok (.aload_n 0, 1) := by decide +kernel
theorem dX12_show_248 : decode cX12_show 248 = .ok (.iload_n 3, 1) := by decide +kernel
theorem dX12_show_249 : decode cX12_show 249 = .ok (.iload 4, 2) := by decide +kernel
theorem dX12_show_251 : decode cX12_show 251 = .ok (.invokevirtual 469, 3) := by decide +kernel
theorem dX12_show_254 : decode cX12_show 254 = .ok (.goto 26, 3) := by decide +kernel
theorem dX12_show_257 : decode cX12_show 257 = .ok (.iload_n 2, 1) := by decide +kernel
theorem dX12_show_258 : decode cX12_show 258 = .ok (.ifCond .eq 14, 3) := by decide +kernel
theorem dX12_show_261 : decode cX12_show 261 = .ok (.iload 5, 2) := by decide +kernel
theorem dX12_show_263 : decode cX12_show 263 = .ok (.ifCond .eq 9, 3) := by decide +kernel
theorem dX12_show_266 : decode cX12_show 266 = .ok (.aload_n 0, 1) := by decide +kernel
theorem dX12_show_267 : decode cX12_show 267 = .ok (.bipush 45, 2) := by decide +kernel
theorem dX12_show_269 : decode cX12_show 269 = .ok (.invokevirtual 278, 3) := by decide +kernel
theorem dX12_show_272 : decode cX12_show 272 = .ok (.aload_n 0, 1) := by decide +kernel
theorem dX12_show_273 : decode cX12_show 273 = .ok (.iload_n 3, 1) := by decide +kernel
theorem dX12_show_274 : decode cX12_show 274 = .ok (.iload 4, 2) := by decide +kernel
theorem dX12_show_276 : decode cX12_show 276 = .ok (.iconst 0, 1) := by decide +kernel
theorem dX12_show_277 : decode cX12_show 277 = .ok (.invokevirtual 472, 3) := by decide +kernel
theorem dX12_show_280 : decode cX12_show 280 = .ok (.aload_n 0, 1) := by decide +kernel
theorem dX12_show_281 : decode cX12_show 281 = .ok (.getfield 273, 3) := by decide +kernel
theorem dX12_show_284 : decode cX12_show 284 = .ok (.ireturn, 1) := by decide +kernel
theorem dX12_showText_0 : decode cX12_showText 0 = .ok (.aload_n 0, 1) := by decide +kernel
theorem dX12_showText_1 : decode cX12_showText 1 = .ok (.aload_n 0, 1) := by decide +kernel
theorem dX12_showText_2 : decode cX12_showText 2 = .ok (.getfield 267, 3) := by decide +kernel
theorem dX12_showText_5 : decode cX12_showText 5 = .ok (.ifCond .le 7, 3) := by decide +kernel
theorem dX12_showText_8 : decode cX12_showText 8 = .ok (.iconst 0, 1) := by decide +kernel
theorem dX12_showText_9 : decode cX12_showText 9 = .ok (.goto 4, 3) := by decide +kernel
theorem dX12_showText_12 : decode cX12_showText 12 = .ok (.iconst 1, 1) := by decide +kernel
theorem dX12_showText_13 : decode cX12_showText 13 = .ok (.putfield 78, 3) := by decide +kernel
theorem dX12_showText_16 : decode cX12_showText 16 = .ok (.aload_n 0, 1) := by decide +kernel
theorem dX12_showText_17 : decode cX12_showText 17 = .ok (.getfield 78, 3) := by decide +kernel
theorem dX12_showText_20 : decode cX12_showText 20 = .ok (.ifCond .eq 5, 3) := by decide +kernel
theorem dX12_showText_23 : decode cX12_showText 23 = .ok (.iconst 0, 1) := by decide +kernel
theorem dX12_showText_24 : decode cX12_showText 24 = .ok (.ireturn, 1) := by decide +kernel
theorem dX12_showText_25 : decode cX12_showText 25 = .ok (.aload_n 0, 1) := by decide +kernel
theorem dX12_showText_26 : decode cX12_showText 26 = .ok (.iconst 0, 1) := by decide +kernel
theorem dX12_showText_27 : decode cX12_showText 27 = .ok (.putfield 273, 3) := by decide +kernel
theorem dX12_showText_30 : decode cX12_showText 30 = .ok (.aload_n 0, 1) := by decide +kernel
theorem dX12_showText_31 : decode cX12_showText 31 = .ok (.getfield 267, 3) := by decide +kernel
theorem dX12_showText_34 : decode cX12_showText 34 = .ok (.iconst 4, 1) := by decide +kernel
theorem dX12_showText_35 : decode cX12_showText 35 = .ok (.if_icmp .ne 11, 3) := by decide +kernel
theorem dX12_showText_38 : decode cX12_showText 38 = .ok (.aload_n 0, 1) := by decide +kernel
theorem dX12_showText_39 : decode cX12_showText 39 = .ok (.iconst 3, 1) := by decide +kernel
theorem dX12_showText_40 : decode cX12_showText 40 = .ok (.invokevirtual 458, 3) := by decide +kernel
theorem dX12_showText_43 : decode cX12_showText 43 = .ok (.goto 4, 3) := by decide +kernel
theorem dX12_showText_46 : decode cX12_showText 46 = .ok (.iconst 0, 1) := by decide +kernel
theorem dX12_showText_47 : decode cX12_showText 47 = .ok (.istore_n 1, 1) := by decide +kernel
theorem dX12_showText_48 : decode cX12_showText 48 = .ok (.aload_n 0, 1) := by decide +kernel
theorem dX12_showText_49 : decode cX12_showText 49 = .ok (.getfield 267, 3) := by decide +kernel
theorem dX12_showText_52 : decode cX12_showText 52 = .ok (.iconst 4, 1) := by decide +kernel
theorem dX12_showText_53 : decode cX12_showText 53 = .ok (.if_icmp .ne 10, 3) := by decide +kernel
theorem dX12_showText_56 : decode cX12_showText 56 = .ok (.aload_n 0, 1) := by decide +kernel
theorem dX12_showText_57 : decode cX12_showText 57 = .ok (.getfield 270, 3) := by decide +kernel
theorem dX12_showText_60 : decode cX12_showText 60 = .ok (.goto 8, 3) := by decide +kernel
theorem dX12_showText_63 : decode cX12_showText 63 = .ok (.aload_n 0, 1) := by decide +kernel
theorem dX12_showText_64 : decode cX12_showText 64 = .ok (.iconst 1, 1) := by decide +kernel
theorem dX12_showText_65 : decode cX12_showText 65 = .ok (.invokevirtual 458, 3) := by decide +kernel
theorem dX12_showText_68 : decode cX12_showText 68 = .ok (.istore_n 2, 1) := by decide +kernel
theorem dX12_showText_69 : decode cX12_showText 69 = .ok (.aload_n 0, 1) := by decide +kernel
theorem dX12_showText_70 : decode cX12_showText 70 = .ok (.getfield 267, 3) := by decide +kernel
theorem dX12_showText_73 : decode cX12_showText 73 = .ok (.iconst 4, 1) := by decide +kernel
theorem dX12_showText_74 : decode cX12_showText 74 = .ok (.if_icmp .eq 24, 3) := by decide +kernel
theorem dX12_showText_77 : decode cX12_showText 77 = .ok (.aload_n 0, 1) := by decide +kernel
theorem dX12_showText_78 : decode cX12_showText 78 = .ok (.getfield 267, 3) := by decide +kernel
theorem dX12_showText_81 : decode cX12_showText 81 = .ok (.iconst 1, 1) := by decide +kernel
theorem dX12_showText_82 : decode cX12_showText 82 = .ok (.if_icmp .ne 26, 3) := by decide +kernel
theorem dX12_showText_85 : decode cX12_showText 85 = .ok (.aload_n 0, 1) := by decide +kernel
theorem dX12_showText_86 : decode cX12_showText 86 = .ok (.getfield 26, 3) := by decide +kernel
theorem dX12_showText_89 : decode cX12_showText 89 = .ok (.iload_n 1, 1) := by decide +kernel
theorem dX12_showText_90 : decode cX12_showText 90 = .ok (.iload_n 2, 1) := by decide +kernel
theorem dX12_showText_91 : decode cX12_showText 91 = .ok (.invokestatic 245, 3) := by decide +kernel
theorem dX12_showText_94 : decode cX12_showText 94 = .ok (.iconst 2, 1) := by decide +kernel
theorem dX12_showText_95 : decode cX12_showText 95 = .ok (.if_icmp .ne 13, 3) := by decide +kernel
theorem dX12_showText_98 : decode cX12_showText 98 = .ok (.aload_n 0, 1) := by decide +kernel
theorem dX12_showText_99 : decode cX12_showText 99 = .ok (.iload_n 1, 1) := by decide +kernel
theorem dX12_showText_100 : decode cX12_showText 100 = .ok (.iload_n 2, 1) := by decide +kernel
theorem dX12_showText_101 : decode cX12_showText 101 = .ok (.iconst 1, 1) := by decide +kernel
theorem dX12_showText_102 : decode cX12_showText 102 = .ok (.invokevirtual 472, 3) := by decide +kernel
theorem dX12_showText_105 : decode cX12_showText 105 = .ok (.goto 29, 3) := by decide +kernel
theorem dX12_showText_108 : decode cX12_showText 108 = .ok (.iconst 0, 1) := by decide +kernel
theorem dX12_showText_109 : decode cX12_showText 109 = .ok (.istore_n 3, 1) := by decide +kernel
theorem dX12_showText_110 : decode cX12_showText 110 = .ok (.iload_n 3, 1) := by decide +kernel
theorem dX12_showText_111 : decode cX12_showText 111 = .ok (.aload_n 0, 1) := by decide +kernel
theorem dX12_showText_112 : decode cX12_showText 112 = .ok (.getfield 88, 3) := by decide +kernel
theorem dX12_showText_115 : decode cX12_showText 115 = .ok (.if_icmp .ge 19, 3) := by decide +kernel
theorem dX12_showText_118 : decode cX12_showText 118 = .ok (.aload_n 0, 1) := by decide +kernel
theorem dX12_showText_119 : decode cX12_showText 119 = .ok (.aload_n 0, 1) := by decide +kernel
theorem dX12_showText_120 : decode cX12_showText 120 = .ok (.getfield 13, 3) := by decide +kernel
theorem dX12_showText_123 : decode cX12_showText 123 = .ok (.iload_n 3, 1) := by decide +kernel
theorem dX12_showText_124 : decode cX12_showText 124 = .ok (.iaload, 1) := by decide +kernel
theorem dX12_showText_125 : decode cX12_showText 125 = .ok (.invokevirtual 278, 3) := by decide +kernel
theorem dX12_showText_128 : decode cX12_showText 128 = .ok (.iinc 3 1, 3) := by decide +kernel
theorem dX12_showText_131 : decode cX12_showText 131 = .ok (.goto (-21), 3) := by decide +kernel
theorem dX12_showText_134 : decode cX12_showText 134 = .ok (.aload_n 0, 1) := by decide +kernel
theorem dX12_showText_135 : decode cX12_showText 135 = .ok (.getfield 273, 3) := by decide +kernel
theorem dX12_showText_138 : decode cX12_showText 138 = .ok (.ireturn, 1) := by decide +kernel
theorem dX12_output_0 : decode cX12_output 0 = .ok (.aload_n 0, 1) := by decide +kernel
theorem dX12_output_1 : decode cX12_output 1 = .ok (.iconst 0, 1) := by decide +kernel
theorem dX12_output_2 : decode cX12_output 2 = .ok (.putfield 78, 3) := by decide +kernel
theorem dX12_output_5 : decode cX12_output 5 = .ok (.iload_n 1, 1) := by decide +kernel
theorem dX12_output_6 : decode cX12_output 6 = .ok (.ifCond .lt 11, 3) := by decide +kernel
theorem dX12_output_9 : decode cX12_output 9 = .ok (.iload_n 1, 1) := by decide +kernel
theorem dX12_output_10 : decode cX12_output 10 = .ok (.aload_n 0, 1) := by decide +kernel
theorem dX12_output_11 : decode cX12_output 11 = .ok (.getfield 273, 3) := by decide +kernel
theorem dX12_output_14 : decode cX12_output 14 = .ok (.if_icmp .lt 7, 3) := by decide +kernel
theorem dX12_output_17 : decode cX12_output 17 = .ok (.iconst (-1), 1) := by decide +kernel
theorem dX12_output_18 : decode cX12_output 18 = .ok (.goto 9, 3) := by decide +kernel
theorem dX12_output_21 : decode cX12_output 21 = .ok (.aload_n 0, 1) := by decide +kernel
theorem dX12_output_22 : decode cX12_output 22 = .ok (.getfield 16, 3) := by decide +kernel
theorem dX12_output_25 : decode cX12_output 25 = .ok (.iload_n 1, 1) := by decide +kernel
theorem dX12_output_26 : decode cX12_output 26 = .ok (.iaload, 1) := by decide +kernel
theorem dX12_output_27 : decode cX12_output 27 = .ok (.ireturn, 1) := by decide +kernel
