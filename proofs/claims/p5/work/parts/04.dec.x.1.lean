theorem dX3_nearest_46 : decode cX3_nearest 46 = .ok (.lushr, 1) := by decide +kernel
theorem dX3_nearest_47 : decode cX3_nearest 47 = .ok (.iload 9, 2) := by decide +kernel
theorem dX3_nearest_49 : decode cX3_nearest 49 = .ok (.i2l, 1) := by decide +kernel
theorem dX3_nearest_50 : decode cX3_nearest 50 = .ok (.lmul, 1) := by decide +kernel
theorem dX3_nearest_51 : decode cX3_nearest 51 = .ok (.lload 5, 2) := by decide +kernel
theorem dX3_nearest_53 : decode cX3_nearest 53 = .ok (.ldc2_w 104, 3) := by decide +kernel
theorem dX3_nearest_56 : decode cX3_nearest 56 = .ok (.land, 1) := by decide +kernel
theorem dX3_nearest_57 : decode cX3_nearest 57 = .ok (.iload 9, 2) := by decide +kernel
theorem dX3_nearest_59 : decode cX3_nearest 59 = .ok (.i2l, 1) := by decide +kernel
theorem dX3_nearest_60 : decode cX3_nearest 60 = .ok (.lmul, 1) := by decide +kernel
theorem dX3_nearest_61 : decode cX3_nearest 61 = .ok (.bipush 32, 2) := by decide +kernel
theorem dX3_nearest_63 : decode cX3_nearest 63 = .ok (.lushr, 1) := by decide +kernel
theorem dX3_nearest_64 : decode cX3_nearest 64 = .ok (.ladd, 1) := by decide +kernel
theorem dX3_nearest_65 : decode cX3_nearest 65 = .ok (.bipush 31, 2) := by decide +kernel
theorem dX3_nearest_67 : decode cX3_nearest 67 = .ok (.lushr, 1) := by decide +kernel
theorem dX3_nearest_68 : decode cX3_nearest 68 = .ok (.lstore 10, 2) := by decide +kernel
theorem dX3_nearest_70 : decode cX3_nearest 70 = .ok (.lload 5, 2) := by decide +kernel
theorem dX3_nearest_72 : decode cX3_nearest 72 = .ok (.iload 9, 2) := by decide +kernel
theorem dX3_nearest_74 : decode cX3_nearest 74 = .ok (.i2l, 1) := by decide +kernel
theorem dX3_nearest_75 : decode cX3_nearest 75 = .ok (.lmul, 1) := by decide +kernel
theorem dX3_nearest_76 : decode cX3_nearest 76 = .ok (.ldc2_w 106, 3) := by decide +kernel
theorem dX3_nearest_79 : decode cX3_nearest 79 = .ok (.land, 1) := by decide +kernel
theorem dX3_nearest_80 : decode cX3_nearest 80 = .ok (.lstore 12, 2) := by decide +kernel
theorem dX3_nearest_82 : decode cX3_nearest 82 = .ok (.lload 12, 2) := by decide +kernel
theorem dX3_nearest_84 : decode cX3_nearest 84 = .ok (.ldc2_w 102, 3) := by decide +kernel
theorem dX3_nearest_87 : decode cX3_nearest 87 = .ok (.lcmp, 1) := by decide +kernel
theorem dX3_nearest_88 : decode cX3_nearest 88 = .ok (.ifCond .le 19, 3) := by decide +kernel
theorem dX3_nearest_91 : decode cX3_nearest 91 = .ok (.lload 10, 2) := by decide +kernel
theorem dX3_nearest_93 : decode cX3_nearest 93 = .ok (.lconst 1, 1) := by decide +kernel
theorem dX3_nearest_94 : decode cX3_nearest 94 = .ok (.ladd, 1) := by decide +kernel
theorem dX3_nearest_95 : decode cX3_nearest 95 = .ok (.lstore 10, 2) := by decide +kernel
theorem dX3_nearest_97 : decode cX3_nearest 97 = .ok (.ldc2_w 106, 3) := by decide +kernel
theorem dX3_nearest_100 : decode cX3_nearest 100 = .ok (.lload 12, 2) := by decide +kernel
theorem dX3_nearest_102 : decode cX3_nearest 102 = .ok (.lsub, 1) := by decide +kernel
theorem dX3_nearest_103 : decode cX3_nearest 103 = .ok (.lconst 1, 1) := by decide +kernel
theorem dX3_nearest_104 : decode cX3_nearest 104 = .ok (.ladd, 1) := by decide +kernel
theorem dX3_nearest_105 : decode cX3_nearest 105 = .ok (.lstore 12, 2) := by decide +kernel
theorem dX3_nearest_107 : decode cX3_nearest 107 = .ok (.iload 9, 2) := by decide +kernel
theorem dX3_nearest_109 : decode cX3_nearest 109 = .ok (.iload_n 3, 1) := by decide +kernel
theorem dX3_nearest_110 : decode cX3_nearest 110 = .ok (.if_icmp .eq 19, 3) := by decide +kernel
theorem dX3_nearest_113 : decode cX3_nearest 113 = .ok (.lload 12, 2) := by decide +kernel
theorem dX3_nearest_115 : decode cX3_nearest 115 = .ok (.iload 9, 2) := by decide +kernel
theorem dX3_nearest_117 : decode cX3_nearest 117 = .ok (.lload 7, 2) := by decide +kernel
theorem dX3_nearest_119 : decode cX3_nearest 119 = .ok (.aload_n 0, 1) := by decide +kernel
theorem dX3_nearest_120 : decode cX3_nearest 120 = .ok (.getfield 95, 3) := by decide +kernel
theorem dX3_nearest_123 : decode cX3_nearest 123 = .ok (.invokestatic 108, 3) := by decide +kernel
theorem dX3_nearest_126 : decode cX3_nearest 126 = .ok (.ifCond .eq 19, 3) := by decide +kernel
theorem dX3_nearest_129 : decode cX3_nearest 129 = .ok (.aload_n 0, 1) := by decide +kernel
theorem dX3_nearest_130 : decode cX3_nearest 130 = .ok (.lload 10, 2) := by decide +kernel
theorem dX3_nearest_132 : decode cX3_nearest 132 = .ok (.putfield 41, 3) := by decide +kernel
theorem dX3_nearest_135 : decode cX3_nearest 135 = .ok (.aload_n 0, 1) := by decide +kernel
theorem dX3_nearest_136 : decode cX3_nearest 136 = .ok (.iload 9, 2) := by decide +kernel
theorem dX3_nearest_138 : decode cX3_nearest 138 = .ok (.putfield 95, 3) := by decide +kernel
theorem dX3_nearest_141 : decode cX3_nearest 141 = .ok (.lload 12, 2) := by decide +kernel
theorem dX3_nearest_143 : decode cX3_nearest 143 = .ok (.lstore 7, 2) := by decide +kernel
theorem dX3_nearest_145 : decode cX3_nearest 145 = .ok (.iinc 9 1, 3) := by decide +kernel
theorem dX3_nearest_148 : decode cX3_nearest 148 = .ok (.goto (-113), 3) := by decide +kernel
theorem dX3_nearest_151 : decode cX3_nearest 151 = .ok (.return_, 1) := by decide +kernel
theorem dX3_isNearer_0 : decode cX3_isNearer 0 = .ok (.lload_n 0, 1) := by decide +kernel
theorem dX3_isNearer_1 : decode cX3_isNearer 1 = .ok (.ldc2_w 104, 3) := by decide +kernel
theorem dX3_isNearer_4 : decode cX3_isNearer 4 = .ok (.land, 1) := by decide +kernel
theorem dX3_isNearer_5 : decode cX3_isNearer 5 = .ok (.iload 5, 2) := by decide +kernel
theorem dX3_isNearer_7 : decode cX3_isNearer 7 = .ok (.i2l, 1) := by decide +kernel
theorem dX3_isNearer_8 : decode cX3_isNearer 8 = .ok (.lmul, 1) := by decide +kernel
theorem dX3_isNearer_9 : decode cX3_isNearer 9 = .ok (.lstore 6, 2) := by decide +kernel
theorem dX3_isNearer_11 : decode cX3_isNearer 11 = .ok (.lload_n 3, 1) := by decide +kernel
theorem dX3_isNearer_12 : decode cX3_isNearer 12 = .ok (.ldc2_w 104, 3) := by decide +kernel
theorem dX3_isNearer_15 : decode cX3_isNearer 15 = .ok (.land, 1) := by decide +kernel
theorem dX3_isNearer_16 : decode cX3_isNearer 16 = .ok (.iload_n 2, 1) := by decide +kernel
theorem dX3_isNearer_17 : decode cX3_isNearer 17 = .ok (.i2l, 1) := by decide +kernel
theorem dX3_isNearer_18 : decode cX3_isNearer 18 = .ok (.lmul, 1) := by decide +kernel
theorem dX3_isNearer_19 : decode cX3_isNearer 19 = .ok (.lstore 8, 2) := by decide +kernel
theorem dX3_isNearer_21 : decode cX3_isNearer 21 = .ok (.lload_n 0, 1) := by decide +kernel
theorem dX3_isNearer_22 : decode cX3_isNearer 22 = .ok (.bipush 32, 2) := by decide +kernel
theorem dX3_isNearer_24 : decode cX3_isNearer 24 = .ok (.lushr, 1) := by decide +kernel
theorem dX3_isNearer_25 : decode cX3_isNearer 25 = .ok (.iload 5, 2) := by decide +kernel
theorem dX3_isNearer_27 : decode cX3_isNearer 27 = .ok (.i2l, 1) := by decide +kernel
theorem dX3_isNearer_28 : decode cX3_isNearer 28 = .ok (.lmul, 1) := by decide +kernel
theorem dX3_isNearer_29 : decode cX3_isNearer 29 = .ok (.lload 6, 2) := by decide +kernel
theorem dX3_isNearer_31 : decode cX3_isNearer 31 = .ok (.bipush 32, 2) := by decide +kernel
theorem dX3_isNearer_33 : decode cX3_isNearer 33 = .ok (.lushr, 1) := by decide +kernel
theorem dX3_isNearer_34 : decode cX3_isNearer 34 = .ok (.ladd, 1) := by decide +kernel
theorem dX3_isNearer_35 : decode cX3_isNearer 35 = .ok (.lstore 10, 2) := by decide +kernel
theorem dX3_isNearer_37 : decode cX3_isNearer 37 = .ok (.lload_n 3, 1) := by decide +kernel
theorem dX3_isNearer_38 : decode cX3_isNearer 38 = .ok (.bipush 32, 2) := by decide +kernel
theorem dX3_isNearer_40 : decode cX3_isNearer 40 = .ok (.lushr, 1) := by decide +kernel
theorem dX3_isNearer_41 : decode cX3_isNearer 41 = .ok (.iload_n 2, 1) := by decide +kernel
theorem dX3_isNearer_42 : decode cX3_isNearer 42 = .ok (.i2l, 1) := by decide +kernel
theorem dX3_isNearer_43 : decode cX3_isNearer 43 = .ok (.lmul, 1) := by decide +kernel
theorem dX3_isNearer_44 : decode cX3_isNearer 44 = .ok (.lload 8, 2) := by decide +kernel
theorem dX3_isNearer_46 : decode cX3_isNearer 46 = .ok (.bipush 32, 2) := by decide +kernel
theorem dX3_isNearer_48 : decode cX3_isNearer 48 = .ok (.lushr, 1) := by decide +kernel
theorem dX3_isNearer_49 : decode cX3_isNearer 49 = .ok (.ladd, 1) := by decide +kernel
theorem dX3_isNearer_50 : decode cX3_isNearer 50 = .ok (.lstore 12, 2) := by decide +kernel
theorem dX3_isNearer_52 : decode cX3_isNearer 52 = .ok (.lload 10, 2) := by decide +kernel
theorem dX3_isNearer_54 : decode cX3_isNearer 54 = .ok (.lload 12, 2) := by decide +kernel
theorem dX3_isNearer_56 : decode cX3_isNearer 56 = .ok (.lcmp, 1) := by decide +kernel
theorem dX3_isNearer_57 : decode cX3_isNearer 57 = .ok (.ifCond .eq 19, 3) := by decide +kernel
theorem dX3_isNearer_60 : decode cX3_isNearer 60 = .ok (.lload 10, 2) := by decide +kernel
theorem dX3_isNearer_62 : decode cX3_isNearer 62 = .ok (.lload 12, 2) := by decide +kernel
theorem dX3_isNearer_64 : decode cX3_isNearer 64 = .ok (.lcmp, 1) := by decide +kernel
theorem dX3_isNearer_65 : decode cX3_isNearer 65 = .ok (.ifCond .ge 7, 3) := by decide +kernel
theorem dX3_isNearer_68 : decode cX3_isNearer 68 = .ok (.iconst 1, 1) := by decide +kernel
theorem dX3_isNearer_69 : decode cX3_isNearer 69 = .ok (.goto 28, 3) := by decide +kernel
theorem dX3_isNearer_72 : decode cX3_isNearer 72 = .ok (.iconst 0, 1) := by decide +kernel
theorem dX3_isNearer_73 : decode cX3_isNearer 73 = .ok (.goto 24, 3) := by decide +kernel
theorem dX3_isNearer_76 : decode cX3_isNearer 76 = .ok (.lload 6, 2) := by decide +kernel
theorem dX3_isNearer_78 : decode cX3_isNearer 78 = .ok (.ldc2_w 104, 3) := by decide +kernel
theorem dX3_isNearer_81 : decode cX3_isNearer 81 = .ok (.land, 1) := by decide +kernel
theorem dX3_isNearer_82 : decode cX3_isNearer 82 = .ok (.lload 8, 2) := by decide +kernel
theorem dX3_isNearer_84 : decode cX3_isNearer 84 = .ok (.ldc2_w 104, 3) := by decide +kernel
theorem dX3_isNearer_87 : decode cX3_isNearer 87 = .ok (.land, 1) := by decide +kernel
theorem dX3_isNearer_88 : decode cX3_isNearer 88 = .ok (.lcmp, 1) := by decide +kernel
theorem dX3_isNearer_89 : decode cX3_isNearer 89 = .ok (.ifCond .ge 7, 3) := by decide +kernel
theorem dX3_isNearer_92 : decode cX3_isNearer 92 = .ok (.iconst 1, 1) := by decide +kernel
theorem dX3_isNearer_93 : decode cX3_isNearer 93 = .ok (.goto 4, 3) := by decide +kernel
theorem dX3_isNearer_96 : decode cX3_isNearer 96 = .ok (.iconst 0, 1) := by decide +kernel
theorem dX3_isNearer_97 : decode cX3_isNearer 97 = .ok (.ireturn, 1) := by decide +kernel
theorem dX3_putItem_0 : decode cX3_putItem 0 = .ok (.aload_n 2, 1) := by decide +kernel
theorem dX3_putItem_1 : decode cX3_putItem 1 = .ok (.iload_n 3, 1) := by decide +kernel
theorem dX3_putItem_2 : decode cX3_putItem 2 = .ok (.invokevirtual 82, 3) := by decide +kernel
theorem dX3_putItem_5 : decode cX3_putItem 5 = .ok (.istore 4, 2) := by decide +kernel
theorem dX3_putItem_7 : decode cX3_putItem 7 = .ok (.iload_n 3, 1) := by decide +kernel
theorem dX3_putItem_8 : decode cX3_putItem 8 = .ok (.aload_n 0, 1) := by decide +kernel
theorem dX3_putItem_9 : decode cX3_putItem 9 = .ok (.getfield 21, 3) := by decide +kernel
theorem dX3_putItem_12 : decode cX3_putItem 12 = .ok (.if_icmp .ne 28, 3) := by decide +kernel
theorem dX3_putItem_15 : decode cX3_putItem 15 = .ok (.aload_n 1, 1) := by decide +kernel
theorem dX3_putItem_16 : decode cX3_putItem 16 = .ok (.invokevirtual 54, 3) := by decide +kernel
theorem dX3_putItem_19 : decode cX3_putItem 19 = .ok (.aload_n 0, 1) := by decide +kernel
theorem dX3_putItem_20 : decode cX3_putItem 20 = .ok (.getfield 41, 3) := by decide +kernel
theorem dX3_putItem_23 : decode cX3_putItem 23 = .ok (.invokevirtual 58, 3) := by decide +kernel
theorem dX3_putItem_26 : decode cX3_putItem 26 = .ok (.aload_n 1, 1) := by decide +kernel
theorem dX3_putItem_27 : decode cX3_putItem 27 = .ok (.aload_n 2, 1) := by decide +kernel
theorem dX3_putItem_28 : decode cX3_putItem 28 = .ok (.aload_n 0, 1) := by decide +kernel
theorem dX3_putItem_29 : decode cX3_putItem 29 = .ok (.getfield 21, 3) := by decide +kernel
theorem dX3_putItem_32 : decode cX3_putItem 32 = .ok (.aload_n 0, 1) := by decide +kernel
theorem dX3_putItem_33 : decode cX3_putItem 33 = .ok (.getfield 79, 3) := by decide +kernel
theorem dX3_putItem_36 : decode cX3_putItem 36 = .ok (.iconst 0, 1) := by decide +kernel
theorem dX3_putItem_37 : decode cX3_putItem 37 = .ok (.invokevirtual 64, 3) := by decide +kernel
theorem dX3_putItem_40 : decode cX3_putItem 40 = .ok (.iload 4, 2) := by decide +kernel
theorem dX3_putItem_42 : decode cX3_putItem 42 = .ok (.iconst 1, 1) := by decide +kernel
theorem dX3_putItem_43 : decode cX3_putItem 43 = .ok (.if_icmp .ne 15, 3) := by decide +kernel
theorem dX3_putItem_46 : decode cX3_putItem 46 = .ok (.aload_n 1, 1) := by decide +kernel
theorem dX3_putItem_47 : decode cX3_putItem 47 = .ok (.aload_n 2, 1) := by decide +kernel
theorem dX3_putItem_48 : decode cX3_putItem 48 = .ok (.iload_n 3, 1) := by decide +kernel
theorem dX3_putItem_49 : decode cX3_putItem 49 = .ok (.invokevirtual 112, 3) := by decide +kernel
theorem dX3_putItem_52 : decode cX3_putItem 52 = .ok (.invokevirtual 44, 3) := by decide +kernel
theorem dX3_putItem_55 : decode cX3_putItem 55 = .ok (.goto 119, 3) := by decide +kernel
theorem dX3_putItem_58 : decode cX3_putItem 58 = .ok (.aload_n 0, 1) := by decide +kernel
theorem dX3_putItem_59 : decode cX3_putItem 59 = .ok (.getfield 50, 3) := by decide +kernel
theorem dX3_putItem_62 : decode cX3_putItem 62 = .ok (.ifCond .eq 26, 3) := by decide +kernel
theorem dX3_putItem_65 : decode cX3_putItem 65 = .ok (.iload_n 3, 1) := by decide +kernel
theorem dX3_putItem_66 : decode cX3_putItem 66 = .ok (.aload_n 0, 1) := by decide +kernel
theorem dX3_putItem_67 : decode cX3_putItem 67 = .ok (.getfield 21, 3) := by decide +kernel
theorem dX3_putItem_70 : decode cX3_putItem 70 = .ok (.if_icmp .lt 18, 3) := by decide +kernel
theorem dX3_putItem_73 : decode cX3_putItem 73 = .ok (.iload 4, 2) := by decide +kernel
theorem dX3_putItem_75 : decode cX3_putItem 75 = .ok (.iconst 2, 1) := by decide +kernel
theorem dX3_putItem_76 : decode cX3_putItem 76 = .ok (.if_icmp .eq 12, 3) := by decide +kernel
theorem dX3_putItem_79 : decode cX3_putItem 79 = .ok (.aload_n 1, 1) := by decide +kernel
theorem dX3_putItem_80 : decode cX3_putItem 80 = .ok (.bipush 32, 2) := by decide +kernel
theorem dX3_putItem_82 : decode cX3_putItem 82 = .ok (.invokevirtual 44, 3) := by decide +kernel
theorem dX3_putItem_85 : decode cX3_putItem 85 = .ok (.goto 89, 3) := by decide +kernel
theorem dX3_putItem_88 : decode cX3_putItem 88 = .ok (.iload 4, 2) := by decide +kernel
theorem dX3_putItem_90 : decode cX3_putItem 90 = .ok (.bipush 8, 2) := by decide +kernel
theorem dX3_putItem_92 : decode cX3_putItem 92 = .ok (.if_icmp .ne 12, 3) := by decide +kernel
theorem dX3_putItem_95 : decode cX3_putItem 95 = .ok (.aload_n 1, 1) := by decide +kernel
theorem dX3_putItem_96 : decode cX3_putItem 96 = .ok (.bipush 47, 2) := by decide +kernel
theorem dX3_putItem_98 : decode cX3_putItem 98 = .ok (.invokevirtual 44, 3) := by decide +kernel
theorem dX3_putItem_101 : decode cX3_putItem 101 = .ok (.goto 73, 3) := by decide +kernel
theorem dX3_putItem_104 : decode cX3_putItem 104 = .ok (.iload 4, 2) := by decide +kernel
theorem dX3_putItem_106 : decode cX3_putItem 106 = .ok (.bipush 14, 2) := by decide +kernel
theorem dX3_putItem_108 : decode cX3_putItem 108 = .ok (.if_icmp .ne 16, 3) := by decide +kernel
theorem dX3_putItem_111 : decode cX3_putItem 111 = .ok (.aload_n 1, 1) := by decide +kernel
theorem dX3_putItem_112 : decode cX3_putItem 112 = .ok (.aload_n 0, 1) := by decide +kernel
theorem dX3_putItem_113 : decode cX3_putItem 113 = .ok (.getfield 95, 3) := by decide +kernel
theorem dX3_putItem_116 : decode cX3_putItem 116 = .ok (.i2l, 1) := by decide +kernel
theorem dX3_putItem_117 : decode cX3_putItem 117 = .ok (.iconst 1, 1) := by decide +kernel
theorem dX3_putItem_118 : decode cX3_putItem 118 = .ok (.invokevirtual 115, 3) := by decide +kernel
theorem dX3_putItem_121 : decode cX3_putItem 121 = .ok (.goto 53, 3) := by decide +kernel
theorem dX3_putItem_124 : decode cX3_putItem 124 = .ok (.iload 4, 2) := by decide +kernel
theorem dX3_putItem_126 : decode cX3_putItem 126 = .ok (.iconst 4, 1) := by decide +kernel
theorem dX3_putItem_127 : decode cX3_putItem 127 = .ok (.if_icmp .ne 23, 3) := by decide +kernel
theorem dX3_putItem_130 : decode cX3_putItem 130 = .ok (.iload_n 3, 1) := by decide +kernel
theorem dX3_putItem_131 : decode cX3_putItem 131 = .ok (.aload_n 0, 1) := by decide +kernel
theorem dX3_putItem_132 : decode cX3_putItem 132 = .ok (.getfield 79, 3) := by decide +kernel
theorem dX3_putItem_135 : decode cX3_putItem 135 = .ok (.if_icmp .ge 15, 3) := by decide +kernel
theorem dX3_putItem_138 : decode cX3_putItem 138 = .ok (.aload_n 1, 1) := by decide +kernel
theorem dX3_putItem_139 : decode cX3_putItem 139 = .ok (.aload_n 2, 1) := by decide +kernel
theorem dX3_putItem_140 : decode cX3_putItem 140 = .ok (.iload_n 3, 1) := by decide +kernel
theorem dX3_putItem_141 : decode cX3_putItem 141 = .ok (.invokevirtual 112, 3) := by decide +kernel
theorem dX3_putItem_144 : decode cX3_putItem 144 = .ok (.invokevirtual 119, 3) := by decide +kernel
theorem dX3_putItem_147 : decode cX3_putItem 147 = .ok (.goto 27, 3) := by decide +kernel
theorem dX3_putItem_150 : decode cX3_putItem 150 = .ok (.iload 4, 2) := by decide +kernel
theorem dX3_putItem_152 : decode cX3_putItem 152 = .ok (.iconst 4, 1) := by decide +kernel
theorem dX3_putItem_153 : decode cX3_putItem 153 = .ok (.if_icmp .ne 21, 3) := by decide +kernel
theorem dX3_putItem_156 : decode cX3_putItem 156 = .ok (.aload_n 0, 1) := by decide +kernel
theorem dX3_putItem_157 : decode cX3_putItem 157 = .ok (.aload_n 1, 1) := by decide +kernel
theorem dX3_putItem_158 : decode cX3_putItem 158 = .ok (.aload_n 2, 1) := by decide +kernel
theorem dX3_putItem_159 : decode cX3_putItem 159 = .ok (.iload_n 3, 1) := by decide +kernel
theorem dX3_putItem_160 : decode cX3_putItem 160 = .ok (.invokevirtual 112, 3) := by decide +kernel
theorem dX3_putItem_163 : decode cX3_putItem 163 = .ok (.iload_n 3, 1) := by decide +kernel
theorem dX3_putItem_164 : decode cX3_putItem 164 = .ok (.aload_n 0, 1) := by decide +kernel
theorem dX3_putItem_165 : decode cX3_putItem 165 = .ok (.getfield 79, 3) := by decide +kernel
theorem dX3_putItem_168 : decode cX3_putItem 168 = .ok (.isub, 1) := by decide +kernel
theorem dX3_putItem_169 : decode cX3_putItem 169 = .ok (.iconst 1, 1) := by decide +kernel
theorem dX3_putItem_170 : decode cX3_putItem 170 = .ok (.isub, 1) := by decide +kernel
theorem dX3_putItem_171 : decode cX3_putItem 171 = .ok (.invokevirtual 122, 3) := by decide +kernel
theorem dX3_putItem_174 : decode cX3_putItem 174 = .ok (.return_, 1) := by decide +kernel
theorem dX3_putLower_0 : decode cX3_putLower 0 = .ok (.iload_n 3, 1) := by decide +kernel
theorem dX3_putLower_1 : decode cX3_putLower 1 = .ok (.ifCond .ne 13, 3) := by decide +kernel
theorem dX3_putLower_4 : decode cX3_putLower 4 = .ok (.aload_n 1, 1) := by decide +kernel
theorem dX3_putLower_5 : decode cX3_putLower 5 = .ok (.aload_n 0, 1) := by decide +kernel
theorem dX3_putLower_6 : decode cX3_putLower 6 = .ok (.getfield 95, 3) := by decide +kernel
theorem dX3_putLower_9 : decode cX3_putLower 9 = .ok (.i2l, 1) := by decide +kernel
theorem dX3_putLower_10 : decode cX3_putLower 10 = .ok (.iconst 1, 1) := by decide +kernel
theorem dX3_putLower_11 : decode cX3_putLower 11 = .ok (.invokevirtual 115, 3) := by decide +kernel
theorem dX3_putLower_14 : decode cX3_putLower 14 = .ok (.aload_n 0, 1) := by decide +kernel
theorem dX3_putLower_15 : decode cX3_putLower 15 = .ok (.getfield 95, 3) := by decide +kernel
theorem dX3_putLower_18 : decode cX3_putLower 18 = .ok (.bipush 10, 2) := by decide +kernel
theorem dX3_putLower_20 : decode cX3_putLower 20 = .ok (.if_icmp .ge 7, 3) := by decide +kernel
theorem dX3_putLower_23 : decode cX3_putLower 23 = .ok (.iconst 1, 1) := by decide +kernel
theorem dX3_putLower_24 : decode cX3_putLower 24 = .ok (.goto 17, 3) := by decide +kernel
theorem dX3_putLower_27 : decode cX3_putLower 27 = .ok (.aload_n 0, 1) := by decide +kernel
theorem dX3_putLower_28 : decode cX3_putLower 28 = .ok (.getfield 95, 3) := by decide +kernel
theorem dX3_putLower_31 : decode cX3_putLower 31 = .ok (.bipush 100, 2) := by decide +kernel
theorem dX3_putLower_33 : decode cX3_putLower 33 = .ok (.if_icmp .ge 7, 3) := by decide +kernel
theorem dX3_putLower_36 : decode cX3_putLower 36 = .ok (.iconst 2, 1) := by decide +kernel
theorem dX3_putLower_37 : decode cX3_putLower 37 = .ok (.goto 4, 3) := by decide +kernel
theorem dX3_putLower_40 : decode cX3_putLower 40 = .ok (.iconst 3, 1) := by decide +kernel
theorem dX3_putLower_41 : decode cX3_putLower 41 = .ok (.istore 4, 2) := by decide +kernel
theorem dX3_putLower_43 : decode cX3_putLower 43 = .ok (.iload_n 3, 1) := by decide +kernel
theorem dX3_putLower_44 : decode cX3_putLower 44 = .ok (.iload 4, 2) := by decide +kernel
theorem dX3_putLower_46 : decode cX3_putLower 46 = .ok (.if_icmp .lt 15, 3) := by decide +kernel
theorem dX3_putLower_49 : decode cX3_putLower 49 = .ok (.iload_n 2, 1) := by decide +kernel
theorem dX3_putLower_50 : decode cX3_putLower 50 = .ok (.bipush 63, 2) := by decide +kernel
theorem dX3_putLower_52 : decode cX3_putLower 52 = .ok (.if_icmp .ne 9, 3) := by decide +kernel
theorem dX3_putLower_55 : decode cX3_putLower 55 = .ok (.aload_n 1, 1) := by decide +kernel
theorem dX3_putLower_56 : decode cX3_putLower 56 = .ok (.bipush 32, 2) := by decide +kernel
theorem dX3_putLower_58 : decode cX3_putLower 58 = .ok (.invokevirtual 44, 3) := by decide +kernel
theorem dX3_putLower_61 : decode cX3_putLower 61 = .ok (.return_, 1) := by decide +kernel
theorem dX4_put_0 : decode cX4_put 0 = .ok (.aload_n 0, 1) := by decide +kernel
theorem dX4_put_1 : decode cX4_put 1 = .ok (.invokevirtual 7, 3) := by decide +kernel
theorem dX4_put_4 : decode cX4_put 4 = .ok (.astore_n 3, 1) := by decide +kernel
theorem dX4_put_5 : decode cX4_put 5 = .ok (.aload_n 3, 1) := by decide +kernel
theorem dX4_put_6 : decode cX4_put 6 = .ok (.dload_n 1, 1) := by decide +kernel
theorem dX4_put_7 : decode cX4_put 7 = .ok (.iconst 1, 1) := by decide +kernel
theorem dX4_put_8 : decode cX4_put 8 = .ok (.invokevirtual 13, 3) := by decide +kernel
theorem dX4_put_11 : decode cX4_put 11 = .ok (.aload_n 3, 1) := by decide +kernel
theorem dX4_put_12 : decode cX4_put 12 = .ok (.invokevirtual 19, 3) := by decide +kernel
theorem dX4_put_15 : decode cX4_put 15 = .ok (.ifCond .eq 10, 3) := by decide +kernel
theorem dX4_put_18 : decode cX4_put 18 = .ok (.aload_n 0, 1) := by decide +kernel
theorem dX4_put_19 : decode cX4_put 19 = .ok (.bipush 48, 2) := by decide +kernel
theorem dX4_put_21 : decode cX4_put 21 = .ok (.invokevirtual 23, 3) := by decide +kernel
theorem dX4_put_24 : decode cX4_put 24 = .ok (.return_, 1) := by decide +kernel
theorem dX4_put_25 : decode cX4_put 25 = .ok (.dload_n 1, 1) := by decide +kernel
theorem dX4_put_26 : decode cX4_put 26 = .ok (.ldc2_w 27, 3) := by decide +kernel
theorem dX4_put_29 : decode cX4_put 29 = .ok (.dcmp .g, 1) := by decide +kernel
theorem dX4_put_30 : decode cX4_put 30 = .ok (.ifCond .ge 51, 3) := by decide +kernel
theorem dX4_put_33 : decode cX4_put 33 = .ok (.dload_n 1, 1) := by decide +kernel
theorem dX4_put_34 : decode cX4_put 34 = .ok (.ldc2_w 29, 3) := by decide +kernel
theorem dX4_put_37 : decode cX4_put 37 = .ok (.dcmp .l, 1) := by decide +kernel
theorem dX4_put_38 : decode cX4_put 38 = .ok (.ifCond .lt 43, 3) := by decide +kernel
theorem dX4_put_41 : decode cX4_put 41 = .ok (.iconst 0, 1) := by decide +kernel
theorem dX4_put_42 : decode cX4_put 42 = .ok (.bipush 10, 2) := by decide +kernel
theorem dX4_put_44 : decode cX4_put 44 = .ok (.iconst 1, 1) := by decide +kernel
theorem dX4_put_45 : decode cX4_put 45 = .ok (.aload_n 3, 1) := by decide +kernel
theorem dX4_put_46 : decode cX4_put 46 = .ok (.invokevirtual 33, 3) := by decide +kernel
theorem dX4_put_49 : decode cX4_put 49 = .ok (.invokestatic 37, 3) := by decide +kernel
theorem dX4_put_52 : decode cX4_put 52 = .ok (.isub, 1) := by decide +kernel
theorem dX4_put_53 : decode cX4_put 53 = .ok (.invokestatic 37, 3) := by decide +kernel
theorem dX4_put_56 : decode cX4_put 56 = .ok (.istore 4, 2) := by decide +kernel
theorem dX4_put_58 : decode cX4_put 58 = .ok (.aload_n 3, 1) := by decide +kernel
theorem dX4_put_59 : decode cX4_put 59 = .ok (.iload 4, 2) := by decide +kernel
theorem dX4_put_61 : decode cX4_put 61 = .ok (.invokevirtual 43, 3) := by decide +kernel
theorem dX4_put_64 : decode cX4_put 64 = .ok (.aload_n 3, 1) := by decide +kernel
theorem dX4_put_65 : decode cX4_put 65 = .ok (.invokevirtual 33, 3) := by decide +kernel
theorem dX4_put_68 : decode cX4_put 68 = .ok (.bipush 11, 2) := by decide +kernel
theorem dX4_put_70 : decode cX4_put 70 = .ok (.if_icmp .gt 11, 3) := by decide +kernel
theorem dX4_put_73 : decode cX4_put 73 = .ok (.aload_n 0, 1) := by decide +kernel
theorem dX4_put_74 : decode cX4_put 74 = .ok (.aload_n 3, 1) := by decide +kernel
theorem dX4_put_75 : decode cX4_put 75 = .ok (.iload 4, 2) := by decide +kernel
theorem dX4_put_77 : decode cX4_put 77 = .ok (.invokestatic 46, 3) := by decide +kernel
theorem dX4_put_80 : decode cX4_put 80 = .ok (.return_, 1) := by decide +kernel
theorem dX4_put_81 : decode cX4_put 81 = .ok (.aload_n 3, 1) := by decide +kernel
theorem dX4_put_82 : decode cX4_put 82 = .ok (.iconst 5, 1) := by decide +kernel
theorem dX4_put_83 : decode cX4_put 83 = .ok (.aload_n 3, 1) := by decide +kernel
theorem dX4_put_84 : decode cX4_put 84 = .ok (.invokevirtual 50, 3) := by decide +kernel
theorem dX4_put_87 : decode cX4_put 87 = .ok (.isub, 1) := by decide +kernel
theorem dX4_put_88 : decode cX4_put 88 = .ok (.invokevirtual 43, 3) := by decide +kernel
theorem dX4_put_91 : decode cX4_put 91 = .ok (.aload_n 0, 1) := by decide +kernel
theorem dX4_put_92 : decode cX4_put 92 = .ok (.aload_n 3, 1) := by decide +kernel
theorem dX4_put_93 : decode cX4_put 93 = .ok (.invokestatic 53, 3) := by decide +kernel
theorem dX4_put_96 : decode cX4_put 96 = .ok (.return_, 1) := by decide +kernel
theorem dX4_putFixed_0 : decode cX4_putFixed 0 = .ok (.iconst 1, 1) := by decide +kernel
theorem dX4_putFixed_1 : decode cX4_putFixed 1 = .ok (.aload_n 1, 1) := by decide +kernel
theorem dX4_putFixed_2 : decode cX4_putFixed 2 = .ok (.invokevirtual 33, 3) := by decide +kernel
theorem dX4_putFixed_5 : decode cX4_putFixed 5 = .ok (.invokestatic 37, 3) := by decide +kernel
theorem dX4_putFixed_8 : decode cX4_putFixed 8 = .ok (.iconst 1, 1) := by decide +kernel
theorem dX4_putFixed_9 : decode cX4_putFixed 9 = .ok (.isub, 1) := by decide +kernel
theorem dX4_putFixed_10 : decode cX4_putFixed 10 = .ok (.istore_n 3, 1) := by decide +kernel
theorem dX4_putFixed_11 : decode cX4_putFixed 11 = .ok (.iload_n 3, 1) := by decide +kernel
theorem dX4_putFixed_12 : decode cX4_putFixed 12 = .ok (.ifCond .lt 21, 3) := by decide +kernel
theorem dX4_putFixed_15 : decode cX4_putFixed 15 = .ok (.aload_n 0, 1) := by decide +kernel
theorem dX4_putFixed_16 : decode cX4_putFixed 16 = .ok (.bipush 48, 2) := by decide +kernel
theorem dX4_putFixed_18 : decode cX4_putFixed 18 = .ok (.aload_n 1, 1) := by decide +kernel
theorem dX4_putFixed_19 : decode cX4_putFixed 19 = .ok (.iload_n 3, 1) := by decide +kernel
theorem dX4_putFixed_20 : decode cX4_putFixed 20 = .ok (.invokevirtual 57, 3) := by decide +kernel
theorem dX4_putFixed_23 : decode cX4_putFixed 23 = .ok (.iadd, 1) := by decide +kernel
theorem dX4_putFixed_24 : decode cX4_putFixed 24 = .ok (.invokevirtual 23, 3) := by decide +kernel
theorem dX4_putFixed_27 : decode cX4_putFixed 27 = .ok (.iinc 3 (-1), 3) := by decide +kernel
theorem dX4_putFixed_30 : decode cX4_putFixed 30 = .ok (.goto (-19), 3) := by decide +kernel
theorem dX4_putFixed_33 : decode cX4_putFixed 33 = .ok (.aload_n 0, 1) := by decide +kernel
theorem dX4_putFixed_34 : decode cX4_putFixed 34 = .ok (.aload_n 1, 1) := by decide +kernel
theorem dX4_putFixed_35 : decode cX4_putFixed 35 = .ok (.iconst 0, 1) := by decide +kernel
theorem dX4_putFixed_36 : decode cX4_putFixed 36 = .ok (.iload_n 2, 1) := by decide +kernel
theorem dX4_putFixed_37 : decode cX4_putFixed 37 = .ok (.invokestatic 61, 3) := by decide +kernel
theorem dX4_putFixed_40 : decode cX4_putFixed 40 = .ok (.return_, 1) := by decide +kernel
theorem dX4_putPowered_0 : decode cX4_putPowered 0 = .ok (.aload_n 1, 1) := by decide +kernel
theorem dX4_putPowered_1 : decode cX4_putPowered 1 = .ok (.invokevirtual 50, 3) := by decide +kernel
theorem dX4_putPowered_4 : decode cX4_putPowered 4 = .ok (.istore_n 2, 1) := by decide +kernel
theorem dX4_putPowered_5 : decode cX4_putPowered 5 = .ok (.aload_n 0, 1) := by decide +kernel
theorem dX4_putPowered_6 : decode cX4_putPowered 6 = .ok (.bipush 48, 2) := by decide +kernel
theorem dX4_putPowered_8 : decode cX4_putPowered 8 = .ok (.aload_n 1, 1) := by decide +kernel
theorem dX4_putPowered_9 : decode cX4_putPowered 9 = .ok (.iload_n 2, 1) := by decide +kernel
theorem dX4_putPowered_10 : decode cX4_putPowered 10 = .ok (.invokevirtual 57, 3) := by decide +kernel
theorem dX4_putPowered_13 : decode cX4_putPowered 13 = .ok (.iadd, 1) := by decide +kernel
theorem dX4_putPowered_14 : decode cX4_putPowered 14 = .ok (.invokevirtual 23, 3) := by decide +kernel
theorem dX4_putPowered_17 : decode cX4_putPowered 17 = .ok (.aload_n 0, 1) := by decide +kernel
theorem dX4_putPowered_18 : decode cX4_putPowered 18 = .ok (.aload_n 1, 1) := by decide +kernel
theorem dX4_putPowered_19 : decode cX4_putPowered 19 = .ok (.iload_n 2, 1) := by decide +kernel
theorem dX4_putPowered_20 : decode cX4_putPowered 20 = .ok (.iconst 5, 1) := by decide +kernel
theorem dX4_putPowered_21 : decode cX4_putPowered 21 = .ok (.invokestatic 61, 3) := by decide +kernel
theorem dX4_putPowered_24 : decode cX4_putPowered 24 = .ok (.aload_n 0, 1) := by decide +kernel
theorem dX4_putPowered_25 : decode cX4_putPowered 25 = .ok (.bipush 69, 2) := by decide +kernel
theorem dX4_putPowered_27 : decode cX4_putPowered 27 = .ok (.invokevirtual 23, 3) := by decide +kernel
theorem dX4_putPowered_30 : decode cX4_putPowered 30 = .ok (.aload_n 0, 1) := by decide +kernel
theorem dX4_putPowered_31 : decode cX4_putPowered 31 = .ok (.iload_n 2, 1) := by decide +kernel
theorem dX4_putPowered_32 : decode cX4_putPowered 32 = .ok (.ifCond .ge 8, 3) := by decide +kernel
theorem dX4_putPowered_35 : decode cX4_putPowered 35 = .ok (.bipush 45, 2) := by decide +kernel
theorem dX4_putPowered_37 : decode cX4_putPowered 37 = .ok (.goto 5, 3) := by decide +kernel
theorem dX4_putPowered_40 : decode cX4_putPowered 40 = .ok (.bipush 43, 2) := by decide +kernel
theorem dX4_putPowered_42 : decode cX4_putPowered 42 = .ok (.invokevirtual 23, 3) := by decide +kernel
theorem dX4_putPowered_45 : decode cX4_putPowered 45 = .ok (.aload_n 0, 1) := by decide +kernel
theorem dX4_putPowered_46 : decode cX4_putPowered 46 = .ok (.iload_n 2, 1) := by decide +kernel
theorem dX4_putPowered_47 : decode cX4_putPowered 47 = .ok (.invokestatic 65, 3) := by decide +kernel
theorem dX4_putPowered_50 : decode cX4_putPowered 50 = .ok (.i2l, 1) := by decide +kernel
theorem dX4_putPowered_51 : decode cX4_putPowered 51 = .ok (.iconst 2, 1) := by decide +kernel
theorem dX4_putPowered_52 : decode cX4_putPowered 52 = .ok (.invokevirtual 68, 3) := by decide +kernel
theorem dX4_putPowered_55 : decode cX4_putPowered 55 = .ok (.return_, 1) := by decide +kernel
theorem dX4_putTidy_0 : decode cX4_putTidy 0 = .ok (.iload_n 3, 1) := by decide +kernel
theorem dX4_putTidy_1 : decode cX4_putTidy 1 = .ok (.istore 4, 2) := by decide +kernel
theorem dX4_putTidy_3 : decode cX4_putTidy 3 = .ok (.iload 4, 2) := by decide +kernel
theorem dX4_putTidy_5 : decode cX4_putTidy 5 = .ok (.ifCond .le 20, 3) := by decide +kernel
theorem dX4_putTidy_8 : decode cX4_putTidy 8 = .ok (.aload_n 1, 1) := by decide +kernel
theorem dX4_putTidy_9 : decode cX4_putTidy 9 = .ok (.iload_n 2, 1) := by decide +kernel
theorem dX4_putTidy_10 : decode cX4_putTidy 10 = .ok (.iload 4, 2) := by decide +kernel
theorem dX4_putTidy_12 : decode cX4_putTidy 12 = .ok (.isub, 1) := by decide +kernel
theorem dX4_putTidy_13 : decode cX4_putTidy 13 = .ok (.invokevirtual 57, 3) := by decide +kernel
theorem dX4_putTidy_16 : decode cX4_putTidy 16 = .ok (.ifCond .ne 9, 3) := by decide +kernel
theorem dX4_putTidy_19 : decode cX4_putTidy 19 = .ok (.iinc 4 (-1), 3) := by decide +kernel
theorem dX4_putTidy_22 : decode cX4_putTidy 22 = .ok (.goto (-19), 3) := by decide +kernel
theorem dX4_putTidy_25 : decode cX4_putTidy 25 = .ok (.iload 4, 2) := by decide +kernel
theorem dX4_putTidy_27 : decode cX4_putTidy 27 = .ok (.ifCond .le 9, 3) := by decide +kernel
theorem dX4_putTidy_30 : decode cX4_putTidy 30 = .ok (.aload_n 0, 1) := by decide +kernel
theorem dX4_putTidy_31 : decode cX4_putTidy 31 = .ok (.bipush 46, 2) := by decide +kernel
theorem dX4_putTidy_33 : decode cX4_putTidy 33 = .ok (.invokevirtual 23, 3) := by decide +kernel
theorem dX4_putTidy_36 : decode cX4_putTidy 36 = .ok (.iconst 1, 1) := by decide +kernel
theorem dX4_putTidy_37 : decode cX4_putTidy 37 = .ok (.istore 5, 2) := by decide +kernel
theorem dX4_putTidy_39 : decode cX4_putTidy 39 = .ok (.iload 5, 2) := by decide +kernel
theorem dX4_putTidy_41 : decode cX4_putTidy 41 = .ok (.iload 4, 2) := by decide +kernel
theorem dX4_putTidy_43 : decode cX4_putTidy 43 = .ok (.if_icmp .gt 24, 3) := by decide +kernel
theorem dX4_putTidy_46 : decode cX4_putTidy 46 = .ok (.aload_n 0, 1) := by decide +kernel
theorem dX4_putTidy_47 : decode cX4_putTidy 47 = .ok (.bipush 48, 2) := by decide +kernel
theorem dX4_putTidy_49 : decode cX4_putTidy 49 = .ok (.aload_n 1, 1) := by decide +kernel
theorem dX4_putTidy_50 : decode cX4_putTidy 50 = .ok (.iload_n 2, 1) := by decide +kernel
theorem dX4_putTidy_51 : decode cX4_putTidy 51 = .ok (.iload 5, 2) := by decide +kernel
theorem dX4_putTidy_53 : decode cX4_putTidy 53 = .ok (.isub, 1) := by decide +kernel
theorem dX4_putTidy_54 : decode cX4_putTidy 54 = .ok (.invokevirtual 57, 3) := by decide +kernel
theorem dX4_putTidy_57 : decode cX4_putTidy 57 = .ok (.iadd, 1) := by decide +kernel
theorem dX4_putTidy_58 : decode cX4_putTidy 58 = .ok (.invokevirtual 23, 3) := by decide +kernel
theorem dX4_putTidy_61 : decode cX4_putTidy 61 = .ok (.iinc 5 1, 3) := by decide +kernel
theorem dX4_putTidy_64 : decode cX4_putTidy 64 = .ok (.goto (-25), 3) := by decide +kernel
theorem dX4_putTidy_67 : decode cX4_putTidy 67 = .ok (.return_, 1) := by decide +kernel
theorem dX5_firstIll_0 : decode cX5_firstIll 0 = .ok (.iconst 0, 1) := by decide +kernel
theorem dX5_firstIll_1 : decode cX5_firstIll 1 = .ok (.istore_n 1, 1) := by decide +kernel
theorem dX5_firstIll_2 : decode cX5_firstIll 2 = .ok (.iload_n 1, 1) := by decide +kernel
theorem dX5_firstIll_3 : decode cX5_firstIll 3 = .ok (.aload_n 0, 1) := by decide +kernel
theorem dX5_firstIll_4 : decode cX5_firstIll 4 = .ok (.invokevirtual 9, 3) := by decide +kernel
theorem dX5_firstIll_7 : decode cX5_firstIll 7 = .ok (.if_icmp .ge 55, 3) := by decide +kernel
theorem dX5_firstIll_10 : decode cX5_firstIll 10 = .ok (.aload_n 0, 1) := by decide +kernel
theorem dX5_firstIll_11 : decode cX5_firstIll 11 = .ok (.iload_n 1, 1) := by decide +kernel
theorem dX5_firstIll_12 : decode cX5_firstIll 12 = .ok (.aload_n 0, 1) := by decide +kernel
theorem dX5_firstIll_13 : decode cX5_firstIll 13 = .ok (.iload_n 1, 1) := by decide +kernel
theorem dX5_firstIll_14 : decode cX5_firstIll 14 = .ok (.invokestatic 15, 3) := by decide +kernel
theorem dX5_firstIll_17 : decode cX5_firstIll 17 = .ok (.invokevirtual 21, 3) := by decide +kernel
theorem dX5_firstIll_20 : decode cX5_firstIll 20 = .ok (.aload_n 0, 1) := by decide +kernel
theorem dX5_firstIll_21 : decode cX5_firstIll 21 = .ok (.iload_n 1, 1) := by decide +kernel
theorem dX5_firstIll_22 : decode cX5_firstIll 22 = .ok (.invokevirtual 25, 3) := by decide +kernel
theorem dX5_firstIll_25 : decode cX5_firstIll 25 = .ok (.iconst 1, 1) := by decide +kernel
theorem dX5_firstIll_26 : decode cX5_firstIll 26 = .ok (.if_icmp .ne 13, 3) := by decide +kernel
theorem dX5_firstIll_29 : decode cX5_firstIll 29 = .ok (.aload_n 0, 1) := by decide +kernel
theorem dX5_firstIll_30 : decode cX5_firstIll 30 = .ok (.iload_n 1, 1) := by decide +kernel
theorem dX5_firstIll_31 : decode cX5_firstIll 31 = .ok (.invokestatic 29, 3) := by decide +kernel
theorem dX5_firstIll_34 : decode cX5_firstIll 34 = .ok (.aload_n 0, 1) := by decide +kernel
theorem dX5_firstIll_35 : decode cX5_firstIll 35 = .ok (.iload_n 1, 1) := by decide +kernel
theorem dX5_firstIll_36 : decode cX5_firstIll 36 = .ok (.invokestatic 33, 3) := by decide +kernel
theorem dX5_firstIll_39 : decode cX5_firstIll 39 = .ok (.aload_n 0, 1) := by decide +kernel
theorem dX5_firstIll_40 : decode cX5_firstIll 40 = .ok (.iload_n 1, 1) := by decide +kernel
theorem dX5_firstIll_41 : decode cX5_firstIll 41 = .ok (.invokestatic 36, 3) := by decide +kernel
theorem dX5_firstIll_44 : decode cX5_firstIll 44 = .ok (.istore_n 2, 1) := by decide +kernel
theorem dX5_firstIll_45 : decode cX5_firstIll 45 = .ok (.iload_n 2, 1) := by decide +kernel
theorem dX5_firstIll_46 : decode cX5_firstIll 46 = .ok (.iconst (-1), 1) := by decide +kernel
theorem dX5_firstIll_47 : decode cX5_firstIll 47 = .ok (.if_icmp .eq 9, 3) := by decide +kernel
theorem dX5_firstIll_50 : decode cX5_firstIll 50 = .ok (.aload_n 0, 1) := by decide +kernel
theorem dX5_firstIll_51 : decode cX5_firstIll 51 = .ok (.iload_n 2, 1) := by decide +kernel
theorem dX5_firstIll_52 : decode cX5_firstIll 52 = .ok (.invokevirtual 39, 3) := by decide +kernel
theorem dX5_firstIll_55 : decode cX5_firstIll 55 = .ok (.ireturn, 1) := by decide +kernel
theorem dX5_firstIll_56 : decode cX5_firstIll 56 = .ok (.iinc 1 1, 3) := by decide +kernel
theorem dX5_firstIll_59 : decode cX5_firstIll 59 = .ok (.goto (-57), 3) := by decide +kernel
theorem dX5_firstIll_62 : decode cX5_firstIll 62 = .ok (.aload_n 0, 1) := by decide +kernel
theorem dX5_firstIll_63 : decode cX5_firstIll 63 = .ok (.invokevirtual 42, 3) := by decide +kernel
theorem dX5_firstIll_66 : decode cX5_firstIll 66 = .ok (.ireturn, 1) := by decide +kernel
theorem dX5_sortOf_0 : decode cX5_sortOf 0 = .ok (.aload_n 0, 1) := by decide +kernel
theorem dX5_sortOf_1 : decode cX5_sortOf 1 = .ok (.iload_n 1, 1) := by decide +kernel
theorem dX5_sortOf_2 : decode cX5_sortOf 2 = .ok (.bipush 13, 2) := by decide +kernel
theorem dX5_sortOf_4 : decode cX5_sortOf 4 = .ok (.invokevirtual 45, 3) := by decide +kernel
theorem dX5_sortOf_7 : decode cX5_sortOf 7 = .ok (.iconst (-1), 1) := by decide +kernel
theorem dX5_sortOf_8 : decode cX5_sortOf 8 = .ok (.if_icmp .ne 24, 3) := by decide +kernel
theorem dX5_sortOf_11 : decode cX5_sortOf 11 = .ok (.aload_n 0, 1) := by decide +kernel
theorem dX5_sortOf_12 : decode cX5_sortOf 12 = .ok (.iload_n 1, 1) := by decide +kernel
theorem dX5_sortOf_13 : decode cX5_sortOf 13 = .ok (.iconst 3, 1) := by decide +kernel
theorem dX5_sortOf_14 : decode cX5_sortOf 14 = .ok (.invokevirtual 45, 3) := by decide +kernel
theorem dX5_sortOf_17 : decode cX5_sortOf 17 = .ok (.iconst (-1), 1) := by decide +kernel
theorem dX5_sortOf_18 : decode cX5_sortOf 18 = .ok (.if_icmp .ne 14, 3) := by decide +kernel
theorem dX5_sortOf_21 : decode cX5_sortOf 21 = .ok (.aload_n 0, 1) := by decide +kernel
theorem dX5_sortOf_22 : decode cX5_sortOf 22 = .ok (.iload_n 1, 1) := by decide +kernel
theorem dX5_sortOf_23 : decode cX5_sortOf 23 = .ok (.bipush 12, 2) := by decide +kernel
theorem dX5_sortOf_25 : decode cX5_sortOf 25 = .ok (.invokevirtual 45, 3) := by decide +kernel
theorem dX5_sortOf_28 : decode cX5_sortOf 28 = .ok (.iconst (-1), 1) := by decide +kernel
theorem dX5_sortOf_29 : decode cX5_sortOf 29 = .ok (.if_icmp .eq 5, 3) := by decide +kernel
theorem dX5_sortOf_32 : decode cX5_sortOf 32 = .ok (.iconst 1, 1) := by decide +kernel
theorem dX5_sortOf_33 : decode cX5_sortOf 33 = .ok (.ireturn, 1) := by decide +kernel
theorem dX5_sortOf_34 : decode cX5_sortOf 34 = .ok (.aload_n 0, 1) := by decide +kernel
theorem dX5_sortOf_35 : decode cX5_sortOf 35 = .ok (.iload_n 1, 1) := by decide +kernel
theorem dX5_sortOf_36 : decode cX5_sortOf 36 = .ok (.bipush 9, 2) := by decide +kernel
theorem dX5_sortOf_38 : decode cX5_sortOf 38 = .ok (.invokevirtual 45, 3) := by decide +kernel
theorem dX5_sortOf_41 : decode cX5_sortOf 41 = .ok (.iconst (-1), 1) := by decide +kernel
theorem dX5_sortOf_42 : decode cX5_sortOf 42 = .ok (.if_icmp .eq 5, 3) := by decide +kernel
theorem dX5_sortOf_45 : decode cX5_sortOf 45 = .ok (.iconst 2, 1) := by decide +kernel
theorem dX5_sortOf_46 : decode cX5_sortOf 46 = .ok (.ireturn, 1) := by decide +kernel
theorem dX5_sortOf_47 : decode cX5_sortOf 47 = .ok (.aload_n 0, 1) := by decide +kernel
theorem dX5_sortOf_48 : decode cX5_sortOf 48 = .ok (.iload_n 1, 1) := by decide +kernel
theorem dX5_sortOf_49 : decode cX5_sortOf 49 = .ok (.bipush 11, 2) := by decide +kernel
theorem dX5_sortOf_51 : decode cX5_sortOf 51 = .ok (.invokevirtual 45, 3) := by decide +kernel
theorem dX5_sortOf_54 : decode cX5_sortOf 54 = .ok (.iconst (-1), 1) := by decide +kernel
theorem dX5_sortOf_55 : decode cX5_sortOf 55 = .ok (.if_icmp .eq 5, 3) := by decide +kernel
theorem dX5_sortOf_58 : decode cX5_sortOf 58 = .ok (.iconst 3, 1) := by decide +kernel
theorem dX5_sortOf_59 : decode cX5_sortOf 59 = .ok (.ireturn, 1) := by decide +kernel
theorem dX5_sortOf_60 : decode cX5_sortOf 60 = .ok (.aload_n 0, 1) := by decide +kernel
theorem dX5_sortOf_61 : decode cX5_sortOf 61 = .ok (.iload_n 1, 1) := by decide +kernel
theorem dX5_sortOf_62 : decode cX5_sortOf 62 = .ok (.iconst 4, 1) := by decide +kernel
theorem dX5_sortOf_63 : decode cX5_sortOf 63 = .ok (.invokevirtual 45, 3) := by decide +kernel
theorem dX5_sortOf_66 : decode cX5_sortOf 66 = .ok (.iconst (-1), 1) := by decide +kernel
theorem dX5_sortOf_67 : decode cX5_sortOf 67 = .ok (.if_icmp .ne 5, 3) := by decide +kernel
theorem dX5_sortOf_70 : decode cX5_sortOf 70 = .ok (.iconst 0, 1) := by decide +kernel
theorem dX5_sortOf_71 : decode cX5_sortOf 71 = .ok (.ireturn, 1) := by decide +kernel
theorem dX5_sortOf_72 : decode cX5_sortOf 72 = .ok (.aload_n 0, 1) := by decide +kernel
theorem dX5_sortOf_73 : decode cX5_sortOf 73 = .ok (.iload_n 1, 1) := by decide +kernel
theorem dX5_sortOf_74 : decode cX5_sortOf 74 = .ok (.invokestatic 49, 3) := by decide +kernel
theorem dX5_sortOf_77 : decode cX5_sortOf 77 = .ok (.ifCond .eq 7, 3) := by decide +kernel
theorem dX5_sortOf_80 : decode cX5_sortOf 80 = .ok (.iconst 5, 1) := by decide +kernel
theorem dX5_sortOf_81 : decode cX5_sortOf 81 = .ok (.goto 4, 3) := by decide +kernel
theorem dX5_sortOf_84 : decode cX5_sortOf 84 = .ok (.iconst 4, 1) := by decide +kernel
theorem dX5_sortOf_85 : decode cX5_sortOf 85 = .ok (.ireturn, 1) := by decide +kernel
theorem dX5_hasRightSlash_0 : decode cX5_hasRightSlash 0 = .ok (.aload_n 0, 1) := by decide +kernel
theorem dX5_hasRightSlash_1 : decode cX5_hasRightSlash 1 = .ok (.iload_n 1, 1) := by decide +kernel
theorem dX5_hasRightSlash_2 : decode cX5_hasRightSlash 2 = .ok (.bipush 8, 2) := by decide +kernel
theorem dX5_hasRightSlash_4 : decode cX5_hasRightSlash 4 = .ok (.invokevirtual 45, 3) := by decide +kernel
theorem dX5_hasRightSlash_7 : decode cX5_hasRightSlash 7 = .ok (.istore_n 2, 1) := by decide +kernel
theorem dX5_hasRightSlash_8 : decode cX5_hasRightSlash 8 = .ok (.iload_n 2, 1) := by decide +kernel
theorem dX5_hasRightSlash_9 : decode cX5_hasRightSlash 9 = .ok (.iconst (-1), 1) := by decide +kernel
theorem dX5_hasRightSlash_10 : decode cX5_hasRightSlash 10 = .ok (.if_icmp .eq 15, 3) := by decide +kernel
theorem dX5_hasRightSlash_13 : decode cX5_hasRightSlash 13 = .ok (.aload_n 0, 1) := by decide +kernel
theorem dX5_hasRightSlash_14 : decode cX5_hasRightSlash 14 = .ok (.iload_n 1, 1) := by decide +kernel
theorem dX5_hasRightSlash_15 : decode cX5_hasRightSlash 15 = .ok (.iload_n 2, 1) := by decide +kernel
theorem dX5_hasRightSlash_16 : decode cX5_hasRightSlash 16 = .ok (.iconst 1, 1) := by decide +kernel
theorem dX5_hasRightSlash_17 : decode cX5_hasRightSlash 17 = .ok (.isub, 1) := by decide +kernel
theorem dX5_hasRightSlash_18 : decode cX5_hasRightSlash 18 = .ok (.invokevirtual 53, 3) := by decide +kernel
theorem dX5_hasRightSlash_21 : decode cX5_hasRightSlash 21 = .ok (.iconst 4, 1) := by decide +kernel
theorem dX5_hasRightSlash_22 : decode cX5_hasRightSlash 22 = .ok (.if_icmp .eq 5, 3) := by decide +kernel
theorem dX5_hasRightSlash_25 : decode cX5_hasRightSlash 25 = .ok (.iconst 0, 1) := by decide +kernel
theorem dX5_hasRightSlash_26 : decode cX5_hasRightSlash 26 = .ok (.ireturn, 1) := by decide +kernel
theorem dX5_hasRightSlash_27 : decode cX5_hasRightSlash 27 = .ok (.aload_n 0, 1) := by decide +kernel
theorem dX5_hasRightSlash_28 : decode cX5_hasRightSlash 28 = .ok (.iload_n 1, 1) := by decide +kernel
theorem dX5_hasRightSlash_29 : decode cX5_hasRightSlash 29 = .ok (.iload_n 2, 1) := by decide +kernel
theorem dX5_hasRightSlash_30 : decode cX5_hasRightSlash 30 = .ok (.iconst 1, 1) := by decide +kernel
theorem dX5_hasRightSlash_31 : decode cX5_hasRightSlash 31 = .ok (.iadd, 1) := by decide +kernel
theorem dX5_hasRightSlash_32 : decode cX5_hasRightSlash 32 = .ok (.invokevirtual 53, 3) := by decide +kernel
theorem dX5_hasRightSlash_35 : decode cX5_hasRightSlash 35 = .ok (.istore_n 3, 1) := by decide +kernel
theorem dX5_hasRightSlash_36 : decode cX5_hasRightSlash 36 = .ok (.iload_n 3, 1) := by decide +kernel
theorem dX5_hasRightSlash_37 : decode cX5_hasRightSlash 37 = .ok (.iconst 4, 1) := by decide +kernel
theorem dX5_hasRightSlash_38 : decode cX5_hasRightSlash 38 = .ok (.if_icmp .eq 9, 3) := by decide +kernel
theorem dX5_hasRightSlash_41 : decode cX5_hasRightSlash 41 = .ok (.iload_n 3, 1) := by decide +kernel
theorem dX5_hasRightSlash_42 : decode cX5_hasRightSlash 42 = .ok (.bipush 14, 2) := by decide +kernel
theorem dX5_hasRightSlash_44 : decode cX5_hasRightSlash 44 = .ok (.if_icmp .ne 7, 3) := by decide +kernel
theorem dX5_hasRightSlash_47 : decode cX5_hasRightSlash 47 = .ok (.iconst 1, 1) := by decide +kernel
theorem dX5_hasRightSlash_48 : decode cX5_hasRightSlash 48 = .ok (.goto 4, 3) := by decide +kernel
theorem dX5_hasRightSlash_51 : decode cX5_hasRightSlash 51 = .ok (.iconst 0, 1) := by decide +kernel
theorem dX5_hasRightSlash_52 : decode cX5_hasRightSlash 52 = .ok (.ireturn, 1) := by decide +kernel
theorem dX5_markMinutes_0 : decode cX5_markMinutes 0 = .ok (.iconst (-1), 1) := by decide +kernel
theorem dX5_markMinutes_1 : decode cX5_markMinutes 1 = .ok (.istore_n 2, 1) := by decide +kernel
theorem dX5_markMinutes_2 : decode cX5_markMinutes 2 = .ok (.iconst (-1), 1) := by decide +kernel
theorem dX5_markMinutes_3 : decode cX5_markMinutes 3 = .ok (.istore_n 3, 1) := by decide +kernel
theorem dX5_markMinutes_4 : decode cX5_markMinutes 4 = .ok (.aload_n 0, 1) := by decide +kernel
theorem dX5_markMinutes_5 : decode cX5_markMinutes 5 = .ok (.iload_n 1, 1) := by decide +kernel
theorem dX5_markMinutes_6 : decode cX5_markMinutes 6 = .ok (.invokevirtual 56, 3) := by decide +kernel
theorem dX5_markMinutes_9 : decode cX5_markMinutes 9 = .ok (.istore 4, 2) := by decide +kernel
theorem dX5_markMinutes_11 : decode cX5_markMinutes 11 = .ok (.iload 4, 2) := by decide +kernel
theorem dX5_markMinutes_13 : decode cX5_markMinutes 13 = .ok (.aload_n 0, 1) := by decide +kernel
theorem dX5_markMinutes_14 : decode cX5_markMinutes 14 = .ok (.iload_n 1, 1) := by decide +kernel
theorem dX5_markMinutes_15 : decode cX5_markMinutes 15 = .ok (.invokevirtual 59, 3) := by decide +kernel
theorem dX5_markMinutes_18 : decode cX5_markMinutes 18 = .ok (.if_icmp .ge 112, 3) := by decide +kernel
theorem dX5_markMinutes_21 : decode cX5_markMinutes 21 = .ok (.aload_n 0, 1) := by decide +kernel
theorem dX5_markMinutes_22 : decode cX5_markMinutes 22 = .ok (.iload 4, 2) := by decide +kernel
theorem dX5_markMinutes_24 : decode cX5_markMinutes 24 = .ok (.invokevirtual 62, 3) := by decide +kernel
theorem dX5_markMinutes_27 : decode cX5_markMinutes 27 = .ok (.bipush 13, 2) := by decide +kernel
theorem dX5_markMinutes_29 : decode cX5_markMinutes 29 = .ok (.if_icmp .ne 7, 3) := by decide +kernel
theorem dX5_markMinutes_32 : decode cX5_markMinutes 32 = .ok (.iconst 1, 1) := by decide +kernel
theorem dX5_markMinutes_33 : decode cX5_markMinutes 33 = .ok (.goto 4, 3) := by decide +kernel
theorem dX5_markMinutes_36 : decode cX5_markMinutes 36 = .ok (.iconst 0, 1) := by decide +kernel
theorem dX5_markMinutes_37 : decode cX5_markMinutes 37 = .ok (.istore 5, 2) := by decide +kernel
theorem dX5_markMinutes_39 : decode cX5_markMinutes 39 = .ok (.iload 5, 2) := by decide +kernel
theorem dX5_markMinutes_41 : decode cX5_markMinutes 41 = .ok (.ifCond .ne 16, 3) := by decide +kernel
theorem dX5_markMinutes_44 : decode cX5_markMinutes 44 = .ok (.aload_n 0, 1) := by decide +kernel
theorem dX5_markMinutes_45 : decode cX5_markMinutes 45 = .ok (.iload 4, 2) := by decide +kernel
theorem dX5_markMinutes_47 : decode cX5_markMinutes 47 = .ok (.invokevirtual 62, 3) := by decide +kernel
theorem dX5_markMinutes_50 : decode cX5_markMinutes 50 = .ok (.iconst 3, 1) := by decide +kernel
theorem dX5_markMinutes_51 : decode cX5_markMinutes 51 = .ok (.if_icmp .eq 6, 3) := by decide +kernel
theorem dX5_markMinutes_54 : decode cX5_markMinutes 54 = .ok (.goto 70, 3) := by decide +kernel
theorem dX5_markMinutes_57 : decode cX5_markMinutes 57 = .ok (.aload_n 0, 1) := by decide +kernel
theorem dX5_markMinutes_58 : decode cX5_markMinutes 58 = .ok (.iload 4, 2) := by decide +kernel
theorem dX5_markMinutes_60 : decode cX5_markMinutes 60 = .ok (.invokevirtual 65, 3) := by decide +kernel
theorem dX5_markMinutes_63 : decode cX5_markMinutes 63 = .ok (.istore 6, 2) := by decide +kernel
theorem dX5_markMinutes_65 : decode cX5_markMinutes 65 = .ok (.iload 6, 2) := by decide +kernel
theorem dX5_markMinutes_67 : decode cX5_markMinutes 67 = .ok (.bipush 115, 2) := by decide +kernel
theorem dX5_markMinutes_69 : decode cX5_markMinutes 69 = .ok (.if_icmp .ne 10, 3) := by decide +kernel
theorem dX5_markMinutes_72 : decode cX5_markMinutes 72 = .ok (.aload_n 0, 1) := by decide +kernel
theorem dX5_markMinutes_73 : decode cX5_markMinutes 73 = .ok (.iload_n 3, 1) := by decide +kernel
theorem dX5_markMinutes_74 : decode cX5_markMinutes 74 = .ok (.bipush 17, 2) := by decide +kernel
theorem dX5_markMinutes_76 : decode cX5_markMinutes 76 = .ok (.invokevirtual 68, 3) := by decide +kernel
theorem dX5_markMinutes_79 : decode cX5_markMinutes 79 = .ok (.iload 5, 2) := by decide +kernel
theorem dX5_markMinutes_81 : decode cX5_markMinutes 81 = .ok (.ifCond .eq 25, 3) := by decide +kernel
theorem dX5_markMinutes_84 : decode cX5_markMinutes 84 = .ok (.iload 6, 2) := by decide +kernel
theorem dX5_markMinutes_86 : decode cX5_markMinutes 86 = .ok (.bipush 109, 2) := by decide +kernel
theorem dX5_markMinutes_88 : decode cX5_markMinutes 88 = .ok (.if_icmp .ne 18, 3) := by decide +kernel
theorem dX5_markMinutes_91 : decode cX5_markMinutes 91 = .ok (.aload_n 0, 1) := by decide +kernel
theorem dX5_markMinutes_92 : decode cX5_markMinutes 92 = .ok (.iload 4, 2) := by decide +kernel
theorem dX5_markMinutes_94 : decode cX5_markMinutes 94 = .ok (.invokevirtual 71, 3) := by decide +kernel
theorem dX5_markMinutes_97 : decode cX5_markMinutes 97 = .ok (.iconst 2, 1) := by decide +kernel
theorem dX5_markMinutes_98 : decode cX5_markMinutes 98 = .ok (.if_icmp .gt 8, 3) := by decide +kernel
theorem dX5_markMinutes_101 : decode cX5_markMinutes 101 = .ok (.iload 4, 2) := by decide +kernel
theorem dX5_markMinutes_103 : decode cX5_markMinutes 103 = .ok (.goto 4, 3) := by decide +kernel
theorem dX5_markMinutes_106 : decode cX5_markMinutes 106 = .ok (.iconst (-1), 1) := by decide +kernel
theorem dX5_markMinutes_107 : decode cX5_markMinutes 107 = .ok (.istore_n 3, 1) := by decide +kernel
theorem dX5_markMinutes_108 : decode cX5_markMinutes 108 = .ok (.iload_n 2, 1) := by decide +kernel
theorem dX5_markMinutes_109 : decode cX5_markMinutes 109 = .ok (.bipush 104, 2) := by decide +kernel
theorem dX5_markMinutes_111 : decode cX5_markMinutes 111 = .ok (.if_icmp .ne 10, 3) := by decide +kernel
theorem dX5_markMinutes_114 : decode cX5_markMinutes 114 = .ok (.aload_n 0, 1) := by decide +kernel
theorem dX5_markMinutes_115 : decode cX5_markMinutes 115 = .ok (.iload_n 3, 1) := by decide +kernel
theorem dX5_markMinutes_116 : decode cX5_markMinutes 116 = .ok (.bipush 17, 2) := by decide +kernel
theorem dX5_markMinutes_118 : decode cX5_markMinutes 118 = .ok (.invokevirtual 68, 3) := by decide +kernel
theorem dX5_markMinutes_121 : decode cX5_markMinutes 121 = .ok (.iload 6, 2) := by decide +kernel
theorem dX5_markMinutes_123 : decode cX5_markMinutes 123 = .ok (.istore_n 2, 1) := by decide +kernel
theorem dX5_markMinutes_124 : decode cX5_markMinutes 124 = .ok (.iinc 4 1, 3) := by decide +kernel
theorem dX5_markMinutes_127 : decode cX5_markMinutes 127 = .ok (.goto (-116), 3) := by decide +kernel
theorem dX5_markMinutes_130 : decode cX5_markMinutes 130 = .ok (.return_, 1) := by decide +kernel
theorem dX5_markTenths_0 : decode cX5_markTenths 0 = .ok (.aload_n 0, 1) := by decide +kernel
theorem dX5_markTenths_1 : decode cX5_markTenths 1 = .ok (.iload_n 1, 1) := by decide +kernel
theorem dX5_markTenths_2 : decode cX5_markTenths 2 = .ok (.invokevirtual 56, 3) := by decide +kernel
theorem dX5_markTenths_5 : decode cX5_markTenths 5 = .ok (.istore_n 2, 1) := by decide +kernel
theorem dX5_markTenths_6 : decode cX5_markTenths 6 = .ok (.iload_n 2, 1) := by decide +kernel
theorem dX5_markTenths_7 : decode cX5_markTenths 7 = .ok (.aload_n 0, 1) := by decide +kernel
theorem dX5_markTenths_8 : decode cX5_markTenths 8 = .ok (.iload_n 1, 1) := by decide +kernel
theorem dX5_markTenths_9 : decode cX5_markTenths 9 = .ok (.invokevirtual 59, 3) := by decide +kernel
theorem dX5_markTenths_12 : decode cX5_markTenths 12 = .ok (.if_icmp .ge 109, 3) := by decide +kernel
theorem dX5_markTenths_15 : decode cX5_markTenths 15 = .ok (.aload_n 0, 1) := by decide +kernel
theorem dX5_markTenths_16 : decode cX5_markTenths 16 = .ok (.iload_n 1, 1) := by decide +kernel
theorem dX5_markTenths_17 : decode cX5_markTenths 17 = .ok (.iload_n 2, 1) := by decide +kernel
theorem dX5_markTenths_18 : decode cX5_markTenths 18 = .ok (.iconst 1, 1) := by decide +kernel
theorem dX5_markTenths_19 : decode cX5_markTenths 19 = .ok (.isub, 1) := by decide +kernel
theorem dX5_markTenths_20 : decode cX5_markTenths 20 = .ok (.invokevirtual 53, 3) := by decide +kernel
theorem dX5_markTenths_23 : decode cX5_markTenths 23 = .ok (.istore_n 3, 1) := by decide +kernel
theorem dX5_markTenths_24 : decode cX5_markTenths 24 = .ok (.iload_n 3, 1) := by decide +kernel
theorem dX5_markTenths_25 : decode cX5_markTenths 25 = .ok (.bipush 13, 2) := by decide +kernel
theorem dX5_markTenths_27 : decode cX5_markTenths 27 = .ok (.if_icmp .eq 8, 3) := by decide +kernel
theorem dX5_markTenths_30 : decode cX5_markTenths 30 = .ok (.iload_n 3, 1) := by decide +kernel
theorem dX5_markTenths_31 : decode cX5_markTenths 31 = .ok (.iconst 3, 1) := by decide +kernel
theorem dX5_markTenths_32 : decode cX5_markTenths 32 = .ok (.if_icmp .ne 19, 3) := by decide +kernel
theorem dX5_markTenths_35 : decode cX5_markTenths 35 = .ok (.aload_n 0, 1) := by decide +kernel
theorem dX5_markTenths_36 : decode cX5_markTenths 36 = .ok (.iload_n 2, 1) := by decide +kernel
theorem dX5_markTenths_37 : decode cX5_markTenths 37 = .ok (.iconst 1, 1) := by decide +kernel
theorem dX5_markTenths_38 : decode cX5_markTenths 38 = .ok (.isub, 1) := by decide +kernel
theorem dX5_markTenths_39 : decode cX5_markTenths 39 = .ok (.invokevirtual 65, 3) := by decide +kernel
theorem dX5_markTenths_42 : decode cX5_markTenths 42 = .ok (.bipush 115, 2) := by decide +kernel
theorem dX5_markTenths_44 : decode cX5_markTenths 44 = .ok (.if_icmp .ne 7, 3) := by decide +kernel
theorem dX5_markTenths_47 : decode cX5_markTenths 47 = .ok (.iconst 1, 1) := by decide +kernel
theorem dX5_markTenths_48 : decode cX5_markTenths 48 = .ok (.goto 4, 3) := by decide +kernel
theorem dX5_markTenths_51 : decode cX5_markTenths 51 = .ok (.iconst 0, 1) := by decide +kernel
theorem dX5_markTenths_52 : decode cX5_markTenths 52 = .ok (.istore 4, 2) := by decide +kernel
theorem dX5_markTenths_54 : decode cX5_markTenths 54 = .ok (.aload_n 0, 1) := by decide +kernel
theorem dX5_markTenths_55 : decode cX5_markTenths 55 = .ok (.iload_n 2, 1) := by decide +kernel
theorem dX5_markTenths_56 : decode cX5_markTenths 56 = .ok (.invokevirtual 62, 3) := by decide +kernel
theorem dX5_markTenths_59 : decode cX5_markTenths 59 = .ok (.iconst 5, 1) := by decide +kernel
theorem dX5_markTenths_60 : decode cX5_markTenths 60 = .ok (.if_icmp .ne 55, 3) := by decide +kernel
theorem dX5_markTenths_63 : decode cX5_markTenths 63 = .ok (.iload 4, 2) := by decide +kernel
theorem dX5_markTenths_65 : decode cX5_markTenths 65 = .ok (.ifCond .ne 6, 3) := by decide +kernel
theorem dX5_markTenths_68 : decode cX5_markTenths 68 = .ok (.goto 47, 3) := by decide +kernel
theorem dX5_markTenths_71 : decode cX5_markTenths 71 = .ok (.iload_n 2, 1) := by decide +kernel
theorem dX5_markTenths_72 : decode cX5_markTenths 72 = .ok (.iconst 1, 1) := by decide +kernel
theorem dX5_markTenths_73 : decode cX5_markTenths 73 = .ok (.iadd, 1) := by decide +kernel
theorem dX5_markTenths_74 : decode cX5_markTenths 74 = .ok (.istore 5, 2) := by decide +kernel
theorem dX5_markTenths_76 : decode cX5_markTenths 76 = .ok (.iload 5, 2) := by decide +kernel
theorem dX5_markTenths_78 : decode cX5_markTenths 78 = .ok (.iload_n 2, 1) := by decide +kernel
theorem dX5_markTenths_79 : decode cX5_markTenths 79 = .ok (.iconst 3, 1) := by decide +kernel
theorem dX5_markTenths_80 : decode cX5_markTenths 80 = .ok (.iadd, 1) := by decide +kernel
theorem dX5_markTenths_81 : decode cX5_markTenths 81 = .ok (.if_icmp .gt 34, 3) := by decide +kernel
theorem dX5_markTenths_84 : decode cX5_markTenths 84 = .ok (.aload_n 0, 1) := by decide +kernel
theorem dX5_markTenths_85 : decode cX5_markTenths 85 = .ok (.iload_n 1, 1) := by decide +kernel
theorem dX5_markTenths_86 : decode cX5_markTenths 86 = .ok (.iload 5, 2) := by decide +kernel
theorem dX5_markTenths_88 : decode cX5_markTenths 88 = .ok (.invokestatic 74, 3) := by decide +kernel
theorem dX5_markTenths_91 : decode cX5_markTenths 91 = .ok (.ifCond .eq 24, 3) := by decide +kernel
theorem dX5_markTenths_94 : decode cX5_markTenths 94 = .ok (.aload_n 0, 1) := by decide +kernel
theorem dX5_markTenths_95 : decode cX5_markTenths 95 = .ok (.iload_n 2, 1) := by decide +kernel
theorem dX5_markTenths_96 : decode cX5_markTenths 96 = .ok (.bipush 15, 2) := by decide +kernel
theorem dX5_markTenths_98 : decode cX5_markTenths 98 = .ok (.invokevirtual 68, 3) := by decide +kernel
theorem dX5_markTenths_101 : decode cX5_markTenths 101 = .ok (.aload_n 0, 1) := by decide +kernel
theorem dX5_markTenths_102 : decode cX5_markTenths 102 = .ok (.iload 5, 2) := by decide +kernel
theorem dX5_markTenths_104 : decode cX5_markTenths 104 = .ok (.bipush 16, 2) := by decide +kernel
theorem dX5_markTenths_106 : decode cX5_markTenths 106 = .ok (.invokevirtual 68, 3) := by decide +kernel
theorem dX5_markTenths_109 : decode cX5_markTenths 109 = .ok (.iinc 5 1, 3) := by decide +kernel
theorem dX5_markTenths_112 : decode cX5_markTenths 112 = .ok (.goto (-36), 3) := by decide +kernel
theorem dX5_markTenths_115 : decode cX5_markTenths 115 = .ok (.iinc 2 1, 3) := by decide +kernel
theorem dX5_markTenths_118 : decode cX5_markTenths 118 = .ok (.goto (-112), 3) := by decide +kernel
theorem dX5_markTenths_121 : decode cX5_markTenths 121 = .ok (.return_, 1) := by decide +kernel
theorem dX5_isZero_0 : decode cX5_isZero 0 = .ok (.aload_n 0, 1) := by decide +kernel
theorem dX5_isZero_1 : decode cX5_isZero 1 = .ok (.iload_n 1, 1) := by decide +kernel
theorem dX5_isZero_2 : decode cX5_isZero 2 = .ok (.iload_n 2, 1) := by decide +kernel
theorem dX5_isZero_3 : decode cX5_isZero 3 = .ok (.invokevirtual 53, 3) := by decide +kernel
theorem dX5_isZero_6 : decode cX5_isZero 6 = .ok (.iconst 4, 1) := by decide +kernel
theorem dX5_isZero_7 : decode cX5_isZero 7 = .ok (.if_icmp .ne 17, 3) := by decide +kernel
theorem dX5_isZero_10 : decode cX5_isZero 10 = .ok (.aload_n 0, 1) := by decide +kernel
theorem dX5_isZero_11 : decode cX5_isZero 11 = .ok (.iload_n 2, 1) := by decide +kernel
theorem dX5_isZero_12 : decode cX5_isZero 12 = .ok (.invokevirtual 65, 3) := by decide +kernel
theorem dX5_isZero_15 : decode cX5_isZero 15 = .ok (.bipush 48, 2) := by decide +kernel
theorem dX5_isZero_17 : decode cX5_isZero 17 = .ok (.if_icmp .ne 7, 3) := by decide +kernel
theorem dX5_isZero_20 : decode cX5_isZero 20 = .ok (.iconst 1, 1) := by decide +kernel
theorem dX5_isZero_21 : decode cX5_isZero 21 = .ok (.goto 4, 3) := by decide +kernel
theorem dX5_isZero_24 : decode cX5_isZero 24 = .ok (.iconst 0, 1) := by decide +kernel
theorem dX5_isZero_25 : decode cX5_isZero 25 = .ok (.ireturn, 1) := by decide +kernel
theorem dX5_firstIllIn_0 : decode cX5_firstIllIn 0 = .ok (.aload_n 0, 1) := by decide +kernel
theorem dX5_firstIllIn_1 : decode cX5_firstIllIn 1 = .ok (.iload_n 1, 1) := by decide +kernel
theorem dX5_firstIllIn_2 : decode cX5_firstIllIn 2 = .ok (.invokevirtual 25, 3) := by decide +kernel
theorem dX5_firstIllIn_5 : decode cX5_firstIllIn 5 = .ok (.istore_n 2, 1) := by decide +kernel
theorem dX5_firstIllIn_6 : decode cX5_firstIllIn 6 = .ok (.iload_n 1, 1) := by decide +kernel
theorem dX5_firstIllIn_7 : decode cX5_firstIllIn 7 = .ok (.iconst 3, 1) := by decide +kernel
theorem dX5_firstIllIn_8 : decode cX5_firstIllIn 8 = .ok (.if_icmp .ne 18, 3) := by decide +kernel
theorem dX5_firstIllIn_11 : decode cX5_firstIllIn 11 = .ok (.iload_n 2, 1) := by decide +kernel
theorem dX5_firstIllIn_12 : decode cX5_firstIllIn 12 = .ok (.iconst 2, 1) := by decide +kernel
theorem dX5_firstIllIn_13 : decode cX5_firstIllIn 13 = .ok (.if_icmp .eq 13, 3) := by decide +kernel
theorem dX5_firstIllIn_16 : decode cX5_firstIllIn 16 = .ok (.iload_n 2, 1) := by decide +kernel
theorem dX5_firstIllIn_17 : decode cX5_firstIllIn 17 = .ok (.ifCond .eq 9, 3) := by decide +kernel
theorem dX5_firstIllIn_20 : decode cX5_firstIllIn 20 = .ok (.aload_n 0, 1) := by decide +kernel
theorem dX5_firstIllIn_21 : decode cX5_firstIllIn 21 = .ok (.iload_n 1, 1) := by decide +kernel
theorem dX5_firstIllIn_22 : decode cX5_firstIllIn 22 = .ok (.invokevirtual 56, 3) := by decide +kernel
theorem dX5_firstIllIn_25 : decode cX5_firstIllIn 25 = .ok (.ireturn, 1) := by decide +kernel
theorem dX5_firstIllIn_26 : decode cX5_firstIllIn 26 = .ok (.aload_n 0, 1) := by decide +kernel
theorem dX5_firstIllIn_27 : decode cX5_firstIllIn 27 = .ok (.iload_n 1, 1) := by decide +kernel
theorem dX5_firstIllIn_28 : decode cX5_firstIllIn 28 = .ok (.invokevirtual 56, 3) := by decide +kernel
theorem dX5_firstIllIn_31 : decode cX5_firstIllIn 31 = .ok (.istore_n 3, 1) := by decide +kernel
theorem dX5_firstIllIn_32 : decode cX5_firstIllIn 32 = .ok (.iload_n 3, 1) := by decide +kernel
theorem dX5_firstIllIn_33 : decode cX5_firstIllIn 33 = .ok (.aload_n 0, 1) := by decide +kernel
theorem dX5_firstIllIn_34 : decode cX5_firstIllIn 34 = .ok (.iload_n 1, 1) := by decide +kernel
theorem dX5_firstIllIn_35 : decode cX5_firstIllIn 35 = .ok (.invokevirtual 59, 3) := by decide +kernel
theorem dX5_firstIllIn_38 : decode cX5_firstIllIn 38 = .ok (.if_icmp .ge 20, 3) := by decide +kernel
theorem dX5_firstIllIn_41 : decode cX5_firstIllIn 41 = .ok (.aload_n 0, 1) := by decide +kernel
theorem dX5_firstIllIn_42 : decode cX5_firstIllIn 42 = .ok (.iload_n 1, 1) := by decide +kernel
theorem dX5_firstIllIn_43 : decode cX5_firstIllIn 43 = .ok (.iload_n 3, 1) := by decide +kernel
theorem dX5_firstIllIn_44 : decode cX5_firstIllIn 44 = .ok (.invokestatic 78, 3) := by decide +kernel
theorem dX5_firstIllIn_47 : decode cX5_firstIllIn 47 = .ok (.ifCond .eq 5, 3) := by decide +kernel
theorem dX5_firstIllIn_50 : decode cX5_firstIllIn 50 = .ok (.iload_n 3, 1) := by decide +kernel
theorem dX5_firstIllIn_51 : decode cX5_firstIllIn 51 = .ok (.ireturn, 1) := by decide +kernel
theorem dX5_firstIllIn_52 : decode cX5_firstIllIn 52 = .ok (.iinc 3 1, 3) := by decide +kernel
theorem dX5_firstIllIn_55 : decode cX5_firstIllIn 55 = .ok (.goto (-23), 3) := by decide +kernel
theorem dX5_firstIllIn_58 : decode cX5_firstIllIn 58 = .ok (.iconst (-1), 1) := by decide +kernel
theorem dX5_firstIllIn_59 : decode cX5_firstIllIn 59 = .ok (.ireturn, 1) := by decide +kernel
theorem dX5_isIll_0 : decode cX5_isIll 0 = .ok (.aload_n 0, 1) := by decide +kernel
theorem dX5_isIll_1 : decode cX5_isIll 1 = .ok (.iload_n 2, 1) := by decide +kernel
theorem dX5_isIll_2 : decode cX5_isIll 2 = .ok (.invokevirtual 62, 3) := by decide +kernel
theorem dX5_isIll_5 : decode cX5_isIll 5 = .ok (.istore_n 3, 1) := by decide +kernel
theorem dX5_isIll_6 : decode cX5_isIll 6 = .ok (.iload_n 3, 1) := by decide +kernel
theorem dX5_isIll_7 : decode cX5_isIll 7 = .ok (.ifCond .ne 5, 3) := by decide +kernel
theorem dX5_isIll_10 : decode cX5_isIll 10 = .ok (.iconst 1, 1) := by decide +kernel
theorem dX5_isIll_11 : decode cX5_isIll 11 = .ok (.ireturn, 1) := by decide +kernel
theorem dX5_isIll_12 : decode cX5_isIll 12 = .ok (.iload_n 3, 1) := by decide +kernel
theorem dX5_isIll_13 : decode cX5_isIll 13 = .ok (.iconst 2, 1) := by decide +kernel
theorem dX5_isIll_14 : decode cX5_isIll 14 = .ok (.if_icmp .ne 23, 3) := by decide +kernel
theorem dX5_isIll_17 : decode cX5_isIll 17 = .ok (.iload_n 1, 1) := by decide +kernel
theorem dX5_isIll_18 : decode cX5_isIll 18 = .ok (.iconst 1, 1) := by decide +kernel
theorem dX5_isIll_19 : decode cX5_isIll 19 = .ok (.if_icmp .gt 12, 3) := by decide +kernel
theorem dX5_isIll_22 : decode cX5_isIll 22 = .ok (.iload_n 2, 1) := by decide +kernel
theorem dX5_isIll_23 : decode cX5_isIll 23 = .ok (.aload_n 0, 1) := by decide +kernel
theorem dX5_isIll_24 : decode cX5_isIll 24 = .ok (.iload_n 1, 1) := by decide +kernel
theorem dX5_isIll_25 : decode cX5_isIll 25 = .ok (.invokevirtual 56, 3) := by decide +kernel
theorem dX5_isIll_28 : decode cX5_isIll 28 = .ok (.if_icmp .eq 7, 3) := by decide +kernel
theorem dX5_isIll_31 : decode cX5_isIll 31 = .ok (.iconst 1, 1) := by decide +kernel
theorem dX5_isIll_32 : decode cX5_isIll 32 = .ok (.goto 4, 3) := by decide +kernel
theorem dX5_isIll_35 : decode cX5_isIll 35 = .ok (.iconst 0, 1) := by decide +kernel
theorem dX5_isIll_36 : decode cX5_isIll 36 = .ok (.ireturn, 1) := by decide +kernel
theorem dX5_isIll_37 : decode cX5_isIll 37 = .ok (.aload_n 0, 1) := by decide +kernel
theorem dX5_isIll_38 : decode cX5_isIll 38 = .ok (.iload_n 1, 1) := by decide +kernel
theorem dX5_isIll_39 : decode cX5_isIll 39 = .ok (.invokevirtual 25, 3) := by decide +kernel
theorem dX5_isIll_42 : decode cX5_isIll 42 = .ok (.tableswitch 53 1 5 #[34, 53, 53, 39, 46], 34) := by decide +kernel
theorem dX5_isIll_76 : decode cX5_isIll 76 = .ok (.iload_n 3, 1) := by decide +kernel
theorem dX5_isIll_77 : decode cX5_isIll 77 = .ok (.invokestatic 81, 3) := by decide +kernel
theorem dX5_isIll_80 : decode cX5_isIll 80 = .ok (.ireturn, 1) := by decide +kernel
theorem dX5_isIll_81 : decode cX5_isIll 81 = .ok (.aload_n 0, 1) := by decide +kernel
theorem dX5_isIll_82 : decode cX5_isIll 82 = .ok (.iload_n 1, 1) := by decide +kernel
theorem dX5_isIll_83 : decode cX5_isIll 83 = .ok (.iload_n 2, 1) := by decide +kernel
theorem dX5_isIll_84 : decode cX5_isIll 84 = .ok (.invokestatic 85, 3) := by decide +kernel
theorem dX5_isIll_87 : decode cX5_isIll 87 = .ok (.ireturn, 1) := by decide +kernel
theorem dX5_isIll_88 : decode cX5_isIll 88 = .ok (.aload_n 0, 1) := by decide +kernel
theorem dX5_isIll_89 : decode cX5_isIll 89 = .ok (.iload_n 1, 1) := by decide +kernel
theorem dX5_isIll_90 : decode cX5_isIll 90 = .ok (.iload_n 2, 1) := by decide +kernel
theorem dX5_isIll_91 : decode cX5_isIll 91 = .ok (.invokestatic 88, 3) := by decide +kernel
theorem dX5_isIll_94 : decode cX5_isIll 94 = .ok (.ireturn, 1) := by decide +kernel
theorem dX5_isIll_95 : decode cX5_isIll 95 = .ok (.aload_n 0, 1) := by decide +kernel
theorem dX5_isIll_96 : decode cX5_isIll 96 = .ok (.iload_n 1, 1) := by decide +kernel
theorem dX5_isIll_97 : decode cX5_isIll 97 = .ok (.iload_n 2, 1) := by decide +kernel
theorem dX5_isIll_98 : decode cX5_isIll 98 = .ok (.invokestatic 91, 3) := by decide +kernel
theorem dX5_isIll_101 : decode cX5_isIll 101 = .ok (.ireturn, 1) := by decide +kernel
theorem dX5_isIllInDate_0 : decode cX5_isIllInDate 0 = .ok (.iload_n 0, 1) := by decide +kernel
theorem dX5_isIllInDate_1 : decode cX5_isIllInDate 1 = .ok (.tableswitch 61 4 14 #[59, 61, 61, 59, 61, 59, 59, 59, 61, 61, 59], 59) := by decide +kernel
theorem dX5_isIllInDate_60 : decode cX5_isIllInDate 60 = .ok (.iconst 1, 1) := by decide +kernel
theorem dX5_isIllInDate_61 : decode cX5_isIllInDate 61 = .ok (.ireturn, 1) := by decide +kernel
theorem dX5_isIllInDate_62 : decode cX5_isIllInDate 62 = .ok (.iconst 0, 1) := by decide +kernel
theorem dX5_isIllInDate_63 : decode cX5_isIllInDate 63 = .ok (.ireturn, 1) := by decide +kernel
theorem dX5_isIllInWords_0 : decode cX5_isIllInWords 0 = .ok (.aload_n 0, 1) := by decide +kernel
theorem dX5_isIllInWords_1 : decode cX5_isIllInWords 1 = .ok (.iload_n 2, 1) := by decide +kernel
theorem dX5_isIllInWords_2 : decode cX5_isIllInWords 2 = .ok (.invokevirtual 62, 3) := by decide +kernel
theorem dX5_isIllInWords_5 : decode cX5_isIllInWords 5 = .ok (.lookupswitch 67 #[(4, 43), (10, 43), (11, 45), (14, 43)], 43) := by decide +kernel
theorem dX5_isIllInWords_48 : decode cX5_isIllInWords 48 = .ok (.iconst 1, 1) := by decide +kernel
theorem dX5_isIllInWords_49 : decode cX5_isIllInWords 49 = .ok (.ireturn, 1) := by decide +kernel
theorem dX5_isIllInWords_50 : decode cX5_isIllInWords 50 = .ok (.aload_n 0, 1) := by decide +kernel
theorem dX5_isIllInWords_51 : decode cX5_isIllInWords 51 = .ok (.bipush 11, 2) := by decide +kernel
theorem dX5_isIllInWords_53 : decode cX5_isIllInWords 53 = .ok (.aload_n 0, 1) := by decide +kernel
theorem dX5_isIllInWords_54 : decode cX5_isIllInWords 54 = .ok (.iload_n 1, 1) := by decide +kernel
theorem dX5_isIllInWords_55 : decode cX5_isIllInWords 55 = .ok (.invokevirtual 56, 3) := by decide +kernel
theorem dX5_isIllInWords_58 : decode cX5_isIllInWords 58 = .ok (.iload_n 2, 1) := by decide +kernel
theorem dX5_isIllInWords_59 : decode cX5_isIllInWords 59 = .ok (.invokevirtual 94, 3) := by decide +kernel
theorem dX5_isIllInWords_62 : decode cX5_isIllInWords 62 = .ok (.iconst (-1), 1) := by decide +kernel
theorem dX5_isIllInWords_63 : decode cX5_isIllInWords 63 = .ok (.if_icmp .eq 7, 3) := by decide +kernel
theorem dX5_isIllInWords_66 : decode cX5_isIllInWords 66 = .ok (.iconst 1, 1) := by decide +kernel
theorem dX5_isIllInWords_67 : decode cX5_isIllInWords 67 = .ok (.goto 4, 3) := by decide +kernel
theorem dX5_isIllInWords_70 : decode cX5_isIllInWords 70 = .ok (.iconst 0, 1) := by decide +kernel
theorem dX5_isIllInWords_71 : decode cX5_isIllInWords 71 = .ok (.ireturn, 1) := by decide +kernel
theorem dX5_isIllInWords_72 : decode cX5_isIllInWords 72 = .ok (.iconst 0, 1) := by decide +kernel
theorem dX5_isIllInWords_73 : decode cX5_isIllInWords 73 = .ok (.ireturn, 1) := by decide +kernel
theorem dX5_isIllInNumber_0 : decode cX5_isIllInNumber 0 = .ok (.aload_n 0, 1) := by decide +kernel
theorem dX5_isIllInNumber_1 : decode cX5_isIllInNumber 1 = .ok (.iload_n 1, 1) := by decide +kernel
theorem dX5_isIllInNumber_2 : decode cX5_isIllInNumber 2 = .ok (.bipush 10, 2) := by decide +kernel
theorem dX5_isIllInNumber_4 : decode cX5_isIllInNumber 4 = .ok (.invokevirtual 45, 3) := by decide +kernel
theorem dX5_isIllInNumber_7 : decode cX5_isIllInNumber 7 = .ok (.istore_n 3, 1) := by decide +kernel
theorem dX5_isIllInNumber_8 : decode cX5_isIllInNumber 8 = .ok (.iload_n 3, 1) := by decide +kernel
theorem dX5_isIllInNumber_9 : decode cX5_isIllInNumber 9 = .ok (.iconst (-1), 1) := by decide +kernel
theorem dX5_isIllInNumber_10 : decode cX5_isIllInNumber 10 = .ok (.if_icmp .eq 30, 3) := by decide +kernel
theorem dX5_isIllInNumber_13 : decode cX5_isIllInNumber 13 = .ok (.iload_n 2, 1) := by decide +kernel
theorem dX5_isIllInNumber_14 : decode cX5_isIllInNumber 14 = .ok (.iload_n 3, 1) := by decide +kernel
theorem dX5_isIllInNumber_15 : decode cX5_isIllInNumber 15 = .ok (.if_icmp .le 25, 3) := by decide +kernel
theorem dX5_isIllInNumber_18 : decode cX5_isIllInNumber 18 = .ok (.aload_n 0, 1) := by decide +kernel
theorem dX5_isIllInNumber_19 : decode cX5_isIllInNumber 19 = .ok (.iload_n 2, 1) := by decide +kernel
theorem dX5_isIllInNumber_20 : decode cX5_isIllInNumber 20 = .ok (.invokevirtual 62, 3) := by decide +kernel
theorem dX5_isIllInNumber_23 : decode cX5_isIllInNumber 23 = .ok (.iconst 4, 1) := by decide +kernel
theorem dX5_isIllInNumber_24 : decode cX5_isIllInNumber 24 = .ok (.if_icmp .ne 10, 3) := by decide +kernel
theorem dX5_isIllInNumber_27 : decode cX5_isIllInNumber 27 = .ok (.iload_n 2, 1) := by decide +kernel
theorem dX5_isIllInNumber_28 : decode cX5_isIllInNumber 28 = .ok (.iload_n 3, 1) := by decide +kernel
theorem dX5_isIllInNumber_29 : decode cX5_isIllInNumber 29 = .ok (.isub, 1) := by decide +kernel
theorem dX5_isIllInNumber_30 : decode cX5_isIllInNumber 30 = .ok (.iconst 3, 1) := by decide +kernel
theorem dX5_isIllInNumber_31 : decode cX5_isIllInNumber 31 = .ok (.if_icmp .le 7, 3) := by decide +kernel
theorem dX5_isIllInNumber_34 : decode cX5_isIllInNumber 34 = .ok (.iconst 1, 1) := by decide +kernel
theorem dX5_isIllInNumber_35 : decode cX5_isIllInNumber 35 = .ok (.goto 4, 3) := by decide +kernel
theorem dX5_isIllInNumber_38 : decode cX5_isIllInNumber 38 = .ok (.iconst 0, 1) := by decide +kernel
theorem dX5_isIllInNumber_39 : decode cX5_isIllInNumber 39 = .ok (.ireturn, 1) := by decide +kernel
theorem dX5_isIllInNumber_40 : decode cX5_isIllInNumber 40 = .ok (.aload_n 0, 1) := by decide +kernel
theorem dX5_isIllInNumber_41 : decode cX5_isIllInNumber 41 = .ok (.iload_n 2, 1) := by decide +kernel
theorem dX5_isIllInNumber_42 : decode cX5_isIllInNumber 42 = .ok (.invokevirtual 62, 3) := by decide +kernel
theorem dX5_isIllInNumber_45 : decode cX5_isIllInNumber 45 = .ok (.tableswitch 108 5 14 #[55, 108, 108, 106, 108, 76, 108, 108, 108, 106], 55) := by decide +kernel
theorem dX5_isIllInNumber_100 : decode cX5_isIllInNumber 100 = .ok (.aload_n 0, 1) := by decide +kernel
theorem dX5_isIllInNumber_101 : decode cX5_isIllInNumber 101 = .ok (.iconst 5, 1) := by decide +kernel
theorem dX5_isIllInNumber_102 : decode cX5_isIllInNumber 102 = .ok (.aload_n 0, 1) := by decide +kernel
theorem dX5_isIllInNumber_103 : decode cX5_isIllInNumber 103 = .ok (.iload_n 1, 1) := by decide +kernel
theorem dX5_isIllInNumber_104 : decode cX5_isIllInNumber 104 = .ok (.invokevirtual 56, 3) := by decide +kernel
theorem dX5_isIllInNumber_107 : decode cX5_isIllInNumber 107 = .ok (.iload_n 2, 1) := by decide +kernel
theorem dX5_isIllInNumber_108 : decode cX5_isIllInNumber 108 = .ok (.invokevirtual 94, 3) := by decide +kernel
theorem dX5_isIllInNumber_111 : decode cX5_isIllInNumber 111 = .ok (.iconst (-1), 1) := by decide +kernel
theorem dX5_isIllInNumber_112 : decode cX5_isIllInNumber 112 = .ok (.if_icmp .eq 7, 3) := by decide +kernel
theorem dX5_isIllInNumber_115 : decode cX5_isIllInNumber 115 = .ok (.iconst 1, 1) := by decide +kernel
theorem dX5_isIllInNumber_116 : decode cX5_isIllInNumber 116 = .ok (.goto 4, 3) := by decide +kernel
theorem dX5_isIllInNumber_119 : decode cX5_isIllInNumber 119 = .ok (.iconst 0, 1) := by decide +kernel
theorem dX5_isIllInNumber_120 : decode cX5_isIllInNumber 120 = .ok (.ireturn, 1) := by decide +kernel
theorem dX5_isIllInNumber_121 : decode cX5_isIllInNumber 121 = .ok (.aload_n 0, 1) := by decide +kernel
theorem dX5_isIllInNumber_122 : decode cX5_isIllInNumber 122 = .ok (.iload_n 1, 1) := by decide +kernel
theorem dX5_isIllInNumber_123 : decode cX5_isIllInNumber 123 = .ok (.iload_n 2, 1) := by decide +kernel
theorem dX5_isIllInNumber_124 : decode cX5_isIllInNumber 124 = .ok (.iconst 1, 1) := by decide +kernel
theorem dX5_isIllInNumber_125 : decode cX5_isIllInNumber 125 = .ok (.isub, 1) := by decide +kernel
theorem dX5_isIllInNumber_126 : decode cX5_isIllInNumber 126 = .ok (.invokevirtual 53, 3) := by decide +kernel
theorem dX5_isIllInNumber_129 : decode cX5_isIllInNumber 129 = .ok (.iconst 4, 1) := by decide +kernel
theorem dX5_isIllInNumber_130 : decode cX5_isIllInNumber 130 = .ok (.if_icmp .ne 15, 3) := by decide +kernel
theorem dX5_isIllInNumber_133 : decode cX5_isIllInNumber 133 = .ok (.aload_n 0, 1) := by decide +kernel
theorem dX5_isIllInNumber_134 : decode cX5_isIllInNumber 134 = .ok (.iload_n 1, 1) := by decide +kernel
theorem dX5_isIllInNumber_135 : decode cX5_isIllInNumber 135 = .ok (.iload_n 2, 1) := by decide +kernel
theorem dX5_isIllInNumber_136 : decode cX5_isIllInNumber 136 = .ok (.iconst 1, 1) := by decide +kernel
theorem dX5_isIllInNumber_137 : decode cX5_isIllInNumber 137 = .ok (.iadd, 1) := by decide +kernel
theorem dX5_isIllInNumber_138 : decode cX5_isIllInNumber 138 = .ok (.invokevirtual 53, 3) := by decide +kernel
theorem dX5_isIllInNumber_141 : decode cX5_isIllInNumber 141 = .ok (.iconst 4, 1) := by decide +kernel
theorem dX5_isIllInNumber_142 : decode cX5_isIllInNumber 142 = .ok (.if_icmp .eq 7, 3) := by decide +kernel
theorem dX5_isIllInNumber_145 : decode cX5_isIllInNumber 145 = .ok (.iconst 1, 1) := by decide +kernel
theorem dX5_isIllInNumber_146 : decode cX5_isIllInNumber 146 = .ok (.goto 4, 3) := by decide +kernel
theorem dX5_isIllInNumber_149 : decode cX5_isIllInNumber 149 = .ok (.iconst 0, 1) := by decide +kernel
theorem dX5_isIllInNumber_150 : decode cX5_isIllInNumber 150 = .ok (.ireturn, 1) := by decide +kernel
theorem dX5_isIllInNumber_151 : decode cX5_isIllInNumber 151 = .ok (.iconst 1, 1) := by decide +kernel
theorem dX5_isIllInNumber_152 : decode cX5_isIllInNumber 152 = .ok (.ireturn, 1) := by decide +kernel
theorem dX5_isIllInNumber_153 : decode cX5_isIllInNumber 153 = .ok (.iconst 0, 1) := by decide +kernel
theorem dX5_isIllInNumber_154 : decode cX5_isIllInNumber 154 = .ok (.ireturn, 1) := by decide +kernel
theorem dX5_isIllInFraction_0 : decode cX5_isIllInFraction 0 = .ok (.aload_n 0, 1) := by decide +kernel
theorem dX5_isIllInFraction_1 : decode cX5_isIllInFraction 1 = .ok (.iload_n 1, 1) := by decide +kernel
theorem dX5_isIllInFraction_2 : decode cX5_isIllInFraction 2 = .ok (.bipush 8, 2) := by decide +kernel
theorem dX5_isIllInFraction_4 : decode cX5_isIllInFraction 4 = .ok (.invokevirtual 45, 3) := by decide +kernel
theorem dX5_isIllInFraction_7 : decode cX5_isIllInFraction 7 = .ok (.istore_n 3, 1) := by decide +kernel
theorem dX5_isIllInFraction_8 : decode cX5_isIllInFraction 8 = .ok (.aload_n 0, 1) := by decide +kernel
theorem dX5_isIllInFraction_9 : decode cX5_isIllInFraction 9 = .ok (.iload_n 2, 1) := by decide +kernel
theorem dX5_isIllInFraction_10 : decode cX5_isIllInFraction 10 = .ok (.invokevirtual 62, 3) := by decide +kernel
theorem dX5_isIllInFraction_13 : decode cX5_isIllInFraction 13 = .ok (.tableswitch 106 4 14 #[85, 59, 59, 59, 61, 106, 59, 106, 106, 106, 72], 59) := by decide +kernel
theorem dX5_isIllInFraction_72 : decode cX5_isIllInFraction 72 = .ok (.iconst 1, 1) := by decide +kernel
theorem dX5_isIllInFraction_73 : decode cX5_isIllInFraction 73 = .ok (.ireturn, 1) := by decide +kernel
theorem dX5_isIllInFraction_74 : decode cX5_isIllInFraction 74 = .ok (.iload_n 2, 1) := by decide +kernel
theorem dX5_isIllInFraction_75 : decode cX5_isIllInFraction 75 = .ok (.iload_n 3, 1) := by decide +kernel
theorem dX5_isIllInFraction_76 : decode cX5_isIllInFraction 76 = .ok (.if_icmp .eq 7, 3) := by decide +kernel
theorem dX5_isIllInFraction_79 : decode cX5_isIllInFraction 79 = .ok (.iconst 1, 1) := by decide +kernel
theorem dX5_isIllInFraction_80 : decode cX5_isIllInFraction 80 = .ok (.goto 4, 3) := by decide +kernel
theorem dX5_isIllInFraction_83 : decode cX5_isIllInFraction 83 = .ok (.iconst 0, 1) := by decide +kernel
theorem dX5_isIllInFraction_84 : decode cX5_isIllInFraction 84 = .ok (.ireturn, 1) := by decide +kernel
theorem dX5_isIllInFraction_85 : decode cX5_isIllInFraction 85 = .ok (.iload_n 2, 1) := by decide +kernel
theorem dX5_isIllInFraction_86 : decode cX5_isIllInFraction 86 = .ok (.iload_n 3, 1) := by decide +kernel
theorem dX5_isIllInFraction_87 : decode cX5_isIllInFraction 87 = .ok (.iconst 1, 1) := by decide +kernel
theorem dX5_isIllInFraction_88 : decode cX5_isIllInFraction 88 = .ok (.iadd, 1) := by decide +kernel
theorem dX5_isIllInFraction_89 : decode cX5_isIllInFraction 89 = .ok (.if_icmp .eq 7, 3) := by decide +kernel
theorem dX5_isIllInFraction_92 : decode cX5_isIllInFraction 92 = .ok (.iconst 1, 1) := by decide +kernel
theorem dX5_isIllInFraction_93 : decode cX5_isIllInFraction 93 = .ok (.goto 4, 3) := by decide +kernel
theorem dX5_isIllInFraction_96 : decode cX5_isIllInFraction 96 = .ok (.iconst 0, 1) := by decide +kernel
theorem dX5_isIllInFraction_97 : decode cX5_isIllInFraction 97 = .ok (.ireturn, 1) := by decide +kernel
theorem dX5_isIllInFraction_98 : decode cX5_isIllInFraction 98 = .ok (.iload_n 2, 1) := by decide +kernel
theorem dX5_isIllInFraction_99 : decode cX5_isIllInFraction 99 = .ok (.iload_n 3, 1) := by decide +kernel
theorem dX5_isIllInFraction_100 : decode cX5_isIllInFraction 100 = .ok (.if_icmp .le 17, 3) := by decide +kernel
theorem dX5_isIllInFraction_103 : decode cX5_isIllInFraction 103 = .ok (.aload_n 0, 1) := by decide +kernel
theorem dX5_isIllInFraction_104 : decode cX5_isIllInFraction 104 = .ok (.iload_n 1, 1) := by decide +kernel
theorem dX5_isIllInFraction_105 : decode cX5_isIllInFraction 105 = .ok (.iload_n 2, 1) := by decide +kernel
theorem dX5_isIllInFraction_106 : decode cX5_isIllInFraction 106 = .ok (.iload_n 3, 1) := by decide +kernel
theorem dX5_isIllInFraction_107 : decode cX5_isIllInFraction 107 = .ok (.invokestatic 98, 3) := by decide +kernel
theorem dX5_isIllInFraction_110 : decode cX5_isIllInFraction 110 = .ok (.ifCond .ne 7, 3) := by decide +kernel
theorem dX5_isIllInFraction_113 : decode cX5_isIllInFraction 113 = .ok (.iconst 1, 1) := by decide +kernel
theorem dX5_isIllInFraction_114 : decode cX5_isIllInFraction 114 = .ok (.goto 4, 3) := by decide +kernel
theorem dX5_isIllInFraction_117 : decode cX5_isIllInFraction 117 = .ok (.iconst 0, 1) := by decide +kernel
theorem dX5_isIllInFraction_118 : decode cX5_isIllInFraction 118 = .ok (.ireturn, 1) := by decide +kernel
theorem dX5_isIllInFraction_119 : decode cX5_isIllInFraction 119 = .ok (.iconst 0, 1) := by decide +kernel
theorem dX5_isIllInFraction_120 : decode cX5_isIllInFraction 120 = .ok (.ireturn, 1) := by decide +kernel
theorem dX5_isBelowSlash_0 : decode cX5_isBelowSlash 0 = .ok (.iload_n 2, 1) := by decide +kernel
theorem dX5_isBelowSlash_1 : decode cX5_isBelowSlash 1 = .ok (.iload_n 3, 1) := by decide +kernel
theorem dX5_isBelowSlash_2 : decode cX5_isBelowSlash 2 = .ok (.isub, 1) := by decide +kernel
theorem dX5_isBelowSlash_3 : decode cX5_isBelowSlash 3 = .ok (.iconst 3, 1) := by decide +kernel
theorem dX5_isBelowSlash_4 : decode cX5_isBelowSlash 4 = .ok (.if_icmp .gt 26, 3) := by decide +kernel
theorem dX5_isBelowSlash_7 : decode cX5_isBelowSlash 7 = .ok (.iload_n 2, 1) := by decide +kernel
theorem dX5_isBelowSlash_8 : decode cX5_isBelowSlash 8 = .ok (.iload_n 3, 1) := by decide +kernel
theorem dX5_isBelowSlash_9 : decode cX5_isBelowSlash 9 = .ok (.isub, 1) := by decide +kernel
theorem dX5_isBelowSlash_10 : decode cX5_isBelowSlash 10 = .ok (.aload_n 0, 1) := by decide +kernel
theorem dX5_isBelowSlash_11 : decode cX5_isBelowSlash 11 = .ok (.iconst 4, 1) := by decide +kernel
theorem dX5_isBelowSlash_12 : decode cX5_isBelowSlash 12 = .ok (.iload_n 3, 1) := by decide +kernel
theorem dX5_isBelowSlash_13 : decode cX5_isBelowSlash 13 = .ok (.iconst 1, 1) := by decide +kernel
theorem dX5_isBelowSlash_14 : decode cX5_isBelowSlash 14 = .ok (.iadd, 1) := by decide +kernel
theorem dX5_isBelowSlash_15 : decode cX5_isBelowSlash 15 = .ok (.aload_n 0, 1) := by decide +kernel
theorem dX5_isBelowSlash_16 : decode cX5_isBelowSlash 16 = .ok (.iload_n 1, 1) := by decide +kernel
theorem dX5_isBelowSlash_17 : decode cX5_isBelowSlash 17 = .ok (.invokevirtual 59, 3) := by decide +kernel
theorem dX5_isBelowSlash_20 : decode cX5_isBelowSlash 20 = .ok (.invokevirtual 102, 3) := by decide +kernel
theorem dX5_isBelowSlash_23 : decode cX5_isBelowSlash 23 = .ok (.if_icmp .gt 7, 3) := by decide +kernel
theorem dX5_isBelowSlash_26 : decode cX5_isBelowSlash 26 = .ok (.iconst 1, 1) := by decide +kernel
theorem dX5_isBelowSlash_27 : decode cX5_isBelowSlash 27 = .ok (.goto 4, 3) := by decide +kernel
theorem dX5_isBelowSlash_30 : decode cX5_isBelowSlash 30 = .ok (.iconst 0, 1) := by decide +kernel
theorem dX5_isBelowSlash_31 : decode cX5_isBelowSlash 31 = .ok (.ireturn, 1) := by decide +kernel
theorem dX6_init_0 : decode cX6_init 0 = .ok (.aload_n 0, 1) := by decide +kernel
theorem dX6_init_1 : decode cX6_init 1 = .ok (.invokespecial 3, 3) := by decide +kernel
theorem dX6_init_4 : decode cX6_init 4 = .ok (.return_, 1) := by decide +kernel
theorem dX6_put_0 : decode cX6_put 0 = .ok (.aload_n 0, 1) := by decide +kernel
theorem dX6_put_1 : decode cX6_put 1 = .ok (.aload_n 2, 1) := by decide +kernel
theorem dX6_put_2 : decode cX6_put 2 = .ok (.iload_n 3, 1) := by decide +kernel
theorem dX6_put_3 : decode cX6_put 3 = .ok (.invokevirtual 9, 3) := by decide +kernel
theorem dX6_put_6 : decode cX6_put 6 = .ok (.aload_n 1, 1) := by decide +kernel
theorem dX6_put_7 : decode cX6_put 7 = .ok (.invokevirtual 15, 3) := by decide +kernel
theorem dX6_put_10 : decode cX6_put 10 = .ok (.astore 7, 2) := by decide +kernel
theorem dX6_put_12 : decode cX6_put 12 = .ok (.aload 7, 2) := by decide +kernel
theorem dX6_put_14 : decode cX6_put 14 = .ok (.dload 4, 2) := by decide +kernel
theorem dX6_put_16 : decode cX6_put 16 = .ok (.iconst 1, 1) := by decide +kernel
theorem dX6_put_17 : decode cX6_put 17 = .ok (.invokevirtual 21, 3) := by decide +kernel
theorem dX6_put_20 : decode cX6_put 20 = .ok (.aload 7, 2) := by decide +kernel
theorem dX6_put_22 : decode cX6_put 22 = .ok (.iconst 2, 1) := by decide +kernel
theorem dX6_put_23 : decode cX6_put 23 = .ok (.aload_n 2, 1) := by decide +kernel
theorem dX6_put_24 : decode cX6_put 24 = .ok (.bipush 7, 2) := by decide +kernel
theorem dX6_put_26 : decode cX6_put 26 = .ok (.aload_n 2, 1) := by decide +kernel
theorem dX6_put_27 : decode cX6_put 27 = .ok (.iload_n 3, 1) := by decide +kernel
theorem dX6_put_28 : decode cX6_put 28 = .ok (.invokevirtual 27, 3) := by decide +kernel
theorem dX6_put_31 : decode cX6_put 31 = .ok (.aload_n 2, 1) := by decide +kernel
theorem dX6_put_32 : decode cX6_put 32 = .ok (.iload_n 3, 1) := by decide +kernel
theorem dX6_put_33 : decode cX6_put 33 = .ok (.invokevirtual 33, 3) := by decide +kernel
theorem dX6_put_36 : decode cX6_put 36 = .ok (.invokevirtual 36, 3) := by decide +kernel
theorem dX6_put_39 : decode cX6_put 39 = .ok (.imul, 1) := by decide +kernel
theorem dX6_put_40 : decode cX6_put 40 = .ok (.iconst 3, 1) := by decide +kernel
theorem dX6_put_41 : decode cX6_put 41 = .ok (.aload_n 0, 1) := by decide +kernel
theorem dX6_put_42 : decode cX6_put 42 = .ok (.aload_n 2, 1) := by decide +kernel
theorem dX6_put_43 : decode cX6_put 43 = .ok (.iload_n 3, 1) := by decide +kernel
theorem dX6_put_44 : decode cX6_put 44 = .ok (.invokevirtual 40, 3) := by decide +kernel
theorem dX6_put_47 : decode cX6_put 47 = .ok (.imul, 1) := by decide +kernel
theorem dX6_put_48 : decode cX6_put 48 = .ok (.isub, 1) := by decide +kernel
theorem dX6_put_49 : decode cX6_put 49 = .ok (.invokevirtual 44, 3) := by decide +kernel
theorem dX6_put_52 : decode cX6_put 52 = .ok (.aload_n 0, 1) := by decide +kernel
theorem dX6_put_53 : decode cX6_put 53 = .ok (.iconst 0, 1) := by decide +kernel
theorem dX6_put_54 : decode cX6_put 54 = .ok (.putfield 48, 3) := by decide +kernel
theorem dX6_put_57 : decode cX6_put 57 = .ok (.aload_n 0, 1) := by decide +kernel
theorem dX6_put_58 : decode cX6_put 58 = .ok (.getfield 52, 3) := by decide +kernel
theorem dX6_put_61 : decode cX6_put 61 = .ok (.iconst (-1), 1) := by decide +kernel
theorem dX6_put_62 : decode cX6_put 62 = .ok (.if_icmp .ne 15, 3) := by decide +kernel
theorem dX6_put_65 : decode cX6_put 65 = .ok (.aload 7, 2) := by decide +kernel
theorem dX6_put_67 : decode cX6_put 67 = .ok (.aload_n 0, 1) := by decide +kernel
theorem dX6_put_68 : decode cX6_put 68 = .ok (.getfield 55, 3) := by decide +kernel
theorem dX6_put_71 : decode cX6_put 71 = .ok (.invokevirtual 58, 3) := by decide +kernel
theorem dX6_put_74 : decode cX6_put 74 = .ok (.goto 9, 3) := by decide +kernel
theorem dX6_put_77 : decode cX6_put 77 = .ok (.aload_n 0, 1) := by decide +kernel
theorem dX6_put_78 : decode cX6_put 78 = .ok (.aload 7, 2) := by decide +kernel
theorem dX6_put_80 : decode cX6_put 80 = .ok (.invokevirtual 61, 3) := by decide +kernel
theorem dX6_put_83 : decode cX6_put 83 = .ok (.aload_n 0, 1) := by decide +kernel
theorem dX6_put_84 : decode cX6_put 84 = .ok (.aload_n 0, 1) := by decide +kernel
theorem dX6_put_85 : decode cX6_put 85 = .ok (.aload_n 2, 1) := by decide +kernel
theorem dX6_put_86 : decode cX6_put 86 = .ok (.iload_n 3, 1) := by decide +kernel
theorem dX6_put_87 : decode cX6_put 87 = .ok (.aload 7, 2) := by decide +kernel
theorem dX6_put_89 : decode cX6_put 89 = .ok (.invokevirtual 65, 3) := by decide +kernel
theorem dX6_put_92 : decode cX6_put 92 = .ok (.putfield 69, 3) := by decide +kernel
theorem dX6_put_95 : decode cX6_put 95 = .ok (.iload 6, 2) := by decide +kernel
theorem dX6_put_97 : decode cX6_put 97 = .ok (.ifCond .eq 17, 3) := by decide +kernel
theorem dX6_put_100 : decode cX6_put 100 = .ok (.aload 7, 2) := by decide +kernel
theorem dX6_put_102 : decode cX6_put 102 = .ok (.invokevirtual 72, 3) := by decide +kernel
theorem dX6_put_105 : decode cX6_put 105 = .ok (.ifCond .ne 9, 3) := by decide +kernel
theorem dX6_put_108 : decode cX6_put 108 = .ok (.aload_n 1, 1) := by decide +kernel
theorem dX6_put_109 : decode cX6_put 109 = .ok (.bipush 45, 2) := by decide +kernel
theorem dX6_put_111 : decode cX6_put 111 = .ok (.invokevirtual 76, 3) := by decide +kernel
theorem dX6_put_114 : decode cX6_put 114 = .ok (.aload_n 1, 1) := by decide +kernel
theorem dX6_put_115 : decode cX6_put 115 = .ok (.aload_n 2, 1) := by decide +kernel
theorem dX6_put_116 : decode cX6_put 116 = .ok (.aload_n 2, 1) := by decide +kernel
theorem dX6_put_117 : decode cX6_put 117 = .ok (.iload_n 3, 1) := by decide +kernel
theorem dX6_put_118 : decode cX6_put 118 = .ok (.invokevirtual 27, 3) := by decide +kernel
theorem dX6_put_121 : decode cX6_put 121 = .ok (.aload_n 0, 1) := by decide +kernel
theorem dX6_put_122 : decode cX6_put 122 = .ok (.getfield 79, 3) := by decide +kernel
theorem dX6_put_125 : decode cX6_put 125 = .ok (.aload_n 0, 1) := by decide +kernel
theorem dX6_put_126 : decode cX6_put 126 = .ok (.aload_n 2, 1) := by decide +kernel
theorem dX6_put_127 : decode cX6_put 127 = .ok (.iload_n 3, 1) := by decide +kernel
theorem dX6_put_128 : decode cX6_put 128 = .ok (.invokevirtual 82, 3) := by decide +kernel
theorem dX6_put_131 : decode cX6_put 131 = .ok (.invokevirtual 86, 3) := by decide +kernel
theorem dX6_put_134 : decode cX6_put 134 = .ok (.aload_n 2, 1) := by decide +kernel
theorem dX6_put_135 : decode cX6_put 135 = .ok (.iload_n 3, 1) := by decide +kernel
theorem dX6_put_136 : decode cX6_put 136 = .ok (.invokevirtual 27, 3) := by decide +kernel
theorem dX6_put_139 : decode cX6_put 139 = .ok (.istore 8, 2) := by decide +kernel
theorem dX6_put_141 : decode cX6_put 141 = .ok (.iload 8, 2) := by decide +kernel
theorem dX6_put_143 : decode cX6_put 143 = .ok (.aload_n 2, 1) := by decide +kernel
theorem dX6_put_144 : decode cX6_put 144 = .ok (.iload_n 3, 1) := by decide +kernel
theorem dX6_put_145 : decode cX6_put 145 = .ok (.invokevirtual 33, 3) := by decide +kernel
theorem dX6_put_148 : decode cX6_put 148 = .ok (.if_icmp .ge 18, 3) := by decide +kernel
theorem dX6_put_151 : decode cX6_put 151 = .ok (.aload_n 0, 1) := by decide +kernel
theorem dX6_put_152 : decode cX6_put 152 = .ok (.aload_n 1, 1) := by decide +kernel
theorem dX6_put_153 : decode cX6_put 153 = .ok (.aload_n 2, 1) := by decide +kernel
theorem dX6_put_154 : decode cX6_put 154 = .ok (.iload_n 3, 1) := by decide +kernel
theorem dX6_put_155 : decode cX6_put 155 = .ok (.iload 8, 2) := by decide +kernel
theorem dX6_put_157 : decode cX6_put 157 = .ok (.invokevirtual 90, 3) := by decide +kernel
theorem dX6_put_160 : decode cX6_put 160 = .ok (.iinc 8 1, 3) := by decide +kernel
theorem dX6_put_163 : decode cX6_put 163 = .ok (.goto (-22), 3) := by decide +kernel
theorem dX6_put_166 : decode cX6_put 166 = .ok (.return_, 1) := by decide +kernel
theorem dX6_survey_0 : decode cX6_survey 0 = .ok (.aload_n 0, 1) := by decide +kernel
theorem dX6_survey_1 : decode cX6_survey 1 = .ok (.aload_n 1, 1) := by decide +kernel
theorem dX6_survey_2 : decode cX6_survey 2 = .ok (.iload_n 2, 1) := by decide +kernel
theorem dX6_survey_3 : decode cX6_survey 3 = .ok (.iconst 5, 1) := by decide +kernel
theorem dX6_survey_4 : decode cX6_survey 4 = .ok (.invokevirtual 94, 3) := by decide +kernel
theorem dX6_survey_7 : decode cX6_survey 7 = .ok (.putfield 98, 3) := by decide +kernel
theorem dX6_survey_10 : decode cX6_survey 10 = .ok (.aload_n 0, 1) := by decide +kernel
theorem dX6_survey_11 : decode cX6_survey 11 = .ok (.aload_n 1, 1) := by decide +kernel
theorem dX6_survey_12 : decode cX6_survey 12 = .ok (.iload_n 2, 1) := by decide +kernel
theorem dX6_survey_13 : decode cX6_survey 13 = .ok (.bipush 10, 2) := by decide +kernel
theorem dX6_survey_15 : decode cX6_survey 15 = .ok (.invokevirtual 94, 3) := by decide +kernel
theorem dX6_survey_18 : decode cX6_survey 18 = .ok (.putfield 52, 3) := by decide +kernel
theorem dX6_survey_21 : decode cX6_survey 21 = .ok (.aload_n 0, 1) := by decide +kernel
theorem dX6_survey_22 : decode cX6_survey 22 = .ok (.getfield 52, 3) := by decide +kernel
theorem dX6_survey_25 : decode cX6_survey 25 = .ok (.iconst (-1), 1) := by decide +kernel
theorem dX6_survey_26 : decode cX6_survey 26 = .ok (.if_icmp .ne 11, 3) := by decide +kernel
theorem dX6_survey_29 : decode cX6_survey 29 = .ok (.aload_n 1, 1) := by decide +kernel
theorem dX6_survey_30 : decode cX6_survey 30 = .ok (.iload_n 2, 1) := by decide +kernel
theorem dX6_survey_31 : decode cX6_survey 31 = .ok (.invokevirtual 33, 3) := by decide +kernel
theorem dX6_survey_34 : decode cX6_survey 34 = .ok (.goto 7, 3) := by decide +kernel
theorem dX6_survey_37 : decode cX6_survey 37 = .ok (.aload_n 0, 1) := by decide +kernel
theorem dX6_survey_38 : decode cX6_survey 38 = .ok (.getfield 52, 3) := by decide +kernel
theorem dX6_survey_41 : decode cX6_survey 41 = .ok (.istore_n 3, 1) := by decide +kernel
theorem dX6_survey_42 : decode cX6_survey 42 = .ok (.aload_n 0, 1) := by decide +kernel
theorem dX6_survey_43 : decode cX6_survey 43 = .ok (.aload_n 0, 1) := by decide +kernel
theorem dX6_survey_44 : decode cX6_survey 44 = .ok (.getfield 98, 3) := by decide +kernel
theorem dX6_survey_47 : decode cX6_survey 47 = .ok (.iconst (-1), 1) := by decide +kernel
theorem dX6_survey_48 : decode cX6_survey 48 = .ok (.if_icmp .ne 7, 3) := by decide +kernel
theorem dX6_survey_51 : decode cX6_survey 51 = .ok (.iload_n 3, 1) := by decide +kernel
theorem dX6_survey_52 : decode cX6_survey 52 = .ok (.goto 7, 3) := by decide +kernel
theorem dX6_survey_55 : decode cX6_survey 55 = .ok (.aload_n 0, 1) := by decide +kernel
theorem dX6_survey_56 : decode cX6_survey 56 = .ok (.getfield 98, 3) := by decide +kernel
theorem dX6_survey_59 : decode cX6_survey 59 = .ok (.putfield 79, 3) := by decide +kernel
theorem dX6_survey_62 : decode cX6_survey 62 = .ok (.aload_n 0, 1) := by decide +kernel
theorem dX6_survey_63 : decode cX6_survey 63 = .ok (.aload_n 1, 1) := by decide +kernel
theorem dX6_survey_64 : decode cX6_survey 64 = .ok (.iconst 4, 1) := by decide +kernel
theorem dX6_survey_65 : decode cX6_survey 65 = .ok (.aload_n 1, 1) := by decide +kernel
theorem dX6_survey_66 : decode cX6_survey 66 = .ok (.iload_n 2, 1) := by decide +kernel
theorem dX6_survey_67 : decode cX6_survey 67 = .ok (.invokevirtual 27, 3) := by decide +kernel
theorem dX6_survey_70 : decode cX6_survey 70 = .ok (.aload_n 0, 1) := by decide +kernel
theorem dX6_survey_71 : decode cX6_survey 71 = .ok (.getfield 79, 3) := by decide +kernel
theorem dX6_survey_74 : decode cX6_survey 74 = .ok (.invokevirtual 36, 3) := by decide +kernel
theorem dX6_survey_77 : decode cX6_survey 77 = .ok (.putfield 101, 3) := by decide +kernel
theorem dX6_survey_80 : decode cX6_survey 80 = .ok (.aload_n 0, 1) := by decide +kernel
theorem dX6_survey_81 : decode cX6_survey 81 = .ok (.aload_n 1, 1) := by decide +kernel
theorem dX6_survey_82 : decode cX6_survey 82 = .ok (.iconst 4, 1) := by decide +kernel
theorem dX6_survey_83 : decode cX6_survey 83 = .ok (.aload_n 0, 1) := by decide +kernel
theorem dX6_survey_84 : decode cX6_survey 84 = .ok (.getfield 79, 3) := by decide +kernel
theorem dX6_survey_87 : decode cX6_survey 87 = .ok (.iload_n 3, 1) := by decide +kernel
theorem dX6_survey_88 : decode cX6_survey 88 = .ok (.invokevirtual 36, 3) := by decide +kernel
theorem dX6_survey_91 : decode cX6_survey 91 = .ok (.putfield 55, 3) := by decide +kernel
theorem dX6_survey_94 : decode cX6_survey 94 = .ok (.aload_n 0, 1) := by decide +kernel
theorem dX6_survey_95 : decode cX6_survey 95 = .ok (.iconst 0, 1) := by decide +kernel
theorem dX6_survey_96 : decode cX6_survey 96 = .ok (.putfield 104, 3) := by decide +kernel
theorem dX6_survey_99 : decode cX6_survey 99 = .ok (.return_, 1) := by decide +kernel
theorem dX6_thousands_0 : decode cX6_thousands 0 = .ok (.aload_n 1, 1) := by decide +kernel
theorem dX6_thousands_1 : decode cX6_thousands 1 = .ok (.iconst 4, 1) := by decide +kernel
theorem dX6_thousands_2 : decode cX6_thousands 2 = .ok (.aload_n 1, 1) := by decide +kernel
theorem dX6_thousands_3 : decode cX6_thousands 3 = .ok (.iload_n 2, 1) := by decide +kernel
theorem dX6_thousands_4 : decode cX6_thousands 4 = .ok (.invokevirtual 27, 3) := by decide +kernel
theorem dX6_thousands_7 : decode cX6_thousands 7 = .ok (.aload_n 0, 1) := by decide +kernel
theorem dX6_thousands_8 : decode cX6_thousands 8 = .ok (.getfield 79, 3) := by decide +kernel
theorem dX6_thousands_11 : decode cX6_thousands 11 = .ok (.invokevirtual 107, 3) := by decide +kernel
theorem dX6_thousands_14 : decode cX6_thousands 14 = .ok (.istore_n 3, 1) := by decide +kernel
theorem dX6_thousands_15 : decode cX6_thousands 15 = .ok (.iload_n 3, 1) := by decide +kernel
theorem dX6_thousands_16 : decode cX6_thousands 16 = .ok (.iconst (-1), 1) := by decide +kernel
theorem dX6_thousands_17 : decode cX6_thousands 17 = .ok (.if_icmp .ne 7, 3) := by decide +kernel
theorem dX6_thousands_20 : decode cX6_thousands 20 = .ok (.iconst 0, 1) := by decide +kernel
theorem dX6_thousands_21 : decode cX6_thousands 21 = .ok (.goto 16, 3) := by decide +kernel
theorem dX6_thousands_24 : decode cX6_thousands 24 = .ok (.aload_n 1, 1) := by decide +kernel
theorem dX6_thousands_25 : decode cX6_thousands 25 = .ok (.bipush 6, 2) := by decide +kernel
theorem dX6_thousands_27 : decode cX6_thousands 27 = .ok (.iload_n 3, 1) := by decide +kernel
theorem dX6_thousands_28 : decode cX6_thousands 28 = .ok (.iconst 1, 1) := by decide +kernel
theorem dX6_thousands_29 : decode cX6_thousands 29 = .ok (.iadd, 1) := by decide +kernel
theorem dX6_thousands_30 : decode cX6_thousands 30 = .ok (.aload_n 0, 1) := by decide +kernel
theorem dX6_thousands_31 : decode cX6_thousands 31 = .ok (.getfield 79, 3) := by decide +kernel
theorem dX6_thousands_34 : decode cX6_thousands 34 = .ok (.invokevirtual 110, 3) := by decide +kernel
theorem dX6_thousands_37 : decode cX6_thousands 37 = .ok (.ireturn, 1) := by decide +kernel
theorem dX6_hasGroups_0 : decode cX6_hasGroups 0 = .ok (.aload_n 1, 1) := by decide +kernel
theorem dX6_hasGroups_1 : decode cX6_hasGroups 1 = .ok (.iconst 4, 1) := by decide +kernel
theorem dX6_hasGroups_2 : decode cX6_hasGroups 2 = .ok (.aload_n 1, 1) := by decide +kernel
theorem dX6_hasGroups_3 : decode cX6_hasGroups 3 = .ok (.iload_n 2, 1) := by decide +kernel
theorem dX6_hasGroups_4 : decode cX6_hasGroups 4 = .ok (.invokevirtual 27, 3) := by decide +kernel
theorem dX6_hasGroups_7 : decode cX6_hasGroups 7 = .ok (.aload_n 0, 1) := by decide +kernel
theorem dX6_hasGroups_8 : decode cX6_hasGroups 8 = .ok (.getfield 79, 3) := by decide +kernel
theorem dX6_hasGroups_11 : decode cX6_hasGroups 11 = .ok (.invokevirtual 113, 3) := by decide +kernel
theorem dX6_hasGroups_14 : decode cX6_hasGroups 14 = .ok (.istore_n 3, 1) := by decide +kernel
theorem dX6_hasGroups_15 : decode cX6_hasGroups 15 = .ok (.aload_n 1, 1) := by decide +kernel
theorem dX6_hasGroups_16 : decode cX6_hasGroups 16 = .ok (.iconst 4, 1) := by decide +kernel
theorem dX6_hasGroups_17 : decode cX6_hasGroups 17 = .ok (.aload_n 1, 1) := by decide +kernel
theorem dX6_hasGroups_18 : decode cX6_hasGroups 18 = .ok (.iload_n 2, 1) := by decide +kernel
theorem dX6_hasGroups_19 : decode cX6_hasGroups 19 = .ok (.invokevirtual 27, 3) := by decide +kernel
theorem dX6_hasGroups_22 : decode cX6_hasGroups 22 = .ok (.aload_n 0, 1) := by decide +kernel
theorem dX6_hasGroups_23 : decode cX6_hasGroups 23 = .ok (.getfield 79, 3) := by decide +kernel
theorem dX6_hasGroups_26 : decode cX6_hasGroups 26 = .ok (.invokevirtual 107, 3) := by decide +kernel
theorem dX6_hasGroups_29 : decode cX6_hasGroups 29 = .ok (.istore 4, 2) := by decide +kernel
theorem dX6_hasGroups_31 : decode cX6_hasGroups 31 = .ok (.iload_n 3, 1) := by decide +kernel
theorem dX6_hasGroups_32 : decode cX6_hasGroups 32 = .ok (.iconst (-1), 1) := by decide +kernel
theorem dX6_hasGroups_33 : decode cX6_hasGroups 33 = .ok (.if_icmp .eq 20, 3) := by decide +kernel
theorem dX6_hasGroups_36 : decode cX6_hasGroups 36 = .ok (.aload_n 1, 1) := by decide +kernel
theorem dX6_hasGroups_37 : decode cX6_hasGroups 37 = .ok (.bipush 6, 2) := by decide +kernel
theorem dX6_hasGroups_39 : decode cX6_hasGroups 39 = .ok (.iload_n 3, 1) := by decide +kernel
theorem dX6_hasGroups_40 : decode cX6_hasGroups 40 = .ok (.iload 4, 2) := by decide +kernel
theorem dX6_hasGroups_42 : decode cX6_hasGroups 42 = .ok (.invokevirtual 113, 3) := by decide +kernel
theorem dX6_hasGroups_45 : decode cX6_hasGroups 45 = .ok (.iconst (-1), 1) := by decide +kernel
theorem dX6_hasGroups_46 : decode cX6_hasGroups 46 = .ok (.if_icmp .eq 7, 3) := by decide +kernel
theorem dX6_hasGroups_49 : decode cX6_hasGroups 49 = .ok (.iconst 1, 1) := by decide +kernel
theorem dX6_hasGroups_50 : decode cX6_hasGroups 50 = .ok (.goto 4, 3) := by decide +kernel
theorem dX6_hasGroups_53 : decode cX6_hasGroups 53 = .ok (.iconst 0, 1) := by decide +kernel
theorem dX6_hasGroups_54 : decode cX6_hasGroups 54 = .ok (.ireturn, 1) := by decide +kernel
theorem dX6_takePower_0 : decode cX6_takePower 0 = .ok (.aload_n 1, 1) := by decide +kernel
theorem dX6_takePower_1 : decode cX6_takePower 1 = .ok (.invokevirtual 72, 3) := by decide +kernel
theorem dX6_takePower_4 : decode cX6_takePower 4 = .ok (.ifCond .eq 4, 3) := by decide +kernel
theorem dX6_takePower_7 : decode cX6_takePower 7 = .ok (.return_, 1) := by decide +kernel
theorem dX6_takePower_8 : decode cX6_takePower 8 = .ok (.iconst 1, 1) := by decide +kernel
theorem dX6_takePower_9 : decode cX6_takePower 9 = .ok (.aload_n 0, 1) := by decide +kernel
theorem dX6_takePower_10 : decode cX6_takePower 10 = .ok (.getfield 101, 3) := by decide +kernel
theorem dX6_takePower_13 : decode cX6_takePower 13 = .ok (.invokestatic 116, 3) := by decide +kernel
theorem dX6_takePower_16 : decode cX6_takePower 16 = .ok (.istore_n 2, 1) := by decide +kernel
theorem dX6_takePower_17 : decode cX6_takePower 17 = .ok (.aload_n 0, 1) := by decide +kernel
theorem dX6_takePower_18 : decode cX6_takePower 18 = .ok (.aload_n 1, 1) := by decide +kernel
theorem dX6_takePower_19 : decode cX6_takePower 19 = .ok (.invokevirtual 121, 3) := by decide +kernel
theorem dX6_takePower_22 : decode cX6_takePower 22 = .ok (.iload_n 2, 1) := by decide +kernel
theorem dX6_takePower_23 : decode cX6_takePower 23 = .ok (.invokestatic 125, 3) := by decide +kernel
theorem dX6_takePower_26 : decode cX6_takePower 26 = .ok (.iload_n 2, 1) := by decide +kernel
theorem dX6_takePower_27 : decode cX6_takePower 27 = .ok (.imul, 1) := by decide +kernel
theorem dX6_takePower_28 : decode cX6_takePower 28 = .ok (.putfield 48, 3) := by decide +kernel
theorem dX6_takePower_31 : decode cX6_takePower 31 = .ok (.aload_n 1, 1) := by decide +kernel
theorem dX6_takePower_32 : decode cX6_takePower 32 = .ok (.aload_n 0, 1) := by decide +kernel
theorem dX6_takePower_33 : decode cX6_takePower 33 = .ok (.getfield 48, 3) := by decide +kernel
theorem dX6_takePower_36 : decode cX6_takePower 36 = .ok (.ineg, 1) := by decide +kernel
theorem dX6_takePower_37 : decode cX6_takePower 37 = .ok (.invokevirtual 44, 3) := by decide +kernel
theorem dX6_takePower_40 : decode cX6_takePower 40 = .ok (.aload_n 1, 1) := by decide +kernel
theorem dX6_takePower_41 : decode cX6_takePower 41 = .ok (.aload_n 0, 1) := by decide +kernel
theorem dX6_takePower_42 : decode cX6_takePower 42 = .ok (.getfield 55, 3) := by decide +kernel
theorem dX6_takePower_45 : decode cX6_takePower 45 = .ok (.invokevirtual 58, 3) := by decide +kernel
theorem dX6_takePower_48 : decode cX6_takePower 48 = .ok (.aload_n 1, 1) := by decide +kernel
theorem dX6_takePower_49 : decode cX6_takePower 49 = .ok (.invokevirtual 128, 3) := by decide +kernel
theorem dX6_takePower_52 : decode cX6_takePower 52 = .ok (.iload_n 2, 1) := by decide +kernel
theorem dX6_takePower_53 : decode cX6_takePower 53 = .ok (.if_icmp .le 19, 3) := by decide +kernel
theorem dX6_takePower_56 : decode cX6_takePower 56 = .ok (.aload_n 0, 1) := by decide +kernel
theorem dX6_takePower_57 : decode cX6_takePower 57 = .ok (.dup, 1) := by decide +kernel
theorem dX6_takePower_58 : decode cX6_takePower 58 = .ok (.getfield 48, 3) := by decide +kernel
theorem dX6_takePower_61 : decode cX6_takePower 61 = .ok (.iload_n 2, 1) := by decide +kernel
theorem dX6_takePower_62 : decode cX6_takePower 62 = .ok (.iadd, 1) := by decide +kernel
theorem dX6_takePower_63 : decode cX6_takePower 63 = .ok (.putfield 48, 3) := by decide +kernel
theorem dX6_takePower_66 : decode cX6_takePower 66 = .ok (.aload_n 1, 1) := by decide +kernel
theorem dX6_takePower_67 : decode cX6_takePower 67 = .ok (.iload_n 2, 1) := by decide +kernel
theorem dX6_takePower_68 : decode cX6_takePower 68 = .ok (.ineg, 1) := by decide +kernel
theorem dX6_takePower_69 : decode cX6_takePower 69 = .ok (.invokevirtual 44, 3) := by decide +kernel
theorem dX6_takePower_72 : decode cX6_takePower 72 = .ok (.return_, 1) := by decide +kernel
theorem dX6_findLastDecimal_0 : decode cX6_findLastDecimal 0 = .ok (.iconst 0, 1) := by decide +kernel
theorem dX6_findLastDecimal_1 : decode cX6_findLastDecimal 1 = .ok (.istore 4, 2) := by decide +kernel
theorem dX6_findLastDecimal_3 : decode cX6_findLastDecimal 3 = .ok (.iconst 0, 1) := by decide +kernel
theorem dX6_findLastDecimal_4 : decode cX6_findLastDecimal 4 = .ok (.istore 5, 2) := by decide +kernel
theorem dX6_findLastDecimal_6 : decode cX6_findLastDecimal 6 = .ok (.aload_n 0, 1) := by decide +kernel
theorem dX6_findLastDecimal_7 : decode cX6_findLastDecimal 7 = .ok (.getfield 79, 3) := by decide +kernel
theorem dX6_findLastDecimal_10 : decode cX6_findLastDecimal 10 = .ok (.istore 6, 2) := by decide +kernel
theorem dX6_findLastDecimal_12 : decode cX6_findLastDecimal 12 = .ok (.iload 6, 2) := by decide +kernel
theorem dX6_findLastDecimal_14 : decode cX6_findLastDecimal 14 = .ok (.aload_n 1, 1) := by decide +kernel
theorem dX6_findLastDecimal_15 : decode cX6_findLastDecimal 15 = .ok (.iload_n 2, 1) := by decide +kernel
theorem dX6_findLastDecimal_16 : decode cX6_findLastDecimal 16 = .ok (.invokevirtual 33, 3) := by decide +kernel
theorem dX6_findLastDecimal_19 : decode cX6_findLastDecimal 19 = .ok (.if_icmp .ge 59, 3) := by decide +kernel
theorem dX6_findLastDecimal_22 : decode cX6_findLastDecimal 22 = .ok (.iload 5, 2) := by decide +kernel
theorem dX6_findLastDecimal_24 : decode cX6_findLastDecimal 24 = .ok (.aload_n 0, 1) := by decide +kernel
theorem dX6_findLastDecimal_25 : decode cX6_findLastDecimal 25 = .ok (.getfield 55, 3) := by decide +kernel
theorem dX6_findLastDecimal_28 : decode cX6_findLastDecimal 28 = .ok (.if_icmp .ge 50, 3) := by decide +kernel
theorem dX6_findLastDecimal_31 : decode cX6_findLastDecimal 31 = .ok (.aload_n 1, 1) := by decide +kernel
theorem dX6_findLastDecimal_32 : decode cX6_findLastDecimal 32 = .ok (.iload 6, 2) := by decide +kernel
theorem dX6_findLastDecimal_34 : decode cX6_findLastDecimal 34 = .ok (.invokevirtual 131, 3) := by decide +kernel
theorem dX6_findLastDecimal_37 : decode cX6_findLastDecimal 37 = .ok (.iconst 4, 1) := by decide +kernel
theorem dX6_findLastDecimal_38 : decode cX6_findLastDecimal 38 = .ok (.if_icmp .eq 6, 3) := by decide +kernel
theorem dX6_findLastDecimal_41 : decode cX6_findLastDecimal 41 = .ok (.goto 31, 3) := by decide +kernel
theorem dX6_findLastDecimal_44 : decode cX6_findLastDecimal 44 = .ok (.iinc 5 1, 3) := by decide +kernel
theorem dX6_findLastDecimal_47 : decode cX6_findLastDecimal 47 = .ok (.aload_n 1, 1) := by decide +kernel
theorem dX6_findLastDecimal_48 : decode cX6_findLastDecimal 48 = .ok (.iload 6, 2) := by decide +kernel
theorem dX6_findLastDecimal_50 : decode cX6_findLastDecimal 50 = .ok (.invokevirtual 134, 3) := by decide +kernel
theorem dX6_findLastDecimal_53 : decode cX6_findLastDecimal 53 = .ok (.bipush 48, 2) := by decide +kernel
theorem dX6_findLastDecimal_55 : decode cX6_findLastDecimal 55 = .ok (.if_icmp .eq 13, 3) := by decide +kernel
theorem dX6_findLastDecimal_58 : decode cX6_findLastDecimal 58 = .ok (.aload_n 3, 1) := by decide +kernel
theorem dX6_findLastDecimal_59 : decode cX6_findLastDecimal 59 = .ok (.iload 5, 2) := by decide +kernel
theorem dX6_findLastDecimal_61 : decode cX6_findLastDecimal 61 = .ok (.ineg, 1) := by decide +kernel
theorem dX6_findLastDecimal_62 : decode cX6_findLastDecimal 62 = .ok (.invokevirtual 137, 3) := by decide +kernel
theorem dX6_findLastDecimal_65 : decode cX6_findLastDecimal 65 = .ok (.ifCond .eq 7, 3) := by decide +kernel
theorem dX6_findLastDecimal_68 : decode cX6_findLastDecimal 68 = .ok (.iload 5, 2) := by decide +kernel
theorem dX6_findLastDecimal_70 : decode cX6_findLastDecimal 70 = .ok (.istore 4, 2) := by decide +kernel
theorem dX6_findLastDecimal_72 : decode cX6_findLastDecimal 72 = .ok (.iinc 6 1, 3) := by decide +kernel
theorem dX6_findLastDecimal_75 : decode cX6_findLastDecimal 75 = .ok (.goto (-63), 3) := by decide +kernel
theorem dX6_findLastDecimal_78 : decode cX6_findLastDecimal 78 = .ok (.iload 4, 2) := by decide +kernel
theorem dX6_findLastDecimal_80 : decode cX6_findLastDecimal 80 = .ok (.ireturn, 1) := by decide +kernel
theorem dX6_putItem_0 : decode cX6_putItem 0 = .ok (.aload_n 2, 1) := by decide +kernel
theorem dX6_putItem_1 : decode cX6_putItem 1 = .ok (.iload 4, 2) := by decide +kernel
theorem dX6_putItem_3 : decode cX6_putItem 3 = .ok (.invokevirtual 134, 3) := by decide +kernel
theorem dX6_putItem_6 : decode cX6_putItem 6 = .ok (.istore 5, 2) := by decide +kernel
theorem dX6_putItem_8 : decode cX6_putItem 8 = .ok (.aload_n 2, 1) := by decide +kernel
theorem dX6_putItem_9 : decode cX6_putItem 9 = .ok (.iload 4, 2) := by decide +kernel
theorem dX6_putItem_11 : decode cX6_putItem 11 = .ok (.invokevirtual 131, 3) := by decide +kernel
theorem dX6_putItem_14 : decode cX6_putItem 14 = .ok (.tableswitch 131 2 10 #[128, 131, 50, 95, 128, 131, 131, 131, 116], 50) := by decide +kernel
theorem dX6_putItem_64 : decode cX6_putItem 64 = .ok (.iload 4, 2) := by decide +kernel
theorem dX6_putItem_66 : decode cX6_putItem 66 = .ok (.aload_n 0, 1) := by decide +kernel
theorem dX6_putItem_67 : decode cX6_putItem 67 = .ok (.getfield 79, 3) := by decide +kernel
theorem dX6_putItem_70 : decode cX6_putItem 70 = .ok (.if_icmp .lt 20, 3) := by decide +kernel
theorem dX6_putItem_73 : decode cX6_putItem 73 = .ok (.aload_n 0, 1) := by decide +kernel
theorem dX6_putItem_74 : decode cX6_putItem 74 = .ok (.getfield 52, 3) := by decide +kernel
theorem dX6_putItem_77 : decode cX6_putItem 77 = .ok (.iconst (-1), 1) := by decide +kernel
theorem dX6_putItem_78 : decode cX6_putItem 78 = .ok (.if_icmp .eq 21, 3) := by decide +kernel
theorem dX6_putItem_81 : decode cX6_putItem 81 = .ok (.iload 4, 2) := by decide +kernel
theorem dX6_putItem_83 : decode cX6_putItem 83 = .ok (.aload_n 0, 1) := by decide +kernel
theorem dX6_putItem_84 : decode cX6_putItem 84 = .ok (.getfield 52, 3) := by decide +kernel
theorem dX6_putItem_87 : decode cX6_putItem 87 = .ok (.if_icmp .le 12, 3) := by decide +kernel
theorem dX6_putItem_90 : decode cX6_putItem 90 = .ok (.aload_n 1, 1) := by decide +kernel
theorem dX6_putItem_91 : decode cX6_putItem 91 = .ok (.iload 5, 2) := by decide +kernel
theorem dX6_putItem_93 : decode cX6_putItem 93 = .ok (.invokevirtual 140, 3) := by decide +kernel
theorem dX6_putItem_96 : decode cX6_putItem 96 = .ok (.goto 55, 3) := by decide +kernel
theorem dX6_putItem_99 : decode cX6_putItem 99 = .ok (.aload_n 0, 1) := by decide +kernel
theorem dX6_putItem_100 : decode cX6_putItem 100 = .ok (.aload_n 1, 1) := by decide +kernel
theorem dX6_putItem_101 : decode cX6_putItem 101 = .ok (.iload 5, 2) := by decide +kernel
theorem dX6_putItem_103 : decode cX6_putItem 103 = .ok (.invokevirtual 143, 3) := by decide +kernel
theorem dX6_putItem_106 : decode cX6_putItem 106 = .ok (.goto 45, 3) := by decide +kernel
theorem dX6_putItem_109 : decode cX6_putItem 109 = .ok (.aload_n 0, 1) := by decide +kernel
theorem dX6_putItem_110 : decode cX6_putItem 110 = .ok (.getfield 101, 3) := by decide +kernel
theorem dX6_putItem_113 : decode cX6_putItem 113 = .ok (.ifCond .ne 8, 3) := by decide +kernel
theorem dX6_putItem_116 : decode cX6_putItem 116 = .ok (.aload_n 1, 1) := by decide +kernel
theorem dX6_putItem_117 : decode cX6_putItem 117 = .ok (.iconst 0, 1) := by decide +kernel
theorem dX6_putItem_118 : decode cX6_putItem 118 = .ok (.invokevirtual 147, 3) := by decide +kernel
theorem dX6_putItem_121 : decode cX6_putItem 121 = .ok (.aload_n 1, 1) := by decide +kernel
theorem dX6_putItem_122 : decode cX6_putItem 122 = .ok (.bipush 46, 2) := by decide +kernel
theorem dX6_putItem_124 : decode cX6_putItem 124 = .ok (.invokevirtual 76, 3) := by decide +kernel
theorem dX6_putItem_127 : decode cX6_putItem 127 = .ok (.goto 24, 3) := by decide +kernel
theorem dX6_putItem_130 : decode cX6_putItem 130 = .ok (.aload_n 0, 1) := by decide +kernel
theorem dX6_putItem_131 : decode cX6_putItem 131 = .ok (.aload_n 1, 1) := by decide +kernel
theorem dX6_putItem_132 : decode cX6_putItem 132 = .ok (.aload_n 2, 1) := by decide +kernel
theorem dX6_putItem_133 : decode cX6_putItem 133 = .ok (.iload_n 3, 1) := by decide +kernel
theorem dX6_putItem_134 : decode cX6_putItem 134 = .ok (.iload 5, 2) := by decide +kernel
theorem dX6_putItem_136 : decode cX6_putItem 136 = .ok (.invokevirtual 150, 3) := by decide +kernel
theorem dX6_putItem_139 : decode cX6_putItem 139 = .ok (.goto 12, 3) := by decide +kernel
theorem dX6_putItem_142 : decode cX6_putItem 142 = .ok (.goto 9, 3) := by decide +kernel
theorem dX6_putItem_145 : decode cX6_putItem 145 = .ok (.aload_n 1, 1) := by decide +kernel
theorem dX6_putItem_146 : decode cX6_putItem 146 = .ok (.iload 5, 2) := by decide +kernel
theorem dX6_putItem_148 : decode cX6_putItem 148 = .ok (.invokevirtual 76, 3) := by decide +kernel
theorem dX6_putItem_151 : decode cX6_putItem 151 = .ok (.return_, 1) := by decide +kernel
theorem dX6_putDecimal_0 : decode cX6_putDecimal 0 = .ok (.aload_n 0, 1) := by decide +kernel
theorem dX6_putDecimal_1 : decode cX6_putDecimal 1 = .ok (.dup, 1) := by decide +kernel
theorem dX6_putDecimal_2 : decode cX6_putDecimal 2 = .ok (.getfield 104, 3) := by decide +kernel
theorem dX6_putDecimal_5 : decode cX6_putDecimal 5 = .ok (.iconst 1, 1) := by decide +kernel
theorem dX6_putDecimal_6 : decode cX6_putDecimal 6 = .ok (.iadd, 1) := by decide +kernel
theorem dX6_putDecimal_7 : decode cX6_putDecimal 7 = .ok (.putfield 104, 3) := by decide +kernel
theorem dX6_putDecimal_10 : decode cX6_putDecimal 10 = .ok (.aload_n 0, 1) := by decide +kernel
theorem dX6_putDecimal_11 : decode cX6_putDecimal 11 = .ok (.getfield 104, 3) := by decide +kernel
theorem dX6_putDecimal_14 : decode cX6_putDecimal 14 = .ok (.aload_n 0, 1) := by decide +kernel
theorem dX6_putDecimal_15 : decode cX6_putDecimal 15 = .ok (.getfield 69, 3) := by decide +kernel
theorem dX6_putDecimal_18 : decode cX6_putDecimal 18 = .ok (.if_icmp .gt 25, 3) := by decide +kernel
theorem dX6_putDecimal_21 : decode cX6_putDecimal 21 = .ok (.aload_n 1, 1) := by decide +kernel
theorem dX6_putDecimal_22 : decode cX6_putDecimal 22 = .ok (.bipush 48, 2) := by decide +kernel
theorem dX6_putDecimal_24 : decode cX6_putDecimal 24 = .ok (.aload_n 1, 1) := by decide +kernel
theorem dX6_putDecimal_25 : decode cX6_putDecimal 25 = .ok (.invokevirtual 15, 3) := by decide +kernel
theorem dX6_putDecimal_28 : decode cX6_putDecimal 28 = .ok (.aload_n 0, 1) := by decide +kernel
theorem dX6_putDecimal_29 : decode cX6_putDecimal 29 = .ok (.getfield 104, 3) := by decide +kernel
theorem dX6_putDecimal_32 : decode cX6_putDecimal 32 = .ok (.ineg, 1) := by decide +kernel
theorem dX6_putDecimal_33 : decode cX6_putDecimal 33 = .ok (.invokevirtual 137, 3) := by decide +kernel
theorem dX6_putDecimal_36 : decode cX6_putDecimal 36 = .ok (.iadd, 1) := by decide +kernel
theorem dX6_putDecimal_37 : decode cX6_putDecimal 37 = .ok (.invokevirtual 76, 3) := by decide +kernel
theorem dX6_putDecimal_40 : decode cX6_putDecimal 40 = .ok (.goto 15, 3) := by decide +kernel
theorem dX6_putDecimal_43 : decode cX6_putDecimal 43 = .ok (.iload_n 2, 1) := by decide +kernel
theorem dX6_putDecimal_44 : decode cX6_putDecimal 44 = .ok (.bipush 63, 2) := by decide +kernel
theorem dX6_putDecimal_46 : decode cX6_putDecimal 46 = .ok (.if_icmp .ne 9, 3) := by decide +kernel
theorem dX6_putDecimal_49 : decode cX6_putDecimal 49 = .ok (.aload_n 1, 1) := by decide +kernel
theorem dX6_putDecimal_50 : decode cX6_putDecimal 50 = .ok (.bipush 32, 2) := by decide +kernel
theorem dX6_putDecimal_52 : decode cX6_putDecimal 52 = .ok (.invokevirtual 76, 3) := by decide +kernel
theorem dX6_putDecimal_55 : decode cX6_putDecimal 55 = .ok (.return_, 1) := by decide +kernel
theorem dX6_startPower_0 : decode cX6_startPower 0 = .ok (.aload_n 1, 1) := by decide +kernel
theorem dX6_startPower_1 : decode cX6_startPower 1 = .ok (.bipush 69, 2) := by decide +kernel
theorem dX6_startPower_3 : decode cX6_startPower 3 = .ok (.invokevirtual 76, 3) := by decide +kernel
theorem dX6_startPower_6 : decode cX6_startPower 6 = .ok (.aload_n 0, 1) := by decide +kernel
theorem dX6_startPower_7 : decode cX6_startPower 7 = .ok (.getfield 48, 3) := by decide +kernel
theorem dX6_startPower_10 : decode cX6_startPower 10 = .ok (.ifCond .ge 12, 3) := by decide +kernel
theorem dX6_startPower_13 : decode cX6_startPower 13 = .ok (.aload_n 1, 1) := by decide +kernel
theorem dX6_startPower_14 : decode cX6_startPower 14 = .ok (.bipush 45, 2) := by decide +kernel
theorem dX6_startPower_16 : decode cX6_startPower 16 = .ok (.invokevirtual 76, 3) := by decide +kernel
theorem dX6_startPower_19 : decode cX6_startPower 19 = .ok (.goto 16, 3) := by decide +kernel
theorem dX6_startPower_22 : decode cX6_startPower 22 = .ok (.iload 4, 2) := by decide +kernel
theorem dX6_startPower_24 : decode cX6_startPower 24 = .ok (.bipush 43, 2) := by decide +kernel
theorem dX6_startPower_26 : decode cX6_startPower 26 = .ok (.if_icmp .ne 9, 3) := by decide +kernel
theorem dX6_startPower_29 : decode cX6_startPower 29 = .ok (.aload_n 1, 1) := by decide +kernel
theorem dX6_startPower_30 : decode cX6_startPower 30 = .ok (.bipush 43, 2) := by decide +kernel
theorem dX6_startPower_32 : decode cX6_startPower 32 = .ok (.invokevirtual 76, 3) := by decide +kernel
theorem dX6_startPower_35 : decode cX6_startPower 35 = .ok (.aload_n 1, 1) := by decide +kernel
theorem dX6_startPower_36 : decode cX6_startPower 36 = .ok (.invokevirtual 15, 3) := by decide +kernel
theorem dX6_startPower_39 : decode cX6_startPower 39 = .ok (.aload_n 0, 1) := by decide +kernel
theorem dX6_startPower_40 : decode cX6_startPower 40 = .ok (.getfield 48, 3) := by decide +kernel
theorem dX6_startPower_43 : decode cX6_startPower 43 = .ok (.invokestatic 153, 3) := by decide +kernel
theorem dX6_startPower_46 : decode cX6_startPower 46 = .ok (.i2l, 1) := by decide +kernel
theorem dX6_startPower_47 : decode cX6_startPower 47 = .ok (.invokevirtual 156, 3) := by decide +kernel
theorem dX6_startPower_50 : decode cX6_startPower 50 = .ok (.aload_n 1, 1) := by decide +kernel
theorem dX6_startPower_51 : decode cX6_startPower 51 = .ok (.aload_n 2, 1) := by decide +kernel
theorem dX6_startPower_52 : decode cX6_startPower 52 = .ok (.aload_n 0, 1) := by decide +kernel
theorem dX6_startPower_53 : decode cX6_startPower 53 = .ok (.getfield 52, 3) := by decide +kernel
theorem dX6_startPower_56 : decode cX6_startPower 56 = .ok (.iconst 1, 1) := by decide +kernel
theorem dX6_startPower_57 : decode cX6_startPower 57 = .ok (.iadd, 1) := by decide +kernel
theorem dX6_startPower_58 : decode cX6_startPower 58 = .ok (.aload_n 2, 1) := by decide +kernel
theorem dX6_startPower_59 : decode cX6_startPower 59 = .ok (.iload_n 3, 1) := by decide +kernel
theorem dX6_startPower_60 : decode cX6_startPower 60 = .ok (.invokevirtual 33, 3) := by decide +kernel
theorem dX6_startPower_63 : decode cX6_startPower 63 = .ok (.iconst 0, 1) := by decide +kernel
theorem dX6_startPower_64 : decode cX6_startPower 64 = .ok (.invokevirtual 86, 3) := by decide +kernel
theorem dX6_startPower_67 : decode cX6_startPower 67 = .ok (.return_, 1) := by decide +kernel
theorem dX7_init_0 : decode cX7_init 0 = .ok (.aload_n 0, 1) := by decide +kernel
theorem dX7_init_1 : decode cX7_init 1 = .ok (.invokespecial 3, 3) := by decide +kernel
theorem dX7_init_4 : decode cX7_init 4 = .ok (.aload_n 0, 1) := by decide +kernel
theorem dX7_init_5 : decode cX7_init 5 = .ok (.new 9, 3) := by decide +kernel
theorem dX7_init_8 : decode cX7_init 8 = .ok (.dup, 1) := by decide +kernel
theorem dX7_init_9 : decode cX7_init 9 = .ok (.invokespecial 11, 3) := by decide +kernel
theorem dX7_init_12 : decode cX7_init 12 = .ok (.putfield 12, 3) := by decide +kernel
theorem dX7_init_15 : decode cX7_init 15 = .ok (.aload_n 0, 1) := by decide +kernel
theorem dX7_init_16 : decode cX7_init 16 = .ok (.sipush 1024, 3) := by decide +kernel
theorem dX7_init_19 : decode cX7_init 19 = .ok (.newarray .int, 2) := by decide +kernel
theorem dX7_init_21 : decode cX7_init 21 = .ok (.putfield 18, 3) := by decide +kernel
theorem dX7_init_24 : decode cX7_init 24 = .ok (.aload_n 0, 1) := by decide +kernel
theorem dX7_init_25 : decode cX7_init 25 = .ok (.bipush 20, 2) := by decide +kernel
theorem dX7_init_27 : decode cX7_init 27 = .ok (.newarray .int, 2) := by decide +kernel
theorem dX7_init_29 : decode cX7_init 29 = .ok (.putfield 22, 3) := by decide +kernel
theorem dX7_init_32 : decode cX7_init 32 = .ok (.return_, 1) := by decide +kernel
theorem dX7_decimal_0 : decode cX7_decimal 0 = .ok (.aload_n 0, 1) := by decide +kernel
theorem dX7_decimal_1 : decode cX7_decimal 1 = .ok (.getfield 12, 3) := by decide +kernel
theorem dX7_decimal_4 : decode cX7_decimal 4 = .ok (.areturn, 1) := by decide +kernel
theorem dX7_clear_0 : decode cX7_clear 0 = .ok (.aload_n 0, 1) := by decide +kernel
theorem dX7_clear_1 : decode cX7_clear 1 = .ok (.iconst 0, 1) := by decide +kernel
theorem dX7_clear_2 : decode cX7_clear 2 = .ok (.putfield 25, 3) := by decide +kernel
theorem dX7_clear_5 : decode cX7_clear 5 = .ok (.return_, 1) := by decide +kernel
theorem dX7_length_0 : decode cX7_length 0 = .ok (.aload_n 0, 1) := by decide +kernel
theorem dX7_length_1 : decode cX7_length 1 = .ok (.getfield 25, 3) := by decide +kernel
theorem dX7_length_4 : decode cX7_length 4 = .ok (.ireturn, 1) := by decide +kernel
theorem dX7_at_0 : decode cX7_at 0 = .ok (.iload_n 1, 1) := by decide +kernel
theorem dX7_at_1 : decode cX7_at 1 = .ok (.ifCond .lt 29, 3) := by decide +kernel
theorem dX7_at_4 : decode cX7_at 4 = .ok (.iload_n 1, 1) := by decide +kernel
theorem dX7_at_5 : decode cX7_at 5 = .ok (.aload_n 0, 1) := by decide +kernel
theorem dX7_at_6 : decode cX7_at 6 = .ok (.getfield 25, 3) := by decide +kernel
theorem dX7_at_9 : decode cX7_at 9 = .ok (.if_icmp .ge 21, 3) := by decide +kernel
theorem dX7_at_12 : decode cX7_at 12 = .ok (.iload_n 1, 1) := by decide +kernel
theorem dX7_at_13 : decode cX7_at 13 = .ok (.aload_n 0, 1) := by decide +kernel
theorem dX7_at_14 : decode cX7_at 14 = .ok (.getfield 18, 3) := by decide +kernel
theorem dX7_at_17 : decode cX7_at 17 = .ok (.arraylength, 1) := by decide +kernel
theorem dX7_at_18 : decode cX7_at 18 = .ok (.if_icmp .ge 12, 3) := by decide +kernel
theorem dX7_at_21 : decode cX7_at 21 = .ok (.aload_n 0, 1) := by decide +kernel
theorem dX7_at_22 : decode cX7_at 22 = .ok (.getfield 18, 3) := by decide +kernel
theorem dX7_at_25 : decode cX7_at 25 = .ok (.iload_n 1, 1) := by decide +kernel
theorem dX7_at_26 : decode cX7_at 26 = .ok (.iaload, 1) := by decide +kernel
theorem dX7_at_27 : decode cX7_at 27 = .ok (.goto 4, 3) := by decide +kernel
theorem dX7_at_30 : decode cX7_at 30 = .ok (.iconst (-1), 1) := by decide +kernel
theorem dX7_at_31 : decode cX7_at 31 = .ok (.ireturn, 1) := by decide +kernel
theorem dX7_add_0 : decode cX7_add 0 = .ok (.aload_n 0, 1) := by decide +kernel
theorem dX7_add_1 : decode cX7_add 1 = .ok (.getfield 25, 3) := by decide +kernel
theorem dX7_add_4 : decode cX7_add 4 = .ok (.aload_n 0, 1) := by decide +kernel
theorem dX7_add_5 : decode cX7_add 5 = .ok (.getfield 18, 3) := by decide +kernel
theorem dX7_add_8 : decode cX7_add 8 = .ok (.arraylength, 1) := by decide +kernel
theorem dX7_add_9 : decode cX7_add 9 = .ok (.if_icmp .ge 23, 3) := by decide +kernel
theorem dX7_add_12 : decode cX7_add 12 = .ok (.aload_n 0, 1) := by decide +kernel
theorem dX7_add_13 : decode cX7_add 13 = .ok (.getfield 18, 3) := by decide +kernel
theorem dX7_add_16 : decode cX7_add 16 = .ok (.aload_n 0, 1) := by decide +kernel
theorem dX7_add_17 : decode cX7_add 17 = .ok (.getfield 25, 3) := by decide +kernel
theorem dX7_add_20 : decode cX7_add 20 = .ok (.iload_n 1, 1) := by decide +kernel
theorem dX7_add_21 : decode cX7_add 21 = .ok (.iastore, 1) := by decide +kernel
theorem dX7_add_22 : decode cX7_add 22 = .ok (.aload_n 0, 1) := by decide +kernel
theorem dX7_add_23 : decode cX7_add 23 = .ok (.dup, 1) := by decide +kernel
theorem dX7_add_24 : decode cX7_add 24 = .ok (.getfield 25, 3) := by decide +kernel
theorem dX7_add_27 : decode cX7_add 27 = .ok (.iconst 1, 1) := by decide +kernel
theorem dX7_add_28 : decode cX7_add 28 = .ok (.iadd, 1) := by decide +kernel
theorem dX7_add_29 : decode cX7_add 29 = .ok (.putfield 25, 3) := by decide +kernel
theorem dX7_add_32 : decode cX7_add 32 = .ok (.return_, 1) := by decide +kernel
theorem dX7_addWord_0 : decode cX7_addWord 0 = .ok (.iconst 0, 1) := by decide +kernel
theorem dX7_addWord_1 : decode cX7_addWord 1 = .ok (.istore_n 2, 1) := by decide +kernel
theorem dX7_addWord_2 : decode cX7_addWord 2 = .ok (.iload_n 2, 1) := by decide +kernel
theorem dX7_addWord_3 : decode cX7_addWord 3 = .ok (.aload_n 1, 1) := by decide +kernel
theorem dX7_addWord_4 : decode cX7_addWord 4 = .ok (.invokevirtual 29, 3) := by decide +kernel
theorem dX7_addWord_7 : decode cX7_addWord 7 = .ok (.if_icmp .ge 18, 3) := by decide +kernel
theorem dX7_addWord_10 : decode cX7_addWord 10 = .ok (.aload_n 0, 1) := by decide +kernel
theorem dX7_addWord_11 : decode cX7_addWord 11 = .ok (.aload_n 1, 1) := by decide +kernel
theorem dX7_addWord_12 : decode cX7_addWord 12 = .ok (.iload_n 2, 1) := by decide +kernel
theorem dX7_addWord_13 : decode cX7_addWord 13 = .ok (.invokevirtual 34, 3) := by decide +kernel
theorem dX7_addWord_16 : decode cX7_addWord 16 = .ok (.invokevirtual 38, 3) := by decide +kernel
theorem dX7_addWord_19 : decode cX7_addWord 19 = .ok (.iinc 2 1, 3) := by decide +kernel
theorem dX7_addWord_22 : decode cX7_addWord 22 = .ok (.goto (-20), 3) := by decide +kernel
theorem dX7_addWord_25 : decode cX7_addWord 25 = .ok (.return_, 1) := by decide +kernel
theorem dX7_addText_0 : decode cX7_addText 0 = .ok (.iconst 0, 1) := by decide +kernel
theorem dX7_addText_1 : decode cX7_addText 1 = .ok (.istore_n 2, 1) := by decide +kernel
theorem dX7_addText_2 : decode cX7_addText 2 = .ok (.iload_n 2, 1) := by decide +kernel
theorem dX7_addText_3 : decode cX7_addText 3 = .ok (.aload_n 1, 1) := by decide +kernel
theorem dX7_addText_4 : decode cX7_addText 4 = .ok (.invokevirtual 42, 3) := by decide +kernel
theorem dX7_addText_7 : decode cX7_addText 7 = .ok (.if_icmp .ge 18, 3) := by decide +kernel
theorem dX7_addText_10 : decode cX7_addText 10 = .ok (.aload_n 0, 1) := by decide +kernel
theorem dX7_addText_11 : decode cX7_addText 11 = .ok (.aload_n 1, 1) := by decide +kernel
theorem dX7_addText_12 : decode cX7_addText 12 = .ok (.iload_n 2, 1) := by decide +kernel
theorem dX7_addText_13 : decode cX7_addText 13 = .ok (.invokevirtual 45, 3) := by decide +kernel
theorem dX7_addText_16 : decode cX7_addText 16 = .ok (.invokevirtual 38, 3) := by decide +kernel
theorem dX7_addText_19 : decode cX7_addText 19 = .ok (.iinc 2 1, 3) := by decide +kernel
theorem dX7_addText_22 : decode cX7_addText 22 = .ok (.goto (-20), 3) := by decide +kernel
theorem dX7_addText_25 : decode cX7_addText 25 = .ok (.return_, 1) := by decide +kernel
theorem dX7_addNumber_0 : decode cX7_addNumber 0 = .ok (.iconst 0, 1) := by decide +kernel
theorem dX7_addNumber_1 : decode cX7_addNumber 1 = .ok (.istore 4, 2) := by decide +kernel
theorem dX7_addNumber_3 : decode cX7_addNumber 3 = .ok (.lload_n 1, 1) := by decide +kernel
theorem dX7_addNumber_4 : decode cX7_addNumber 4 = .ok (.lstore 5, 2) := by decide +kernel
theorem dX7_addNumber_6 : decode cX7_addNumber 6 = .ok (.iload 4, 2) := by decide +kernel
theorem dX7_addNumber_8 : decode cX7_addNumber 8 = .ok (.aload_n 0, 1) := by decide +kernel
theorem dX7_addNumber_9 : decode cX7_addNumber 9 = .ok (.getfield 22, 3) := by decide +kernel
theorem dX7_addNumber_12 : decode cX7_addNumber 12 = .ok (.arraylength, 1) := by decide +kernel
theorem dX7_addNumber_13 : decode cX7_addNumber 13 = .ok (.if_icmp .ge 44, 3) := by decide +kernel
theorem dX7_addNumber_16 : decode cX7_addNumber 16 = .ok (.lload 5, 2) := by decide +kernel
theorem dX7_addNumber_18 : decode cX7_addNumber 18 = .ok (.lconst 0, 1) := by decide +kernel
theorem dX7_addNumber_19 : decode cX7_addNumber 19 = .ok (.lcmp, 1) := by decide +kernel
theorem dX7_addNumber_20 : decode cX7_addNumber 20 = .ok (.ifCond .gt 9, 3) := by decide +kernel
theorem dX7_addNumber_23 : decode cX7_addNumber 23 = .ok (.iload 4, 2) := by decide +kernel
theorem dX7_addNumber_25 : decode cX7_addNumber 25 = .ok (.iload_n 3, 1) := by decide +kernel
theorem dX7_addNumber_26 : decode cX7_addNumber 26 = .ok (.if_icmp .ge 31, 3) := by decide +kernel
theorem dX7_addNumber_29 : decode cX7_addNumber 29 = .ok (.aload_n 0, 1) := by decide +kernel
theorem dX7_addNumber_30 : decode cX7_addNumber 30 = .ok (.getfield 22, 3) := by decide +kernel
theorem dX7_addNumber_33 : decode cX7_addNumber 33 = .ok (.iload 4, 2) := by decide +kernel
theorem dX7_addNumber_35 : decode cX7_addNumber 35 = .ok (.lload 5, 2) := by decide +kernel
theorem dX7_addNumber_37 : decode cX7_addNumber 37 = .ok (.ldc2_w 49, 3) := by decide +kernel
theorem dX7_addNumber_40 : decode cX7_addNumber 40 = .ok (.lrem, 1) := by decide +kernel
theorem dX7_addNumber_41 : decode cX7_addNumber 41 = .ok (.l2i, 1) := by decide +kernel
theorem dX7_addNumber_42 : decode cX7_addNumber 42 = .ok (.iastore, 1) := by decide +kernel
theorem dX7_addNumber_43 : decode cX7_addNumber 43 = .ok (.lload 5, 2) := by decide +kernel
theorem dX7_addNumber_45 : decode cX7_addNumber 45 = .ok (.ldc2_w 49, 3) := by decide +kernel
theorem dX7_addNumber_48 : decode cX7_addNumber 48 = .ok (.ldiv, 1) := by decide +kernel
theorem dX7_addNumber_49 : decode cX7_addNumber 49 = .ok (.lstore 5, 2) := by decide +kernel
theorem dX7_addNumber_51 : decode cX7_addNumber 51 = .ok (.iinc 4 1, 3) := by decide +kernel
theorem dX7_addNumber_54 : decode cX7_addNumber 54 = .ok (.goto (-48), 3) := by decide +kernel
theorem dX7_addNumber_57 : decode cX7_addNumber 57 = .ok (.iload 4, 2) := by decide +kernel
theorem dX7_addNumber_59 : decode cX7_addNumber 59 = .ok (.iconst 1, 1) := by decide +kernel
theorem dX7_addNumber_60 : decode cX7_addNumber 60 = .ok (.isub, 1) := by decide +kernel
theorem dX7_addNumber_61 : decode cX7_addNumber 61 = .ok (.istore 7, 2) := by decide +kernel
theorem dX7_addNumber_63 : decode cX7_addNumber 63 = .ok (.iload 7, 2) := by decide +kernel
theorem dX7_addNumber_65 : decode cX7_addNumber 65 = .ok (.ifCond .lt 23, 3) := by decide +kernel
theorem dX7_addNumber_68 : decode cX7_addNumber 68 = .ok (.aload_n 0, 1) := by decide +kernel
theorem dX7_addNumber_69 : decode cX7_addNumber 69 = .ok (.bipush 48, 2) := by decide +kernel
theorem dX7_addNumber_71 : decode cX7_addNumber 71 = .ok (.aload_n 0, 1) := by decide +kernel
theorem dX7_addNumber_72 : decode cX7_addNumber 72 = .ok (.getfield 22, 3) := by decide +kernel
theorem dX7_addNumber_75 : decode cX7_addNumber 75 = .ok (.iload 7, 2) := by decide +kernel
theorem dX7_addNumber_77 : decode cX7_addNumber 77 = .ok (.iaload, 1) := by decide +kernel
theorem dX7_addNumber_78 : decode cX7_addNumber 78 = .ok (.iadd, 1) := by decide +kernel
theorem dX7_addNumber_79 : decode cX7_addNumber 79 = .ok (.invokevirtual 38, 3) := by decide +kernel
theorem dX7_addNumber_82 : decode cX7_addNumber 82 = .ok (.iinc 7 (-1), 3) := by decide +kernel
theorem dX7_addNumber_85 : decode cX7_addNumber 85 = .ok (.goto (-22), 3) := by decide +kernel
theorem dX7_addNumber_88 : decode cX7_addNumber 88 = .ok (.return_, 1) := by decide +kernel
theorem dX7_startSlots_0 : decode cX7_startSlots 0 = .ok (.aload_n 0, 1) := by decide +kernel
theorem dX7_startSlots_1 : decode cX7_startSlots 1 = .ok (.aload_n 1, 1) := by decide +kernel
theorem dX7_startSlots_2 : decode cX7_startSlots 2 = .ok (.iconst 4, 1) := by decide +kernel
theorem dX7_startSlots_3 : decode cX7_startSlots 3 = .ok (.iload_n 2, 1) := by decide +kernel
theorem dX7_startSlots_4 : decode cX7_startSlots 4 = .ok (.iload_n 3, 1) := by decide +kernel
theorem dX7_startSlots_5 : decode cX7_startSlots 5 = .ok (.invokevirtual 51, 3) := by decide +kernel
theorem dX7_startSlots_8 : decode cX7_startSlots 8 = .ok (.putfield 57, 3) := by decide +kernel
theorem dX7_startSlots_11 : decode cX7_startSlots 11 = .ok (.aload_n 0, 1) := by decide +kernel
theorem dX7_startSlots_12 : decode cX7_startSlots 12 = .ok (.iconst 0, 1) := by decide +kernel
theorem dX7_startSlots_13 : decode cX7_startSlots 13 = .ok (.putfield 60, 3) := by decide +kernel
theorem dX7_startSlots_16 : decode cX7_startSlots 16 = .ok (.aload_n 0, 1) := by decide +kernel
theorem dX7_startSlots_17 : decode cX7_startSlots 17 = .ok (.iconst 0, 1) := by decide +kernel
theorem dX7_startSlots_18 : decode cX7_startSlots 18 = .ok (.putfield 63, 3) := by decide +kernel
theorem dX7_startSlots_21 : decode cX7_startSlots 21 = .ok (.aload_n 0, 1) := by decide +kernel
theorem dX7_startSlots_22 : decode cX7_startSlots 22 = .ok (.iload 4, 2) := by decide +kernel
theorem dX7_startSlots_24 : decode cX7_startSlots 24 = .ok (.putfield 67, 3) := by decide +kernel
theorem dX7_startSlots_27 : decode cX7_startSlots 27 = .ok (.aload_n 0, 1) := by decide +kernel
theorem dX7_startSlots_28 : decode cX7_startSlots 28 = .ok (.aload_n 0, 1) := by decide +kernel
theorem dX7_startSlots_29 : decode cX7_startSlots 29 = .ok (.aload_n 1, 1) := by decide +kernel
theorem dX7_startSlots_30 : decode cX7_startSlots 30 = .ok (.iload_n 2, 1) := by decide +kernel
theorem dX7_startSlots_31 : decode cX7_startSlots 31 = .ok (.iload_n 3, 1) := by decide +kernel
theorem dX7_startSlots_32 : decode cX7_startSlots 32 = .ok (.invokevirtual 70, 3) := by decide +kernel
theorem dX7_startSlots_35 : decode cX7_startSlots 35 = .ok (.putfield 74, 3) := by decide +kernel
theorem dX7_startSlots_38 : decode cX7_startSlots 38 = .ok (.return_, 1) := by decide +kernel
theorem dX7_countHidden_0 : decode cX7_countHidden 0 = .ok (.iconst 0, 1) := by decide +kernel
theorem dX7_countHidden_1 : decode cX7_countHidden 1 = .ok (.istore 4, 2) := by decide +kernel
theorem dX7_countHidden_3 : decode cX7_countHidden 3 = .ok (.aload_n 0, 1) := by decide +kernel
theorem dX7_countHidden_4 : decode cX7_countHidden 4 = .ok (.getfield 57, 3) := by decide +kernel
theorem dX7_countHidden_7 : decode cX7_countHidden 7 = .ok (.istore 5, 2) := by decide +kernel
theorem dX7_countHidden_9 : decode cX7_countHidden 9 = .ok (.iload_n 2, 1) := by decide +kernel
theorem dX7_countHidden_10 : decode cX7_countHidden 10 = .ok (.istore 6, 2) := by decide +kernel
theorem dX7_countHidden_12 : decode cX7_countHidden 12 = .ok (.iload 6, 2) := by decide +kernel
theorem dX7_countHidden_14 : decode cX7_countHidden 14 = .ok (.iload_n 3, 1) := by decide +kernel
theorem dX7_countHidden_15 : decode cX7_countHidden 15 = .ok (.if_icmp .ge 65, 3) := by decide +kernel
theorem dX7_countHidden_18 : decode cX7_countHidden 18 = .ok (.aload_n 1, 1) := by decide +kernel
theorem dX7_countHidden_19 : decode cX7_countHidden 19 = .ok (.iload 6, 2) := by decide +kernel
theorem dX7_countHidden_21 : decode cX7_countHidden 21 = .ok (.invokevirtual 77, 3) := by decide +kernel
theorem dX7_countHidden_24 : decode cX7_countHidden 24 = .ok (.iconst 4, 1) := by decide +kernel
theorem dX7_countHidden_25 : decode cX7_countHidden 25 = .ok (.if_icmp .eq 6, 3) := by decide +kernel
theorem dX7_countHidden_28 : decode cX7_countHidden 28 = .ok (.goto 46, 3) := by decide +kernel
theorem dX7_countHidden_31 : decode cX7_countHidden 31 = .ok (.iinc 5 (-1), 3) := by decide +kernel
theorem dX7_countHidden_34 : decode cX7_countHidden 34 = .ok (.aload_n 1, 1) := by decide +kernel
theorem dX7_countHidden_35 : decode cX7_countHidden 35 = .ok (.iload 6, 2) := by decide +kernel
theorem dX7_countHidden_37 : decode cX7_countHidden 37 = .ok (.invokevirtual 80, 3) := by decide +kernel
theorem dX7_countHidden_40 : decode cX7_countHidden 40 = .ok (.bipush 48, 2) := by decide +kernel
theorem dX7_countHidden_42 : decode cX7_countHidden 42 = .ok (.if_icmp .eq 15, 3) := by decide +kernel
theorem dX7_countHidden_45 : decode cX7_countHidden 45 = .ok (.iload 5, 2) := by decide +kernel
theorem dX7_countHidden_47 : decode cX7_countHidden 47 = .ok (.aload_n 0, 1) := by decide +kernel
theorem dX7_countHidden_48 : decode cX7_countHidden 48 = .ok (.getfield 12, 3) := by decide +kernel
theorem dX7_countHidden_51 : decode cX7_countHidden 51 = .ok (.invokevirtual 83, 3) := by decide +kernel
theorem dX7_countHidden_54 : decode cX7_countHidden 54 = .ok (.if_icmp .ge 6, 3) := by decide +kernel
theorem dX7_countHidden_57 : decode cX7_countHidden 57 = .ok (.iload 4, 2) := by decide +kernel
theorem dX7_countHidden_59 : decode cX7_countHidden 59 = .ok (.ireturn, 1) := by decide +kernel
theorem dX7_countHidden_60 : decode cX7_countHidden 60 = .ok (.aload_n 1, 1) := by decide +kernel
theorem dX7_countHidden_61 : decode cX7_countHidden 61 = .ok (.iload 6, 2) := by decide +kernel
theorem dX7_countHidden_63 : decode cX7_countHidden 63 = .ok (.invokevirtual 80, 3) := by decide +kernel
theorem dX7_countHidden_66 : decode cX7_countHidden 66 = .ok (.bipush 35, 2) := by decide +kernel
theorem dX7_countHidden_68 : decode cX7_countHidden 68 = .ok (.if_icmp .ne 6, 3) := by decide +kernel
theorem dX7_countHidden_71 : decode cX7_countHidden 71 = .ok (.iinc 4 1, 3) := by decide +kernel
theorem dX7_countHidden_74 : decode cX7_countHidden 74 = .ok (.iinc 6 1, 3) := by decide +kernel
theorem dX7_countHidden_77 : decode cX7_countHidden 77 = .ok (.goto (-65), 3) := by decide +kernel
theorem dX7_countHidden_80 : decode cX7_countHidden 80 = .ok (.iload 4, 2) := by decide +kernel
theorem dX7_countHidden_82 : decode cX7_countHidden 82 = .ok (.ireturn, 1) := by decide +kernel
theorem dX7_putSlot_0 : decode cX7_putSlot 0 = .ok (.aload_n 0, 1) := by decide +kernel
theorem dX7_putSlot_1 : decode cX7_putSlot 1 = .ok (.getfield 57, 3) := by decide +kernel
theorem dX7_putSlot_4 : decode cX7_putSlot 4 = .ok (.iconst 1, 1) := by decide +kernel
theorem dX7_putSlot_5 : decode cX7_putSlot 5 = .ok (.isub, 1) := by decide +kernel
theorem dX7_putSlot_6 : decode cX7_putSlot 6 = .ok (.aload_n 0, 1) := by decide +kernel
theorem dX7_putSlot_7 : decode cX7_putSlot 7 = .ok (.getfield 60, 3) := by decide +kernel
theorem dX7_putSlot_10 : decode cX7_putSlot 10 = .ok (.isub, 1) := by decide +kernel
theorem dX7_putSlot_11 : decode cX7_putSlot 11 = .ok (.istore_n 2, 1) := by decide +kernel
theorem dX7_putSlot_12 : decode cX7_putSlot 12 = .ok (.aload_n 0, 1) := by decide +kernel
theorem dX7_putSlot_13 : decode cX7_putSlot 13 = .ok (.getfield 60, 3) := by decide +kernel
theorem dX7_putSlot_16 : decode cX7_putSlot 16 = .ok (.ifCond .ne 10, 3) := by decide +kernel
theorem dX7_putSlot_19 : decode cX7_putSlot 19 = .ok (.aload_n 0, 1) := by decide +kernel
theorem dX7_putSlot_20 : decode cX7_putSlot 20 = .ok (.iload_n 2, 1) := by decide +kernel
theorem dX7_putSlot_21 : decode cX7_putSlot 21 = .ok (.iconst 1, 1) := by decide +kernel
theorem dX7_putSlot_22 : decode cX7_putSlot 22 = .ok (.iadd, 1) := by decide +kernel
theorem dX7_putSlot_23 : decode cX7_putSlot 23 = .ok (.invokevirtual 86, 3) := by decide +kernel
theorem dX7_putSlot_26 : decode cX7_putSlot 26 = .ok (.aload_n 0, 1) := by decide +kernel
theorem dX7_putSlot_27 : decode cX7_putSlot 27 = .ok (.dup, 1) := by decide +kernel
theorem dX7_putSlot_28 : decode cX7_putSlot 28 = .ok (.getfield 60, 3) := by decide +kernel
theorem dX7_putSlot_31 : decode cX7_putSlot 31 = .ok (.iconst 1, 1) := by decide +kernel
theorem dX7_putSlot_32 : decode cX7_putSlot 32 = .ok (.iadd, 1) := by decide +kernel
theorem dX7_putSlot_33 : decode cX7_putSlot 33 = .ok (.putfield 60, 3) := by decide +kernel
theorem dX7_putSlot_36 : decode cX7_putSlot 36 = .ok (.aload_n 0, 1) := by decide +kernel
theorem dX7_putSlot_37 : decode cX7_putSlot 37 = .ok (.aload_n 0, 1) := by decide +kernel
theorem dX7_putSlot_38 : decode cX7_putSlot 38 = .ok (.getfield 63, 3) := by decide +kernel
theorem dX7_putSlot_41 : decode cX7_putSlot 41 = .ok (.ifCond .ne 9, 3) := by decide +kernel
theorem dX7_putSlot_44 : decode cX7_putSlot 44 = .ok (.iload_n 1, 1) := by decide +kernel
theorem dX7_putSlot_45 : decode cX7_putSlot 45 = .ok (.bipush 48, 2) := by decide +kernel
theorem dX7_putSlot_47 : decode cX7_putSlot 47 = .ok (.if_icmp .ne 7, 3) := by decide +kernel
theorem dX7_putSlot_50 : decode cX7_putSlot 50 = .ok (.iconst 1, 1) := by decide +kernel
theorem dX7_putSlot_51 : decode cX7_putSlot 51 = .ok (.goto 4, 3) := by decide +kernel
theorem dX7_putSlot_54 : decode cX7_putSlot 54 = .ok (.iconst 0, 1) := by decide +kernel
theorem dX7_putSlot_55 : decode cX7_putSlot 55 = .ok (.putfield 63, 3) := by decide +kernel
theorem dX7_putSlot_58 : decode cX7_putSlot 58 = .ok (.aload_n 0, 1) := by decide +kernel
theorem dX7_putSlot_59 : decode cX7_putSlot 59 = .ok (.getfield 63, 3) := by decide +kernel
theorem dX7_putSlot_62 : decode cX7_putSlot 62 = .ok (.ifCond .ne 14, 3) := by decide +kernel
theorem dX7_putSlot_65 : decode cX7_putSlot 65 = .ok (.iload_n 2, 1) := by decide +kernel
theorem dX7_putSlot_66 : decode cX7_putSlot 66 = .ok (.aload_n 0, 1) := by decide +kernel
theorem dX7_putSlot_67 : decode cX7_putSlot 67 = .ok (.getfield 12, 3) := by decide +kernel
theorem dX7_putSlot_70 : decode cX7_putSlot 70 = .ok (.invokevirtual 83, 3) := by decide +kernel
theorem dX7_putSlot_73 : decode cX7_putSlot 73 = .ok (.if_icmp .ge 22, 3) := by decide +kernel
theorem dX7_putSlot_76 : decode cX7_putSlot 76 = .ok (.aload_n 0, 1) := by decide +kernel
theorem dX7_putSlot_77 : decode cX7_putSlot 77 = .ok (.bipush 48, 2) := by decide +kernel
theorem dX7_putSlot_79 : decode cX7_putSlot 79 = .ok (.aload_n 0, 1) := by decide +kernel
theorem dX7_putSlot_80 : decode cX7_putSlot 80 = .ok (.getfield 12, 3) := by decide +kernel
theorem dX7_putSlot_83 : decode cX7_putSlot 83 = .ok (.iload_n 2, 1) := by decide +kernel
theorem dX7_putSlot_84 : decode cX7_putSlot 84 = .ok (.invokevirtual 89, 3) := by decide +kernel
theorem dX7_putSlot_87 : decode cX7_putSlot 87 = .ok (.iadd, 1) := by decide +kernel
theorem dX7_putSlot_88 : decode cX7_putSlot 88 = .ok (.iload_n 2, 1) := by decide +kernel
theorem dX7_putSlot_89 : decode cX7_putSlot 89 = .ok (.invokevirtual 92, 3) := by decide +kernel
theorem dX7_putSlot_92 : decode cX7_putSlot 92 = .ok (.goto 29, 3) := by decide +kernel
theorem dX7_putSlot_95 : decode cX7_putSlot 95 = .ok (.iload_n 1, 1) := by decide +kernel
theorem dX7_putSlot_96 : decode cX7_putSlot 96 = .ok (.bipush 63, 2) := by decide +kernel
theorem dX7_putSlot_98 : decode cX7_putSlot 98 = .ok (.if_icmp .ne 13, 3) := by decide +kernel
theorem dX7_putSlot_101 : decode cX7_putSlot 101 = .ok (.aload_n 0, 1) := by decide +kernel
theorem dX7_putSlot_102 : decode cX7_putSlot 102 = .ok (.bipush 32, 2) := by decide +kernel
theorem dX7_putSlot_104 : decode cX7_putSlot 104 = .ok (.iload_n 2, 1) := by decide +kernel
theorem dX7_putSlot_105 : decode cX7_putSlot 105 = .ok (.invokevirtual 92, 3) := by decide +kernel
theorem dX7_putSlot_108 : decode cX7_putSlot 108 = .ok (.goto 13, 3) := by decide +kernel
theorem dX7_putSlot_111 : decode cX7_putSlot 111 = .ok (.aload_n 0, 1) := by decide +kernel
theorem dX7_putSlot_112 : decode cX7_putSlot 112 = .ok (.dup, 1) := by decide +kernel
theorem dX7_putSlot_113 : decode cX7_putSlot 113 = .ok (.getfield 74, 3) := by decide +kernel
theorem dX7_putSlot_116 : decode cX7_putSlot 116 = .ok (.iconst 1, 1) := by decide +kernel
theorem dX7_putSlot_117 : decode cX7_putSlot 117 = .ok (.isub, 1) := by decide +kernel
theorem dX7_putSlot_118 : decode cX7_putSlot 118 = .ok (.putfield 74, 3) := by decide +kernel
theorem dX7_putSlot_121 : decode cX7_putSlot 121 = .ok (.return_, 1) := by decide +kernel
theorem dX7_putDigits_0 : decode cX7_putDigits 0 = .ok (.aload_n 0, 1) := by decide +kernel
theorem dX7_putDigits_1 : decode cX7_putDigits 1 = .ok (.getfield 12, 3) := by decide +kernel
theorem dX7_putDigits_4 : decode cX7_putDigits 4 = .ok (.invokevirtual 83, 3) := by decide +kernel
theorem dX7_putDigits_7 : decode cX7_putDigits 7 = .ok (.iconst 1, 1) := by decide +kernel
theorem dX7_putDigits_8 : decode cX7_putDigits 8 = .ok (.isub, 1) := by decide +kernel
theorem dX7_putDigits_9 : decode cX7_putDigits 9 = .ok (.istore_n 2, 1) := by decide +kernel
theorem dX7_putDigits_10 : decode cX7_putDigits 10 = .ok (.iload_n 2, 1) := by decide +kernel
theorem dX7_putDigits_11 : decode cX7_putDigits 11 = .ok (.iload_n 1, 1) := by decide +kernel
theorem dX7_putDigits_12 : decode cX7_putDigits 12 = .ok (.if_icmp .lt 25, 3) := by decide +kernel
theorem dX7_putDigits_15 : decode cX7_putDigits 15 = .ok (.aload_n 0, 1) := by decide +kernel
theorem dX7_putDigits_16 : decode cX7_putDigits 16 = .ok (.bipush 48, 2) := by decide +kernel
theorem dX7_putDigits_18 : decode cX7_putDigits 18 = .ok (.aload_n 0, 1) := by decide +kernel
theorem dX7_putDigits_19 : decode cX7_putDigits 19 = .ok (.getfield 12, 3) := by decide +kernel
theorem dX7_putDigits_22 : decode cX7_putDigits 22 = .ok (.iload_n 2, 1) := by decide +kernel
theorem dX7_putDigits_23 : decode cX7_putDigits 23 = .ok (.invokevirtual 89, 3) := by decide +kernel
theorem dX7_putDigits_26 : decode cX7_putDigits 26 = .ok (.iadd, 1) := by decide +kernel
theorem dX7_putDigits_27 : decode cX7_putDigits 27 = .ok (.iload_n 2, 1) := by decide +kernel
theorem dX7_putDigits_28 : decode cX7_putDigits 28 = .ok (.invokevirtual 92, 3) := by decide +kernel
theorem dX7_putDigits_31 : decode cX7_putDigits 31 = .ok (.iinc 2 (-1), 3) := by decide +kernel
theorem dX7_putDigits_34 : decode cX7_putDigits 34 = .ok (.goto (-24), 3) := by decide +kernel
theorem dX7_putDigits_37 : decode cX7_putDigits 37 = .ok (.return_, 1) := by decide +kernel
theorem dX7_putCell_0 : decode cX7_putCell 0 = .ok (.aload_n 0, 1) := by decide +kernel
theorem dX7_putCell_1 : decode cX7_putCell 1 = .ok (.iload_n 1, 1) := by decide +kernel
theorem dX7_putCell_2 : decode cX7_putCell 2 = .ok (.invokevirtual 38, 3) := by decide +kernel
theorem dX7_putCell_5 : decode cX7_putCell 5 = .ok (.iload_n 2, 1) := by decide +kernel
theorem dX7_putCell_6 : decode cX7_putCell 6 = .ok (.aload_n 0, 1) := by decide +kernel
theorem dX7_putCell_7 : decode cX7_putCell 7 = .ok (.getfield 74, 3) := by decide +kernel
theorem dX7_putCell_10 : decode cX7_putCell 10 = .ok (.isub, 1) := by decide +kernel
theorem dX7_putCell_11 : decode cX7_putCell 11 = .ok (.istore_n 3, 1) := by decide +kernel
theorem dX7_putCell_12 : decode cX7_putCell 12 = .ok (.aload_n 0, 1) := by decide +kernel
theorem dX7_putCell_13 : decode cX7_putCell 13 = .ok (.getfield 67, 3) := by decide +kernel
theorem dX7_putCell_16 : decode cX7_putCell 16 = .ok (.ifCond .eq 30, 3) := by decide +kernel
theorem dX7_putCell_19 : decode cX7_putCell 19 = .ok (.iload_n 3, 1) := by decide +kernel
theorem dX7_putCell_20 : decode cX7_putCell 20 = .ok (.ifCond .le 26, 3) := by decide +kernel
theorem dX7_putCell_23 : decode cX7_putCell 23 = .ok (.iload_n 3, 1) := by decide +kernel
theorem dX7_putCell_24 : decode cX7_putCell 24 = .ok (.iconst 3, 1) := by decide +kernel
theorem dX7_putCell_25 : decode cX7_putCell 25 = .ok (.irem, 1) := by decide +kernel
theorem dX7_putCell_26 : decode cX7_putCell 26 = .ok (.ifCond .ne 20, 3) := by decide +kernel
theorem dX7_putCell_29 : decode cX7_putCell 29 = .ok (.aload_n 0, 1) := by decide +kernel
theorem dX7_putCell_30 : decode cX7_putCell 30 = .ok (.iload_n 1, 1) := by decide +kernel
theorem dX7_putCell_31 : decode cX7_putCell 31 = .ok (.bipush 32, 2) := by decide +kernel
theorem dX7_putCell_33 : decode cX7_putCell 33 = .ok (.if_icmp .ne 8, 3) := by decide +kernel
theorem dX7_putCell_36 : decode cX7_putCell 36 = .ok (.bipush 32, 2) := by decide +kernel
theorem dX7_putCell_38 : decode cX7_putCell 38 = .ok (.goto 5, 3) := by decide +kernel
theorem dX7_putCell_41 : decode cX7_putCell 41 = .ok (.bipush 44, 2) := by decide +kernel
theorem dX7_putCell_43 : decode cX7_putCell 43 = .ok (.invokevirtual 38, 3) := by decide +kernel
theorem dX7_putCell_46 : decode cX7_putCell 46 = .ok (.return_, 1) := by decide +kernel
theorem dX8_read_0 : decode cX8_read 0 = .ok (.aload_n 1, 1) := by decide +kernel
theorem dX8_read_1 : decode cX8_read 1 = .ok (.invokevirtual 9, 3) := by decide +kernel
theorem dX8_read_4 : decode cX8_read 4 = .ok (.iconst 0, 1) := by decide +kernel
theorem dX8_read_5 : decode cX8_read 5 = .ok (.istore_n 2, 1) := by decide +kernel
theorem dX8_read_6 : decode cX8_read 6 = .ok (.iconst 0, 1) := by decide +kernel
theorem dX8_read_7 : decode cX8_read 7 = .ok (.istore_n 3, 1) := by decide +kernel
theorem dX8_read_8 : decode cX8_read 8 = .ok (.iload_n 3, 1) := by decide +kernel
theorem dX8_read_9 : decode cX8_read 9 = .ok (.sipush 255, 3) := by decide +kernel
theorem dX8_read_12 : decode cX8_read 12 = .ok (.if_icmp .ge 33, 3) := by decide +kernel
theorem dX8_read_15 : decode cX8_read 15 = .ok (.iload_n 2, 1) := by decide +kernel
theorem dX8_read_16 : decode cX8_read 16 = .ok (.aload_n 0, 1) := by decide +kernel
theorem dX8_read_17 : decode cX8_read 17 = .ok (.invokevirtual 14, 3) := by decide +kernel
theorem dX8_read_20 : decode cX8_read 20 = .ok (.if_icmp .ge 25, 3) := by decide +kernel
theorem dX8_read_23 : decode cX8_read 23 = .ok (.aload_n 1, 1) := by decide +kernel
theorem dX8_read_24 : decode cX8_read 24 = .ok (.invokevirtual 20, 3) := by decide +kernel
theorem dX8_read_27 : decode cX8_read 27 = .ok (.iconst (-1), 1) := by decide +kernel
theorem dX8_read_28 : decode cX8_read 28 = .ok (.if_icmp .eq 4, 3) := by decide +kernel
theorem dX8_read_31 : decode cX8_read 31 = .ok (.return_, 1) := by decide +kernel
theorem dX8_read_32 : decode cX8_read 32 = .ok (.aload_n 0, 1) := by decide +kernel
theorem dX8_read_33 : decode cX8_read 33 = .ok (.aload_n 1, 1) := by decide +kernel
theorem dX8_read_34 : decode cX8_read 34 = .ok (.iload_n 2, 1) := by decide +kernel
theorem dX8_read_35 : decode cX8_read 35 = .ok (.invokestatic 23, 3) := by decide +kernel
theorem dX8_read_38 : decode cX8_read 38 = .ok (.istore_n 2, 1) := by decide +kernel
theorem dX8_read_39 : decode cX8_read 39 = .ok (.iinc 3 1, 3) := by decide +kernel
theorem dX8_read_42 : decode cX8_read 42 = .ok (.goto (-34), 3) := by decide +kernel
theorem dX8_read_45 : decode cX8_read 45 = .ok (.return_, 1) := by decide +kernel
theorem dX8_next_0 : decode cX8_next 0 = .ok (.aload_n 0, 1) := by decide +kernel
theorem dX8_next_1 : decode cX8_next 1 = .ok (.iload_n 2, 1) := by decide +kernel
theorem dX8_next_2 : decode cX8_next 2 = .ok (.invokevirtual 29, 3) := by decide +kernel
theorem dX8_next_5 : decode cX8_next 5 = .ok (.istore_n 3, 1) := by decide +kernel
theorem dX8_next_6 : decode cX8_next 6 = .ok (.iload_n 3, 1) := by decide +kernel
theorem dX8_next_7 : decode cX8_next 7 = .ok (.lookupswitch 79 #[(34, 49), (59, 70), (91, 63), (92, 56), (95, 56)], 49) := by decide +kernel
theorem dX8_next_56 : decode cX8_next 56 = .ok (.aload_n 0, 1) := by decide +kernel
theorem dX8_next_57 : decode cX8_next 57 = .ok (.aload_n 1, 1) := by decide +kernel
theorem dX8_next_58 : decode cX8_next 58 = .ok (.iload_n 2, 1) := by decide +kernel
theorem dX8_next_59 : decode cX8_next 59 = .ok (.invokestatic 33, 3) := by decide +kernel
theorem dX8_next_62 : decode cX8_next 62 = .ok (.ireturn, 1) := by decide +kernel
theorem dX8_next_63 : decode cX8_next 63 = .ok (.aload_n 0, 1) := by decide +kernel
theorem dX8_next_64 : decode cX8_next 64 = .ok (.aload_n 1, 1) := by decide +kernel
theorem dX8_next_65 : decode cX8_next 65 = .ok (.iload_n 2, 1) := by decide +kernel
theorem dX8_next_66 : decode cX8_next 66 = .ok (.invokestatic 36, 3) := by decide +kernel
theorem dX8_next_69 : decode cX8_next 69 = .ok (.ireturn, 1) := by decide +kernel
theorem dX8_next_70 : decode cX8_next 70 = .ok (.aload_n 0, 1) := by decide +kernel
theorem dX8_next_71 : decode cX8_next 71 = .ok (.aload_n 1, 1) := by decide +kernel
theorem dX8_next_72 : decode cX8_next 72 = .ok (.iload_n 2, 1) := by decide +kernel
theorem dX8_next_73 : decode cX8_next 73 = .ok (.invokestatic 39, 3) := by decide +kernel
theorem dX8_next_76 : decode cX8_next 76 = .ok (.ireturn, 1) := by decide +kernel
theorem dX8_next_77 : decode cX8_next 77 = .ok (.aload_n 1, 1) := by decide +kernel
theorem dX8_next_78 : decode cX8_next 78 = .ok (.iload_n 2, 1) := by decide +kernel
theorem dX8_next_79 : decode cX8_next 79 = .ok (.invokevirtual 42, 3) := by decide +kernel
theorem dX8_next_82 : decode cX8_next 82 = .ok (.iload_n 2, 1) := by decide +kernel
theorem dX8_next_83 : decode cX8_next 83 = .ok (.iconst 1, 1) := by decide +kernel
theorem dX8_next_84 : decode cX8_next 84 = .ok (.iadd, 1) := by decide +kernel
theorem dX8_next_85 : decode cX8_next 85 = .ok (.ireturn, 1) := by decide +kernel
theorem dX8_next_86 : decode cX8_next 86 = .ok (.aload_n 0, 1) := by decide +kernel
theorem dX8_next_87 : decode cX8_next 87 = .ok (.iload_n 2, 1) := by decide +kernel
theorem dX8_next_88 : decode cX8_next 88 = .ok (.invokevirtual 46, 3) := by decide +kernel
theorem dX8_next_91 : decode cX8_next 91 = .ok (.istore 4, 2) := by decide +kernel
theorem dX8_next_93 : decode cX8_next 93 = .ok (.iload 4, 2) := by decide +kernel
theorem dX8_next_95 : decode cX8_next 95 = .ok (.bipush 97, 2) := by decide +kernel
theorem dX8_next_97 : decode cX8_next 97 = .ok (.if_icmp .lt 17, 3) := by decide +kernel
theorem dX8_next_100 : decode cX8_next 100 = .ok (.iload 4, 2) := by decide +kernel
theorem dX8_next_102 : decode cX8_next 102 = .ok (.bipush 122, 2) := by decide +kernel
theorem dX8_next_104 : decode cX8_next 104 = .ok (.if_icmp .gt 10, 3) := by decide +kernel
theorem dX8_next_107 : decode cX8_next 107 = .ok (.aload_n 0, 1) := by decide +kernel
theorem dX8_next_108 : decode cX8_next 108 = .ok (.aload_n 1, 1) := by decide +kernel
theorem dX8_next_109 : decode cX8_next 109 = .ok (.iload_n 2, 1) := by decide +kernel
theorem dX8_next_110 : decode cX8_next 110 = .ok (.invokestatic 49, 3) := by decide +kernel
theorem dX8_next_113 : decode cX8_next 113 = .ok (.ireturn, 1) := by decide +kernel
theorem dX8_next_114 : decode cX8_next 114 = .ok (.iload_n 3, 1) := by decide +kernel
theorem dX8_next_115 : decode cX8_next 115 = .ok (.bipush 49, 2) := by decide +kernel
theorem dX8_next_117 : decode cX8_next 117 = .ok (.if_icmp .lt 16, 3) := by decide +kernel
theorem dX8_next_120 : decode cX8_next 120 = .ok (.iload_n 3, 1) := by decide +kernel
theorem dX8_next_121 : decode cX8_next 121 = .ok (.bipush 57, 2) := by decide +kernel
theorem dX8_next_123 : decode cX8_next 123 = .ok (.if_icmp .gt 10, 3) := by decide +kernel
theorem dX8_next_126 : decode cX8_next 126 = .ok (.aload_n 0, 1) := by decide +kernel
theorem dX8_next_127 : decode cX8_next 127 = .ok (.aload_n 1, 1) := by decide +kernel
theorem dX8_next_128 : decode cX8_next 128 = .ok (.iload_n 2, 1) := by decide +kernel
theorem dX8_next_129 : decode cX8_next 129 = .ok (.invokestatic 52, 3) := by decide +kernel
theorem dX8_next_132 : decode cX8_next 132 = .ok (.ireturn, 1) := by decide +kernel
theorem dX8_next_133 : decode cX8_next 133 = .ok (.aload_n 1, 1) := by decide +kernel
theorem dX8_next_134 : decode cX8_next 134 = .ok (.iload_n 3, 1) := by decide +kernel
theorem dX8_next_135 : decode cX8_next 135 = .ok (.invokestatic 55, 3) := by decide +kernel
theorem dX8_next_138 : decode cX8_next 138 = .ok (.iload_n 3, 1) := by decide +kernel
theorem dX8_next_139 : decode cX8_next 139 = .ok (.iconst 1, 1) := by decide +kernel
theorem dX8_next_140 : decode cX8_next 140 = .ok (.iload_n 2, 1) := by decide +kernel
theorem dX8_next_141 : decode cX8_next 141 = .ok (.invokevirtual 58, 3) := by decide +kernel
theorem dX8_next_144 : decode cX8_next 144 = .ok (.iload_n 2, 1) := by decide +kernel
theorem dX8_next_145 : decode cX8_next 145 = .ok (.iconst 1, 1) := by decide +kernel
theorem dX8_next_146 : decode cX8_next 146 = .ok (.iadd, 1) := by decide +kernel
