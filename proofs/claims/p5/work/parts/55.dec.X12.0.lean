theorem dX12_init_0 : decode cX12_init 0 = .ok (.aload_n 0, 1) := by decide +kernel
theorem dX12_init_1 : decode cX12_init 1 = .ok (.invokespecial 1, 3) := by decide +kernel
theorem dX12_init_4 : decode cX12_init 4 = .ok (.aload_n 0, 1) := by decide +kernel
theorem dX12_init_5 : decode cX12_init 5 = .ok (.sipush 260, 3) := by decide +kernel
theorem dX12_init_8 : decode cX12_init 8 = .ok (.newarray .int, 2) := by decide +kernel
theorem dX12_init_10 : decode cX12_init 10 = .ok (.putfield 7, 3) := by decide +kernel
theorem dX12_init_13 : decode cX12_init 13 = .ok (.aload_n 0, 1) := by decide +kernel
theorem dX12_init_14 : decode cX12_init 14 = .ok (.sipush 256, 3) := by decide +kernel
theorem dX12_init_17 : decode cX12_init 17 = .ok (.newarray .int, 2) := by decide +kernel
theorem dX12_init_19 : decode cX12_init 19 = .ok (.putfield 13, 3) := by decide +kernel
theorem dX12_init_22 : decode cX12_init 22 = .ok (.aload_n 0, 1) := by decide +kernel
theorem dX12_init_23 : decode cX12_init 23 = .ok (.sipush 1024, 3) := by decide +kernel
theorem dX12_init_26 : decode cX12_init 26 = .ok (.newarray .int, 2) := by decide +kernel
theorem dX12_init_28 : decode cX12_init 28 = .ok (.putfield 16, 3) := by decide +kernel
theorem dX12_init_31 : decode cX12_init 31 = .ok (.aload_n 0, 1) := by decide +kernel
theorem dX12_init_32 : decode cX12_init 32 = .ok (.iconst (-1), 1) := by decide +kernel
theorem dX12_init_33 : decode cX12_init 33 = .ok (.putfield 19, 3) := by decide +kernel
theorem dX12_init_36 : decode cX12_init 36 = .ok (.aload_n 0, 1) := by decide +kernel
theorem dX12_init_37 : decode cX12_init 37 = .ok (.sipush 256, 3) := by decide +kernel
theorem dX12_init_40 : decode cX12_init 40 = .ok (.newarray .int, 2) := by decide +kernel
theorem dX12_init_42 : decode cX12_init 42 = .ok (.putfield 23, 3) := by decide +kernel
theorem dX12_init_45 : decode cX12_init 45 = .ok (.aload_n 0, 1) := by decide +kernel
theorem dX12_init_46 : decode cX12_init 46 = .ok (.sipush 260, 3) := by decide +kernel
theorem dX12_init_49 : decode cX12_init 49 = .ok (.newarray .int, 2) := by decide +kernel
theorem dX12_init_51 : decode cX12_init 51 = .ok (.putfield 26, 3) := by decide +kernel
theorem dX12_init_54 : decode cX12_init 54 = .ok (.aload_n 0, 1) := by decide +kernel
theorem dX12_init_55 : decode cX12_init 55 = .ok (.sipush 260, 3) := by decide +kernel
theorem dX12_init_58 : decode cX12_init 58 = .ok (.newarray .int, 2) := by decide +kernel
theorem dX12_init_60 : decode cX12_init 60 = .ok (.putfield 29, 3) := by decide +kernel
theorem dX12_init_63 : decode cX12_init 63 = .ok (.aload_n 0, 1) := by decide +kernel
theorem dX12_init_64 : decode cX12_init 64 = .ok (.sipush 260, 3) := by decide +kernel
theorem dX12_init_67 : decode cX12_init 67 = .ok (.newarray .int, 2) := by decide +kernel
theorem dX12_init_69 : decode cX12_init 69 = .ok (.putfield 32, 3) := by decide +kernel
theorem dX12_init_72 : decode cX12_init 72 = .ok (.aload_n 0, 1) := by decide +kernel
theorem dX12_init_73 : decode cX12_init 73 = .ok (.iconst 4, 1) := by decide +kernel
theorem dX12_init_74 : decode cX12_init 74 = .ok (.newarray .int, 2) := by decide +kernel
theorem dX12_init_76 : decode cX12_init 76 = .ok (.putfield 35, 3) := by decide +kernel
theorem dX12_init_79 : decode cX12_init 79 = .ok (.aload_n 0, 1) := by decide +kernel
theorem dX12_init_80 : decode cX12_init 80 = .ok (.iconst 4, 1) := by decide +kernel
theorem dX12_init_81 : decode cX12_init 81 = .ok (.newarray .double, 2) := by decide +kernel
theorem dX12_init_83 : decode cX12_init 83 = .ok (.putfield 38, 3) := by decide +kernel
theorem dX12_init_86 : decode cX12_init 86 = .ok (.aload_n 0, 1) := by decide +kernel
theorem dX12_init_87 : decode cX12_init 87 = .ok (.sipush 260, 3) := by decide +kernel
theorem dX12_init_90 : decode cX12_init 90 = .ok (.newarray .int, 2) := by decide +kernel
theorem dX12_init_92 : decode cX12_init 92 = .ok (.putfield 42, 3) := by decide +kernel
theorem dX12_init_95 : decode cX12_init 95 = .ok (.aload_n 0, 1) := by decide +kernel
theorem dX12_init_96 : decode cX12_init 96 = .ok (.sipush 260, 3) := by decide +kernel
theorem dX12_init_99 : decode cX12_init 99 = .ok (.newarray .int, 2) := by decide +kernel
theorem dX12_init_101 : decode cX12_init 101 = .ok (.putfield 45, 3) := by decide +kernel
theorem dX12_init_104 : decode cX12_init 104 = .ok (.aload_n 0, 1) := by decide +kernel
theorem dX12_init_105 : decode cX12_init 105 = .ok (.sipush 260, 3) := by decide +kernel
theorem dX12_init_108 : decode cX12_init 108 = .ok (.newarray .int, 2) := by decide +kernel
theorem dX12_init_110 : decode cX12_init 110 = .ok (.putfield 48, 3) := by decide +kernel
theorem dX12_init_113 : decode cX12_init 113 = .ok (.aload_n 0, 1) := by decide +kernel
theorem dX12_init_114 : decode cX12_init 114 = .ok (.sipush 260, 3) := by decide +kernel
theorem dX12_init_117 : decode cX12_init 117 = .ok (.newarray .int, 2) := by decide +kernel
theorem dX12_init_119 : decode cX12_init 119 = .ok (.putfield 51, 3) := by decide +kernel
theorem dX12_init_122 : decode cX12_init 122 = .ok (.aload_n 0, 1) := by decide +kernel
theorem dX12_init_123 : decode cX12_init 123 = .ok (.bipush 8, 2) := by decide +kernel
theorem dX12_init_125 : decode cX12_init 125 = .ok (.newarray .int, 2) := by decide +kernel
theorem dX12_init_127 : decode cX12_init 127 = .ok (.putfield 54, 3) := by decide +kernel
theorem dX12_init_130 : decode cX12_init 130 = .ok (.aload_n 0, 1) := by decide +kernel
theorem dX12_init_131 : decode cX12_init 131 = .ok (.bipush 8, 2) := by decide +kernel
theorem dX12_init_133 : decode cX12_init 133 = .ok (.newarray .double, 2) := by decide +kernel
theorem dX12_init_135 : decode cX12_init 135 = .ok (.putfield 57, 3) := by decide +kernel
theorem dX12_init_138 : decode cX12_init 138 = .ok (.aload_n 0, 1) := by decide +kernel
theorem dX12_init_139 : decode cX12_init 139 = .ok (.sipush 1420, 3) := by decide +kernel
theorem dX12_init_142 : decode cX12_init 142 = .ok (.newarray .int, 2) := by decide +kernel
theorem dX12_init_144 : decode cX12_init 144 = .ok (.putfield 60, 3) := by decide +kernel
theorem dX12_init_147 : decode cX12_init 147 = .ok (.aload_n 0, 1) := by decide +kernel
theorem dX12_init_148 : decode cX12_init 148 = .ok (.sipush 1420, 3) := by decide +kernel
theorem dX12_init_151 : decode cX12_init 151 = .ok (.newarray .int, 2) := by decide +kernel
theorem dX12_init_153 : decode cX12_init 153 = .ok (.putfield 63, 3) := by decide +kernel
theorem dX12_init_156 : decode cX12_init 156 = .ok (.aload_n 0, 1) := by decide +kernel
theorem dX12_init_157 : decode cX12_init 157 = .ok (.sipush 1420, 3) := by decide +kernel
theorem dX12_init_160 : decode cX12_init 160 = .ok (.newarray .int, 2) := by decide +kernel
theorem dX12_init_162 : decode cX12_init 162 = .ok (.putfield 66, 3) := by decide +kernel
theorem dX12_init_165 : decode cX12_init 165 = .ok (.aload_n 0, 1) := by decide +kernel
theorem dX12_init_166 : decode cX12_init 166 = .ok (.sipush 1420, 3) := by decide +kernel
theorem dX12_init_169 : decode cX12_init 169 = .ok (.newarray .int, 2) := by decide +kernel
theorem dX12_init_171 : decode cX12_init 171 = .ok (.putfield 69, 3) := by decide +kernel
theorem dX12_init_174 : decode cX12_init 174 = .ok (.aload_n 0, 1) := by decide +kernel
theorem dX12_init_175 : decode cX12_init 175 = .ok (.sipush 1420, 3) := by decide +kernel
theorem dX12_init_178 : decode cX12_init 178 = .ok (.newarray .int, 2) := by decide +kernel
theorem dX12_init_180 : decode cX12_init 180 = .ok (.putfield 72, 3) := by decide +kernel
theorem dX12_init_183 : decode cX12_init 183 = .ok (.aload_n 0, 1) := by decide +kernel
theorem dX12_init_184 : decode cX12_init 184 = .ok (.sipush 1400, 3) := by decide +kernel
theorem dX12_init_187 : decode cX12_init 187 = .ok (.newarray .int, 2) := by decide +kernel
theorem dX12_init_189 : decode cX12_init 189 = .ok (.putfield 75, 3) := by decide +kernel
theorem dX12_init_192 : decode cX12_init 192 = .ok (.return_, 1) := by decide +kernel
theorem dX12_put_0 : decode cX12_put 0 = .ok (.bipush 24, 2) := by decide +kernel
theorem dX12_put_2 : decode cX12_put 2 = .ok (.istore_n 2, 1) := by decide +kernel
theorem dX12_put_3 : decode cX12_put 3 = .ok (.iload_n 2, 1) := by decide +kernel
theorem dX12_put_4 : decode cX12_put 4 = .ok (.ifCond .lt 35, 3) := by decide +kernel
theorem dX12_put_7 : decode cX12_put 7 = .ok (.aload_n 0, 1) := by decide +kernel
theorem dX12_put_8 : decode cX12_put 8 = .ok (.getfield 7, 3) := by decide +kernel
theorem dX12_put_11 : decode cX12_put 11 = .ok (.aload_n 0, 1) := by decide +kernel
theorem dX12_put_12 : decode cX12_put 12 = .ok (.getfield 81, 3) := by decide +kernel
theorem dX12_put_15 : decode cX12_put 15 = .ok (.iload_n 1, 1) := by decide +kernel
theorem dX12_put_16 : decode cX12_put 16 = .ok (.iload_n 2, 1) := by decide +kernel
theorem dX12_put_17 : decode cX12_put 17 = .ok (.ishr, 1) := by decide +kernel
theorem dX12_put_18 : decode cX12_put 18 = .ok (.sipush 255, 3) := by decide +kernel
theorem dX12_put_21 : decode cX12_put 21 = .ok (.iand, 1) := by decide +kernel
theorem dX12_put_22 : decode cX12_put 22 = .ok (.iastore, 1) := by decide +kernel
theorem dX12_put_23 : decode cX12_put 23 = .ok (.aload_n 0, 1) := by decide +kernel
theorem dX12_put_24 : decode cX12_put 24 = .ok (.dup, 1) := by decide +kernel
theorem dX12_put_25 : decode cX12_put 25 = .ok (.getfield 81, 3) := by decide +kernel
theorem dX12_put_28 : decode cX12_put 28 = .ok (.iconst 1, 1) := by decide +kernel
theorem dX12_put_29 : decode cX12_put 29 = .ok (.iadd, 1) := by decide +kernel
theorem dX12_put_30 : decode cX12_put 30 = .ok (.putfield 81, 3) := by decide +kernel
theorem dX12_put_33 : decode cX12_put 33 = .ok (.iinc 2 (-8), 3) := by decide +kernel
theorem dX12_put_36 : decode cX12_put 36 = .ok (.goto (-33), 3) := by decide +kernel
theorem dX12_put_39 : decode cX12_put 39 = .ok (.return_, 1) := by decide +kernel
theorem dX12_feed_0 : decode cX12_feed 0 = .ok (.aload_n 0, 1) := by decide +kernel
theorem dX12_feed_1 : decode cX12_feed 1 = .ok (.iconst 0, 1) := by decide +kernel
theorem dX12_feed_2 : decode cX12_feed 2 = .ok (.putfield 78, 3) := by decide +kernel
theorem dX12_feed_5 : decode cX12_feed 5 = .ok (.aload_n 0, 1) := by decide +kernel
theorem dX12_feed_6 : decode cX12_feed 6 = .ok (.getfield 81, 3) := by decide +kernel
theorem dX12_feed_9 : decode cX12_feed 9 = .ok (.sipush 260, 3) := by decide +kernel
theorem dX12_feed_12 : decode cX12_feed 12 = .ok (.if_icmp .ne 5, 3) := by decide +kernel
theorem dX12_feed_15 : decode cX12_feed 15 = .ok (.iconst 0, 1) := by decide +kernel
theorem dX12_feed_16 : decode cX12_feed 16 = .ok (.ireturn, 1) := by decide +kernel
theorem dX12_feed_17 : decode cX12_feed 17 = .ok (.aload_n 0, 1) := by decide +kernel
theorem dX12_feed_18 : decode cX12_feed 18 = .ok (.iload_n 1, 1) := by decide +kernel
theorem dX12_feed_19 : decode cX12_feed 19 = .ok (.invokevirtual 84, 3) := by decide +kernel
theorem dX12_feed_22 : decode cX12_feed 22 = .ok (.aload_n 0, 1) := by decide +kernel
theorem dX12_feed_23 : decode cX12_feed 23 = .ok (.iload_n 2, 1) := by decide +kernel
theorem dX12_feed_24 : decode cX12_feed 24 = .ok (.invokevirtual 84, 3) := by decide +kernel
theorem dX12_feed_27 : decode cX12_feed 27 = .ok (.aload_n 0, 1) := by decide +kernel
theorem dX12_feed_28 : decode cX12_feed 28 = .ok (.iload_n 3, 1) := by decide +kernel
theorem dX12_feed_29 : decode cX12_feed 29 = .ok (.invokevirtual 84, 3) := by decide +kernel
theorem dX12_feed_32 : decode cX12_feed 32 = .ok (.aload_n 0, 1) := by decide +kernel
theorem dX12_feed_33 : decode cX12_feed 33 = .ok (.iload 4, 2) := by decide +kernel
theorem dX12_feed_35 : decode cX12_feed 35 = .ok (.invokevirtual 84, 3) := by decide +kernel
theorem dX12_feed_38 : decode cX12_feed 38 = .ok (.aload_n 0, 1) := by decide +kernel
theorem dX12_feed_39 : decode cX12_feed 39 = .ok (.iload 5, 2) := by decide +kernel
theorem dX12_feed_41 : decode cX12_feed 41 = .ok (.invokevirtual 84, 3) := by decide +kernel
theorem dX12_feed_44 : decode cX12_feed 44 = .ok (.iconst 1, 1) := by decide +kernel
theorem dX12_feed_45 : decode cX12_feed 45 = .ok (.ireturn, 1) := by decide +kernel
theorem dX12_end_0 : decode cX12_end 0 = .ok (.aload_n 0, 1) := by decide +kernel
theorem dX12_end_1 : decode cX12_end 1 = .ok (.iconst 0, 1) := by decide +kernel
theorem dX12_end_2 : decode cX12_end 2 = .ok (.putfield 78, 3) := by decide +kernel
theorem dX12_end_5 : decode cX12_end 5 = .ok (.iload_n 1, 1) := by decide +kernel
theorem dX12_end_6 : decode cX12_end 6 = .ok (.ifCond .lt 18, 3) := by decide +kernel
theorem dX12_end_9 : decode cX12_end 9 = .ok (.iload_n 1, 1) := by decide +kernel
theorem dX12_end_10 : decode cX12_end 10 = .ok (.aload_n 0, 1) := by decide +kernel
theorem dX12_end_11 : decode cX12_end 11 = .ok (.getfield 81, 3) := by decide +kernel
theorem dX12_end_14 : decode cX12_end 14 = .ok (.if_icmp .gt 10, 3) := by decide +kernel
theorem dX12_end_17 : decode cX12_end 17 = .ok (.iload_n 1, 1) := by decide +kernel
theorem dX12_end_18 : decode cX12_end 18 = .ok (.sipush 255, 3) := by decide +kernel
theorem dX12_end_21 : decode cX12_end 21 = .ok (.if_icmp .le 5, 3) := by decide +kernel
theorem dX12_end_24 : decode cX12_end 24 = .ok (.iconst 0, 1) := by decide +kernel
theorem dX12_end_25 : decode cX12_end 25 = .ok (.ireturn, 1) := by decide +kernel
theorem dX12_end_26 : decode cX12_end 26 = .ok (.iconst 0, 1) := by decide +kernel
theorem dX12_end_27 : decode cX12_end 27 = .ok (.istore_n 2, 1) := by decide +kernel
theorem dX12_end_28 : decode cX12_end 28 = .ok (.iload_n 2, 1) := by decide +kernel
theorem dX12_end_29 : decode cX12_end 29 = .ok (.iload_n 1, 1) := by decide +kernel
theorem dX12_end_30 : decode cX12_end 30 = .ok (.if_icmp .ge 21, 3) := by decide +kernel
theorem dX12_end_33 : decode cX12_end 33 = .ok (.aload_n 0, 1) := by decide +kernel
theorem dX12_end_34 : decode cX12_end 34 = .ok (.getfield 13, 3) := by decide +kernel
theorem dX12_end_37 : decode cX12_end 37 = .ok (.iload_n 2, 1) := by decide +kernel
theorem dX12_end_38 : decode cX12_end 38 = .ok (.aload_n 0, 1) := by decide +kernel
theorem dX12_end_39 : decode cX12_end 39 = .ok (.getfield 7, 3) := by decide +kernel
theorem dX12_end_42 : decode cX12_end 42 = .ok (.iload_n 2, 1) := by decide +kernel
theorem dX12_end_43 : decode cX12_end 43 = .ok (.iaload, 1) := by decide +kernel
theorem dX12_end_44 : decode cX12_end 44 = .ok (.iastore, 1) := by decide +kernel
theorem dX12_end_45 : decode cX12_end 45 = .ok (.iinc 2 1, 3) := by decide +kernel
theorem dX12_end_48 : decode cX12_end 48 = .ok (.goto (-20), 3) := by decide +kernel
theorem dX12_end_51 : decode cX12_end 51 = .ok (.aload_n 0, 1) := by decide +kernel
theorem dX12_end_52 : decode cX12_end 52 = .ok (.iload_n 1, 1) := by decide +kernel
theorem dX12_end_53 : decode cX12_end 53 = .ok (.putfield 88, 3) := by decide +kernel
theorem dX12_end_56 : decode cX12_end 56 = .ok (.aload_n 0, 1) := by decide +kernel
theorem dX12_end_57 : decode cX12_end 57 = .ok (.iconst 0, 1) := by decide +kernel
theorem dX12_end_58 : decode cX12_end 58 = .ok (.putfield 81, 3) := by decide +kernel
theorem dX12_end_61 : decode cX12_end 61 = .ok (.iconst 1, 1) := by decide +kernel
theorem dX12_end_62 : decode cX12_end 62 = .ok (.ireturn, 1) := by decide +kernel
theorem dX12_set_0 : decode cX12_set 0 = .ok (.aload_n 0, 1) := by decide +kernel
theorem dX12_set_1 : decode cX12_set 1 = .ok (.iconst 0, 1) := by decide +kernel
theorem dX12_set_2 : decode cX12_set 2 = .ok (.putfield 78, 3) := by decide +kernel
theorem dX12_set_5 : decode cX12_set 5 = .ok (.dload_n 1, 1) := by decide +kernel
theorem dX12_set_6 : decode cX12_set 6 = .ok (.ldc2_w 91, 3) := by decide +kernel
theorem dX12_set_9 : decode cX12_set 9 = .ok (.dcmp .g, 1) := by decide +kernel
theorem dX12_set_10 : decode cX12_set 10 = .ok (.ifCond .ge 11, 3) := by decide +kernel
theorem dX12_set_13 : decode cX12_set 13 = .ok (.dload_n 1, 1) := by decide +kernel
theorem dX12_set_14 : decode cX12_set 14 = .ok (.ldc2_w 93, 3) := by decide +kernel
theorem dX12_set_17 : decode cX12_set 17 = .ok (.dcmp .l, 1) := by decide +kernel
theorem dX12_set_18 : decode cX12_set 18 = .ok (.ifCond .gt 5, 3) := by decide +kernel
theorem dX12_set_21 : decode cX12_set 21 = .ok (.iconst 0, 1) := by decide +kernel
theorem dX12_set_22 : decode cX12_set 22 = .ok (.ireturn, 1) := by decide +kernel
theorem dX12_set_23 : decode cX12_set 23 = .ok (.aload_n 0, 1) := by decide +kernel
theorem dX12_set_24 : decode cX12_set 24 = .ok (.dload_n 1, 1) := by decide +kernel
theorem dX12_set_25 : decode cX12_set 25 = .ok (.dconst 0, 1) := by decide +kernel
theorem dX12_set_26 : decode cX12_set 26 = .ok (.dcmp .l, 1) := by decide +kernel
theorem dX12_set_27 : decode cX12_set 27 = .ok (.ifCond .ne 7, 3) := by decide +kernel
theorem dX12_set_30 : decode cX12_set 30 = .ok (.dconst 0, 1) := by decide +kernel
theorem dX12_set_31 : decode cX12_set 31 = .ok (.goto 4, 3) := by decide +kernel
theorem dX12_set_34 : decode cX12_set 34 = .ok (.dload_n 1, 1) := by decide +kernel
theorem dX12_set_35 : decode cX12_set 35 = .ok (.putfield 95, 3) := by decide +kernel
theorem dX12_set_38 : decode cX12_set 38 = .ok (.iconst 1, 1) := by decide +kernel
theorem dX12_set_39 : decode cX12_set 39 = .ok (.ireturn, 1) := by decide +kernel
theorem dX12_reckon_0 : decode cX12_reckon 0 = .ok (.aload_n 0, 1) := by decide +kernel
theorem dX12_reckon_1 : decode cX12_reckon 1 = .ok (.iconst 0, 1) := by decide +kernel
theorem dX12_reckon_2 : decode cX12_reckon 2 = .ok (.putfield 78, 3) := by decide +kernel
theorem dX12_reckon_5 : decode cX12_reckon 5 = .ok (.iload_n 1, 1) := by decide +kernel
theorem dX12_reckon_6 : decode cX12_reckon 6 = .ok (.ifCond .lt 19, 3) := by decide +kernel
theorem dX12_reckon_9 : decode cX12_reckon 9 = .ok (.iload_n 1, 1) := by decide +kernel
theorem dX12_reckon_10 : decode cX12_reckon 10 = .ok (.iconst 3, 1) := by decide +kernel
theorem dX12_reckon_11 : decode cX12_reckon 11 = .ok (.if_icmp .gt 14, 3) := by decide +kernel
theorem dX12_reckon_14 : decode cX12_reckon 14 = .ok (.iload_n 1, 1) := by decide +kernel
theorem dX12_reckon_15 : decode cX12_reckon 15 = .ok (.iconst 3, 1) := by decide +kernel
theorem dX12_reckon_16 : decode cX12_reckon 16 = .ok (.if_icmp .ne 11, 3) := by decide +kernel
theorem dX12_reckon_19 : decode cX12_reckon 19 = .ok (.dload_n 2, 1) := by decide +kernel
theorem dX12_reckon_20 : decode cX12_reckon 20 = .ok (.dconst 0, 1) := by decide +kernel
theorem dX12_reckon_21 : decode cX12_reckon 21 = .ok (.dcmp .l, 1) := by decide +kernel
theorem dX12_reckon_22 : decode cX12_reckon 22 = .ok (.ifCond .ne 5, 3) := by decide +kernel
theorem dX12_reckon_25 : decode cX12_reckon 25 = .ok (.iconst 0, 1) := by decide +kernel
theorem dX12_reckon_26 : decode cX12_reckon 26 = .ok (.ireturn, 1) := by decide +kernel
theorem dX12_reckon_27 : decode cX12_reckon 27 = .ok (.aload_n 0, 1) := by decide +kernel
theorem dX12_reckon_28 : decode cX12_reckon 28 = .ok (.iload_n 1, 1) := by decide +kernel
theorem dX12_reckon_29 : decode cX12_reckon 29 = .ok (.ifCond .ne 12, 3) := by decide +kernel
theorem dX12_reckon_32 : decode cX12_reckon 32 = .ok (.aload_n 0, 1) := by decide +kernel
theorem dX12_reckon_33 : decode cX12_reckon 33 = .ok (.getfield 95, 3) := by decide +kernel
theorem dX12_reckon_36 : decode cX12_reckon 36 = .ok (.dload_n 2, 1) := by decide +kernel
theorem dX12_reckon_37 : decode cX12_reckon 37 = .ok (.dadd, 1) := by decide +kernel
theorem dX12_reckon_38 : decode cX12_reckon 38 = .ok (.goto 37, 3) := by decide +kernel
theorem dX12_reckon_41 : decode cX12_reckon 41 = .ok (.iload_n 1, 1) := by decide +kernel
theorem dX12_reckon_42 : decode cX12_reckon 42 = .ok (.iconst 1, 1) := by decide +kernel
theorem dX12_reckon_43 : decode cX12_reckon 43 = .ok (.if_icmp .ne 12, 3) := by decide +kernel
theorem dX12_reckon_46 : decode cX12_reckon 46 = .ok (.aload_n 0, 1) := by decide +kernel
theorem dX12_reckon_47 : decode cX12_reckon 47 = .ok (.getfield 95, 3) := by decide +kernel
theorem dX12_reckon_50 : decode cX12_reckon 50 = .ok (.dload_n 2, 1) := by decide +kernel
theorem dX12_reckon_51 : decode cX12_reckon 51 = .ok (.dsub, 1) := by decide +kernel
theorem dX12_reckon_52 : decode cX12_reckon 52 = .ok (.goto 23, 3) := by decide +kernel
theorem dX12_reckon_55 : decode cX12_reckon 55 = .ok (.iload_n 1, 1) := by decide +kernel
theorem dX12_reckon_56 : decode cX12_reckon 56 = .ok (.iconst 2, 1) := by decide +kernel
theorem dX12_reckon_57 : decode cX12_reckon 57 = .ok (.if_icmp .ne 12, 3) := by decide +kernel
theorem dX12_reckon_60 : decode cX12_reckon 60 = .ok (.aload_n 0, 1) := by decide +kernel
theorem dX12_reckon_61 : decode cX12_reckon 61 = .ok (.getfield 95, 3) := by decide +kernel
theorem dX12_reckon_64 : decode cX12_reckon 64 = .ok (.dload_n 2, 1) := by decide +kernel
theorem dX12_reckon_65 : decode cX12_reckon 65 = .ok (.dmul, 1) := by decide +kernel
theorem dX12_reckon_66 : decode cX12_reckon 66 = .ok (.goto 9, 3) := by decide +kernel
theorem dX12_reckon_69 : decode cX12_reckon 69 = .ok (.aload_n 0, 1) := by decide +kernel
theorem dX12_reckon_70 : decode cX12_reckon 70 = .ok (.getfield 95, 3) := by decide +kernel
theorem dX12_reckon_73 : decode cX12_reckon 73 = .ok (.dload_n 2, 1) := by decide +kernel
theorem dX12_reckon_74 : decode cX12_reckon 74 = .ok (.ddiv, 1) := by decide +kernel
theorem dX12_reckon_75 : decode cX12_reckon 75 = .ok (.invokevirtual 99, 3) := by decide +kernel
theorem dX12_reckon_78 : decode cX12_reckon 78 = .ok (.ireturn, 1) := by decide +kernel
theorem dX12_clear_0 : decode cX12_clear 0 = .ok (.iconst 0, 1) := by decide +kernel
theorem dX12_clear_1 : decode cX12_clear 1 = .ok (.istore_n 1, 1) := by decide +kernel
theorem dX12_clear_2 : decode cX12_clear 2 = .ok (.iload_n 1, 1) := by decide +kernel
theorem dX12_clear_3 : decode cX12_clear 3 = .ok (.sipush 1420, 3) := by decide +kernel
theorem dX12_clear_6 : decode cX12_clear 6 = .ok (.if_icmp .ge 13, 3) := by decide +kernel
theorem dX12_clear_9 : decode cX12_clear 9 = .ok (.aload_n 0, 1) := by decide +kernel
theorem dX12_clear_10 : decode cX12_clear 10 = .ok (.iload_n 1, 1) := by decide +kernel
theorem dX12_clear_11 : decode cX12_clear 11 = .ok (.iconst 0, 1) := by decide +kernel
theorem dX12_clear_12 : decode cX12_clear 12 = .ok (.iastore, 1) := by decide +kernel
theorem dX12_clear_13 : decode cX12_clear 13 = .ok (.iinc 1 1, 3) := by decide +kernel
theorem dX12_clear_16 : decode cX12_clear 16 = .ok (.goto (-14), 3) := by decide +kernel
theorem dX12_clear_19 : decode cX12_clear 19 = .ok (.return_, 1) := by decide +kernel
theorem dX12_copy_0 : decode cX12_copy 0 = .ok (.iconst 0, 1) := by decide +kernel
theorem dX12_copy_1 : decode cX12_copy 1 = .ok (.istore_n 2, 1) := by decide +kernel
theorem dX12_copy_2 : decode cX12_copy 2 = .ok (.iload_n 2, 1) := by decide +kernel
theorem dX12_copy_3 : decode cX12_copy 3 = .ok (.sipush 1420, 3) := by decide +kernel
theorem dX12_copy_6 : decode cX12_copy 6 = .ok (.if_icmp .ge 15, 3) := by decide +kernel
theorem dX12_copy_9 : decode cX12_copy 9 = .ok (.aload_n 1, 1) := by decide +kernel
theorem dX12_copy_10 : decode cX12_copy 10 = .ok (.iload_n 2, 1) := by decide +kernel
theorem dX12_copy_11 : decode cX12_copy 11 = .ok (.aload_n 0, 1) := by decide +kernel
theorem dX12_copy_12 : decode cX12_copy 12 = .ok (.iload_n 2, 1) := by decide +kernel
theorem dX12_copy_13 : decode cX12_copy 13 = .ok (.iaload, 1) := by decide +kernel
theorem dX12_copy_14 : decode cX12_copy 14 = .ok (.iastore, 1) := by decide +kernel
theorem dX12_copy_15 : decode cX12_copy 15 = .ok (.iinc 2 1, 3) := by decide +kernel
theorem dX12_copy_18 : decode cX12_copy 18 = .ok (.goto (-16), 3) := by decide +kernel
theorem dX12_copy_21 : decode cX12_copy 21 = .ok (.return_, 1) := by decide +kernel
theorem dX12_compare_0 : decode cX12_compare 0 = .ok (.iconst 0, 1) := by decide +kernel
theorem dX12_compare_1 : decode cX12_compare 1 = .ok (.istore_n 2, 1) := by decide +kernel
theorem dX12_compare_2 : decode cX12_compare 2 = .ok (.iload_n 2, 1) := by decide +kernel
theorem dX12_compare_3 : decode cX12_compare 3 = .ok (.sipush 1420, 3) := by decide +kernel
theorem dX12_compare_6 : decode cX12_compare 6 = .ok (.if_icmp .ge 33, 3) := by decide +kernel
theorem dX12_compare_9 : decode cX12_compare 9 = .ok (.aload_n 0, 1) := by decide +kernel
theorem dX12_compare_10 : decode cX12_compare 10 = .ok (.iload_n 2, 1) := by decide +kernel
theorem dX12_compare_11 : decode cX12_compare 11 = .ok (.iaload, 1) := by decide +kernel
theorem dX12_compare_12 : decode cX12_compare 12 = .ok (.aload_n 1, 1) := by decide +kernel
theorem dX12_compare_13 : decode cX12_compare 13 = .ok (.iload_n 2, 1) := by decide +kernel
theorem dX12_compare_14 : decode cX12_compare 14 = .ok (.iaload, 1) := by decide +kernel
theorem dX12_compare_15 : decode cX12_compare 15 = .ok (.if_icmp .eq 18, 3) := by decide +kernel
theorem dX12_compare_18 : decode cX12_compare 18 = .ok (.aload_n 0, 1) := by decide +kernel
theorem dX12_compare_19 : decode cX12_compare 19 = .ok (.iload_n 2, 1) := by decide +kernel
theorem dX12_compare_20 : decode cX12_compare 20 = .ok (.iaload, 1) := by decide +kernel
theorem dX12_compare_21 : decode cX12_compare 21 = .ok (.aload_n 1, 1) := by decide +kernel
theorem dX12_compare_22 : decode cX12_compare 22 = .ok (.iload_n 2, 1) := by decide +kernel
theorem dX12_compare_23 : decode cX12_compare 23 = .ok (.iaload, 1) := by decide +kernel
theorem dX12_compare_24 : decode cX12_compare 24 = .ok (.if_icmp .ge 7, 3) := by decide +kernel
theorem dX12_compare_27 : decode cX12_compare 27 = .ok (.iconst (-1), 1) := by decide +kernel
theorem dX12_compare_28 : decode cX12_compare 28 = .ok (.goto 4, 3) := by decide +kernel
theorem dX12_compare_31 : decode cX12_compare 31 = .ok (.iconst 1, 1) := by decide +kernel
theorem dX12_compare_32 : decode cX12_compare 32 = .ok (.ireturn, 1) := by decide +kernel
theorem dX12_compare_33 : decode cX12_compare 33 = .ok (.iinc 2 1, 3) := by decide +kernel
theorem dX12_compare_36 : decode cX12_compare 36 = .ok (.goto (-34), 3) := by decide +kernel
theorem dX12_compare_39 : decode cX12_compare 39 = .ok (.iconst 0, 1) := by decide +kernel
theorem dX12_compare_40 : decode cX12_compare 40 = .ok (.ireturn, 1) := by decide +kernel
theorem dX12_first_0 : decode cX12_first 0 = .ok (.iconst 0, 1) := by decide +kernel
theorem dX12_first_1 : decode cX12_first 1 = .ok (.istore_n 1, 1) := by decide +kernel
theorem dX12_first_2 : decode cX12_first 2 = .ok (.iload_n 1, 1) := by decide +kernel
theorem dX12_first_3 : decode cX12_first 3 = .ok (.sipush 1420, 3) := by decide +kernel
theorem dX12_first_6 : decode cX12_first 6 = .ok (.if_icmp .ge 15, 3) := by decide +kernel
theorem dX12_first_9 : decode cX12_first 9 = .ok (.aload_n 0, 1) := by decide +kernel
theorem dX12_first_10 : decode cX12_first 10 = .ok (.iload_n 1, 1) := by decide +kernel
theorem dX12_first_11 : decode cX12_first 11 = .ok (.iaload, 1) := by decide +kernel
theorem dX12_first_12 : decode cX12_first 12 = .ok (.ifCond .ne 9, 3) := by decide +kernel
theorem dX12_first_15 : decode cX12_first 15 = .ok (.iinc 1 1, 3) := by decide +kernel
theorem dX12_first_18 : decode cX12_first 18 = .ok (.goto (-16), 3) := by decide +kernel
theorem dX12_first_21 : decode cX12_first 21 = .ok (.iload_n 1, 1) := by decide +kernel
theorem dX12_first_22 : decode cX12_first 22 = .ok (.ireturn, 1) := by decide +kernel
theorem dX12_last_0 : decode cX12_last 0 = .ok (.sipush 1419, 3) := by decide +kernel
theorem dX12_last_3 : decode cX12_last 3 = .ok (.istore_n 1, 1) := by decide +kernel
theorem dX12_last_4 : decode cX12_last 4 = .ok (.iload_n 1, 1) := by decide +kernel
theorem dX12_last_5 : decode cX12_last 5 = .ok (.ifCond .lt 15, 3) := by decide +kernel
theorem dX12_last_8 : decode cX12_last 8 = .ok (.aload_n 0, 1) := by decide +kernel
theorem dX12_last_9 : decode cX12_last 9 = .ok (.iload_n 1, 1) := by decide +kernel
theorem dX12_last_10 : decode cX12_last 10 = .ok (.iaload, 1) := by decide +kernel
theorem dX12_last_11 : decode cX12_last 11 = .ok (.ifCond .ne 9, 3) := by decide +kernel
theorem dX12_last_14 : decode cX12_last 14 = .ok (.iinc 1 (-1), 3) := by decide +kernel
theorem dX12_last_17 : decode cX12_last 17 = .ok (.goto (-13), 3) := by decide +kernel
theorem dX12_last_20 : decode cX12_last 20 = .ok (.iload_n 1, 1) := by decide +kernel
theorem dX12_last_21 : decode cX12_last 21 = .ok (.ireturn, 1) := by decide +kernel
theorem dX12_times_0 : decode cX12_times 0 = .ok (.iconst 0, 1) := by decide +kernel
theorem dX12_times_1 : decode cX12_times 1 = .ok (.istore_n 2, 1) := by decide +kernel
theorem dX12_times_2 : decode cX12_times 2 = .ok (.aload_n 0, 1) := by decide +kernel
theorem dX12_times_3 : decode cX12_times 3 = .ok (.invokestatic 103, 3) := by decide +kernel
theorem dX12_times_6 : decode cX12_times 6 = .ok (.istore_n 3, 1) := by decide +kernel
theorem dX12_times_7 : decode cX12_times 7 = .ok (.aload_n 0, 1) := by decide +kernel
theorem dX12_times_8 : decode cX12_times 8 = .ok (.invokestatic 107, 3) := by decide +kernel
theorem dX12_times_11 : decode cX12_times 11 = .ok (.istore 4, 2) := by decide +kernel
theorem dX12_times_13 : decode cX12_times 13 = .ok (.iload 4, 2) := by decide +kernel
theorem dX12_times_15 : decode cX12_times 15 = .ok (.ifCond .lt 44, 3) := by decide +kernel
theorem dX12_times_18 : decode cX12_times 18 = .ok (.iload 4, 2) := by decide +kernel
theorem dX12_times_20 : decode cX12_times 20 = .ok (.iload_n 3, 1) := by decide +kernel
theorem dX12_times_21 : decode cX12_times 21 = .ok (.if_icmp .ge 7, 3) := by decide +kernel
theorem dX12_times_24 : decode cX12_times 24 = .ok (.iload_n 2, 1) := by decide +kernel
theorem dX12_times_25 : decode cX12_times 25 = .ok (.ifCond .le 34, 3) := by decide +kernel
theorem dX12_times_28 : decode cX12_times 28 = .ok (.aload_n 0, 1) := by decide +kernel
theorem dX12_times_29 : decode cX12_times 29 = .ok (.iload 4, 2) := by decide +kernel
theorem dX12_times_31 : decode cX12_times 31 = .ok (.iaload, 1) := by decide +kernel
theorem dX12_times_32 : decode cX12_times 32 = .ok (.iload_n 1, 1) := by decide +kernel
theorem dX12_times_33 : decode cX12_times 33 = .ok (.imul, 1) := by decide +kernel
theorem dX12_times_34 : decode cX12_times 34 = .ok (.iload_n 2, 1) := by decide +kernel
theorem dX12_times_35 : decode cX12_times 35 = .ok (.iadd, 1) := by decide +kernel
theorem dX12_times_36 : decode cX12_times 36 = .ok (.istore 5, 2) := by decide +kernel
theorem dX12_times_38 : decode cX12_times 38 = .ok (.aload_n 0, 1) := by decide +kernel
theorem dX12_times_39 : decode cX12_times 39 = .ok (.iload 4, 2) := by decide +kernel
theorem dX12_times_41 : decode cX12_times 41 = .ok (.iload 5, 2) := by decide +kernel
theorem dX12_times_43 : decode cX12_times 43 = .ok (.bipush 10, 2) := by decide +kernel
theorem dX12_times_45 : decode cX12_times 45 = .ok (.irem, 1) := by decide +kernel
theorem dX12_times_46 : decode cX12_times 46 = .ok (.iastore, 1) := by decide +kernel
theorem dX12_times_47 : decode cX12_times 47 = .ok (.iload 5, 2) := by decide +kernel
theorem dX12_times_49 : decode cX12_times 49 = .ok (.bipush 10, 2) := by decide +kernel
theorem dX12_times_51 : decode cX12_times 51 = .ok (.idiv, 1) := by decide +kernel
theorem dX12_times_52 : decode cX12_times 52 = .ok (.istore_n 2, 1) := by decide +kernel
theorem dX12_times_53 : decode cX12_times 53 = .ok (.iinc 4 (-1), 3) := by decide +kernel
theorem dX12_times_56 : decode cX12_times 56 = .ok (.goto (-43), 3) := by decide +kernel
theorem dX12_times_59 : decode cX12_times 59 = .ok (.return_, 1) := by decide +kernel
theorem dX12_part_0 : decode cX12_part 0 = .ok (.iconst 0, 1) := by decide +kernel
theorem dX12_part_1 : decode cX12_part 1 = .ok (.istore_n 2, 1) := by decide +kernel
theorem dX12_part_2 : decode cX12_part 2 = .ok (.aload_n 0, 1) := by decide +kernel
theorem dX12_part_3 : decode cX12_part 3 = .ok (.getfield 63, 3) := by decide +kernel
theorem dX12_part_6 : decode cX12_part 6 = .ok (.invokestatic 107, 3) := by decide +kernel
theorem dX12_part_9 : decode cX12_part 9 = .ok (.istore_n 3, 1) := by decide +kernel
theorem dX12_part_10 : decode cX12_part 10 = .ok (.aload_n 0, 1) := by decide +kernel
theorem dX12_part_11 : decode cX12_part 11 = .ok (.getfield 63, 3) := by decide +kernel
theorem dX12_part_14 : decode cX12_part 14 = .ok (.invokestatic 103, 3) := by decide +kernel
theorem dX12_part_17 : decode cX12_part 17 = .ok (.istore 4, 2) := by decide +kernel
theorem dX12_part_19 : decode cX12_part 19 = .ok (.iload 4, 2) := by decide +kernel
theorem dX12_part_21 : decode cX12_part 21 = .ok (.sipush 1420, 3) := by decide +kernel
theorem dX12_part_24 : decode cX12_part 24 = .ok (.if_icmp .ge 49, 3) := by decide +kernel
theorem dX12_part_27 : decode cX12_part 27 = .ok (.iload 4, 2) := by decide +kernel
theorem dX12_part_29 : decode cX12_part 29 = .ok (.iload_n 3, 1) := by decide +kernel
theorem dX12_part_30 : decode cX12_part 30 = .ok (.if_icmp .le 7, 3) := by decide +kernel
theorem dX12_part_33 : decode cX12_part 33 = .ok (.iload_n 2, 1) := by decide +kernel
theorem dX12_part_34 : decode cX12_part 34 = .ok (.ifCond .le 39, 3) := by decide +kernel
theorem dX12_part_37 : decode cX12_part 37 = .ok (.bipush 10, 2) := by decide +kernel
theorem dX12_part_39 : decode cX12_part 39 = .ok (.iload_n 2, 1) := by decide +kernel
theorem dX12_part_40 : decode cX12_part 40 = .ok (.imul, 1) := by decide +kernel
theorem dX12_part_41 : decode cX12_part 41 = .ok (.aload_n 0, 1) := by decide +kernel
theorem dX12_part_42 : decode cX12_part 42 = .ok (.getfield 63, 3) := by decide +kernel
theorem dX12_part_45 : decode cX12_part 45 = .ok (.iload 4, 2) := by decide +kernel
theorem dX12_part_47 : decode cX12_part 47 = .ok (.iaload, 1) := by decide +kernel
theorem dX12_part_48 : decode cX12_part 48 = .ok (.iadd, 1) := by decide +kernel
theorem dX12_part_49 : decode cX12_part 49 = .ok (.istore 5, 2) := by decide +kernel
theorem dX12_part_51 : decode cX12_part 51 = .ok (.aload_n 0, 1) := by decide +kernel
theorem dX12_part_52 : decode cX12_part 52 = .ok (.getfield 63, 3) := by decide +kernel
theorem dX12_part_55 : decode cX12_part 55 = .ok (.iload 4, 2) := by decide +kernel
theorem dX12_part_57 : decode cX12_part 57 = .ok (.iload 5, 2) := by decide +kernel
theorem dX12_part_59 : decode cX12_part 59 = .ok (.iload_n 1, 1) := by decide +kernel
theorem dX12_part_60 : decode cX12_part 60 = .ok (.idiv, 1) := by decide +kernel
theorem dX12_part_61 : decode cX12_part 61 = .ok (.iastore, 1) := by decide +kernel
theorem dX12_part_62 : decode cX12_part 62 = .ok (.iload 5, 2) := by decide +kernel
theorem dX12_part_64 : decode cX12_part 64 = .ok (.iload_n 1, 1) := by decide +kernel
theorem dX12_part_65 : decode cX12_part 65 = .ok (.irem, 1) := by decide +kernel
theorem dX12_part_66 : decode cX12_part 66 = .ok (.istore_n 2, 1) := by decide +kernel
theorem dX12_part_67 : decode cX12_part 67 = .ok (.iinc 4 1, 3) := by decide +kernel
theorem dX12_part_70 : decode cX12_part 70 = .ok (.goto (-51), 3) := by decide +kernel
theorem dX12_part_73 : decode cX12_part 73 = .ok (.return_, 1) := by decide +kernel
theorem dX12_expand_0 : decode cX12_expand 0 = .ok (.aload_n 0, 1) := by decide +kernel
theorem dX12_expand_1 : decode cX12_expand 1 = .ok (.getfield 63, 3) := by decide +kernel
theorem dX12_expand_4 : decode cX12_expand 4 = .ok (.invokestatic 110, 3) := by decide +kernel
theorem dX12_expand_7 : decode cX12_expand 7 = .ok (.lload_n 1, 1) := by decide +kernel
theorem dX12_expand_8 : decode cX12_expand 8 = .ok (.lstore 4, 2) := by decide +kernel
theorem dX12_expand_10 : decode cX12_expand 10 = .ok (.sipush 319, 3) := by decide +kernel
theorem dX12_expand_13 : decode cX12_expand 13 = .ok (.istore 6, 2) := by decide +kernel
theorem dX12_expand_15 : decode cX12_expand 15 = .ok (.lload 4, 2) := by decide +kernel
theorem dX12_expand_17 : decode cX12_expand 17 = .ok (.lconst 0, 1) := by decide +kernel
theorem dX12_expand_18 : decode cX12_expand 18 = .ok (.lcmp, 1) := by decide +kernel
theorem dX12_expand_19 : decode cX12_expand 19 = .ok (.ifCond .le 31, 3) := by decide +kernel
theorem dX12_expand_22 : decode cX12_expand 22 = .ok (.aload_n 0, 1) := by decide +kernel
theorem dX12_expand_23 : decode cX12_expand 23 = .ok (.getfield 63, 3) := by decide +kernel
theorem dX12_expand_26 : decode cX12_expand 26 = .ok (.iload 6, 2) := by decide +kernel
theorem dX12_expand_28 : decode cX12_expand 28 = .ok (.lload 4, 2) := by decide +kernel
theorem dX12_expand_30 : decode cX12_expand 30 = .ok (.ldc2_w 114, 3) := by decide +kernel
theorem dX12_expand_33 : decode cX12_expand 33 = .ok (.lrem, 1) := by decide +kernel
theorem dX12_expand_34 : decode cX12_expand 34 = .ok (.l2i, 1) := by decide +kernel
theorem dX12_expand_35 : decode cX12_expand 35 = .ok (.iastore, 1) := by decide +kernel
theorem dX12_expand_36 : decode cX12_expand 36 = .ok (.lload 4, 2) := by decide +kernel
theorem dX12_expand_38 : decode cX12_expand 38 = .ok (.ldc2_w 114, 3) := by decide +kernel
theorem dX12_expand_41 : decode cX12_expand 41 = .ok (.ldiv, 1) := by decide +kernel
theorem dX12_expand_42 : decode cX12_expand 42 = .ok (.lstore 4, 2) := by decide +kernel
theorem dX12_expand_44 : decode cX12_expand 44 = .ok (.iinc 6 (-1), 3) := by decide +kernel
theorem dX12_expand_47 : decode cX12_expand 47 = .ok (.goto (-32), 3) := by decide +kernel
theorem dX12_expand_50 : decode cX12_expand 50 = .ok (.iload_n 3, 1) := by decide +kernel
theorem dX12_expand_51 : decode cX12_expand 51 = .ok (.istore 6, 2) := by decide +kernel
theorem dX12_expand_53 : decode cX12_expand 53 = .ok (.iload 6, 2) := by decide +kernel
theorem dX12_expand_55 : decode cX12_expand 55 = .ok (.bipush 13, 2) := by decide +kernel
theorem dX12_expand_57 : decode cX12_expand 57 = .ok (.if_icmp .lt 19, 3) := by decide +kernel
theorem dX12_expand_60 : decode cX12_expand 60 = .ok (.aload_n 0, 1) := by decide +kernel
theorem dX12_expand_61 : decode cX12_expand 61 = .ok (.getfield 63, 3) := by decide +kernel
theorem dX12_expand_64 : decode cX12_expand 64 = .ok (.sipush 8192, 3) := by decide +kernel
theorem dX12_expand_67 : decode cX12_expand 67 = .ok (.invokestatic 116, 3) := by decide +kernel
theorem dX12_expand_70 : decode cX12_expand 70 = .ok (.iinc 6 (-13), 3) := by decide +kernel
theorem dX12_expand_73 : decode cX12_expand 73 = .ok (.goto (-20), 3) := by decide +kernel
theorem dX12_expand_76 : decode cX12_expand 76 = .ok (.iload 6, 2) := by decide +kernel
theorem dX12_expand_78 : decode cX12_expand 78 = .ok (.ifCond .le 17, 3) := by decide +kernel
theorem dX12_expand_81 : decode cX12_expand 81 = .ok (.aload_n 0, 1) := by decide +kernel
theorem dX12_expand_82 : decode cX12_expand 82 = .ok (.getfield 63, 3) := by decide +kernel
theorem dX12_expand_85 : decode cX12_expand 85 = .ok (.iconst 2, 1) := by decide +kernel
theorem dX12_expand_86 : decode cX12_expand 86 = .ok (.invokestatic 116, 3) := by decide +kernel
theorem dX12_expand_89 : decode cX12_expand 89 = .ok (.iinc 6 (-1), 3) := by decide +kernel
theorem dX12_expand_92 : decode cX12_expand 92 = .ok (.goto (-16), 3) := by decide +kernel
theorem dX12_expand_95 : decode cX12_expand 95 = .ok (.iload 6, 2) := by decide +kernel
theorem dX12_expand_97 : decode cX12_expand 97 = .ok (.bipush (-13), 2) := by decide +kernel
theorem dX12_expand_99 : decode cX12_expand 99 = .ok (.if_icmp .gt 16, 3) := by decide +kernel
theorem dX12_expand_102 : decode cX12_expand 102 = .ok (.aload_n 0, 1) := by decide +kernel
theorem dX12_expand_103 : decode cX12_expand 103 = .ok (.sipush 8192, 3) := by decide +kernel
theorem dX12_expand_106 : decode cX12_expand 106 = .ok (.invokevirtual 120, 3) := by decide +kernel
theorem dX12_expand_109 : decode cX12_expand 109 = .ok (.iinc 6 13, 3) := by decide +kernel
theorem dX12_expand_112 : decode cX12_expand 112 = .ok (.goto (-17), 3) := by decide +kernel
theorem dX12_expand_115 : decode cX12_expand 115 = .ok (.iload 6, 2) := by decide +kernel
theorem dX12_expand_117 : decode cX12_expand 117 = .ok (.ifCond .ge 14, 3) := by decide +kernel
theorem dX12_expand_120 : decode cX12_expand 120 = .ok (.aload_n 0, 1) := by decide +kernel
theorem dX12_expand_121 : decode cX12_expand 121 = .ok (.iconst 2, 1) := by decide +kernel
theorem dX12_expand_122 : decode cX12_expand 122 = .ok (.invokevirtual 120, 3) := by decide +kernel
theorem dX12_expand_125 : decode cX12_expand 125 = .ok (.iinc 6 1, 3) := by decide +kernel
theorem dX12_expand_128 : decode cX12_expand 128 = .ok (.goto (-13), 3) := by decide +kernel
theorem dX12_expand_131 : decode cX12_expand 131 = .ok (.return_, 1) := by decide +kernel
theorem dX12_wholeOf_0 : decode cX12_wholeOf 0 = .ok (.lconst 0, 1) := by decide +kernel
theorem dX12_wholeOf_1 : decode cX12_wholeOf 1 = .ok (.lstore_n 1, 1) := by decide +kernel
theorem dX12_wholeOf_2 : decode cX12_wholeOf 2 = .ok (.sipush 302, 3) := by decide +kernel
theorem dX12_wholeOf_5 : decode cX12_wholeOf 5 = .ok (.istore_n 3, 1) := by decide +kernel
theorem dX12_wholeOf_6 : decode cX12_wholeOf 6 = .ok (.iload_n 3, 1) := by decide +kernel
theorem dX12_wholeOf_7 : decode cX12_wholeOf 7 = .ok (.sipush 319, 3) := by decide +kernel
theorem dX12_wholeOf_10 : decode cX12_wholeOf 10 = .ok (.if_icmp .gt 20, 3) := by decide +kernel
theorem dX12_wholeOf_13 : decode cX12_wholeOf 13 = .ok (.ldc2_w 114, 3) := by decide +kernel
theorem dX12_wholeOf_16 : decode cX12_wholeOf 16 = .ok (.lload_n 1, 1) := by decide +kernel
theorem dX12_wholeOf_17 : decode cX12_wholeOf 17 = .ok (.lmul, 1) := by decide +kernel
theorem dX12_wholeOf_18 : decode cX12_wholeOf 18 = .ok (.aload_n 0, 1) := by decide +kernel
theorem dX12_wholeOf_19 : decode cX12_wholeOf 19 = .ok (.iload_n 3, 1) := by decide +kernel
theorem dX12_wholeOf_20 : decode cX12_wholeOf 20 = .ok (.iaload, 1) := by decide +kernel
theorem dX12_wholeOf_21 : decode cX12_wholeOf 21 = .ok (.i2l, 1) := by decide +kernel
theorem dX12_wholeOf_22 : decode cX12_wholeOf 22 = .ok (.ladd, 1) := by decide +kernel
theorem dX12_wholeOf_23 : decode cX12_wholeOf 23 = .ok (.lstore_n 1, 1) := by decide +kernel
theorem dX12_wholeOf_24 : decode cX12_wholeOf 24 = .ok (.iinc 3 1, 3) := by decide +kernel
theorem dX12_wholeOf_27 : decode cX12_wholeOf 27 = .ok (.goto (-21), 3) := by decide +kernel
theorem dX12_wholeOf_30 : decode cX12_wholeOf 30 = .ok (.lload_n 1, 1) := by decide +kernel
theorem dX12_wholeOf_31 : decode cX12_wholeOf 31 = .ok (.lreturn, 1) := by decide +kernel
theorem dX12_dropWhole_0 : decode cX12_dropWhole 0 = .ok (.iconst 0, 1) := by decide +kernel
theorem dX12_dropWhole_1 : decode cX12_dropWhole 1 = .ok (.istore_n 1, 1) := by decide +kernel
theorem dX12_dropWhole_2 : decode cX12_dropWhole 2 = .ok (.iload_n 1, 1) := by decide +kernel
theorem dX12_dropWhole_3 : decode cX12_dropWhole 3 = .ok (.sipush 319, 3) := by decide +kernel
theorem dX12_dropWhole_6 : decode cX12_dropWhole 6 = .ok (.if_icmp .gt 13, 3) := by decide +kernel
theorem dX12_dropWhole_9 : decode cX12_dropWhole 9 = .ok (.aload_n 0, 1) := by decide +kernel
theorem dX12_dropWhole_10 : decode cX12_dropWhole 10 = .ok (.iload_n 1, 1) := by decide +kernel
theorem dX12_dropWhole_11 : decode cX12_dropWhole 11 = .ok (.iconst 0, 1) := by decide +kernel
theorem dX12_dropWhole_12 : decode cX12_dropWhole 12 = .ok (.iastore, 1) := by decide +kernel
theorem dX12_dropWhole_13 : decode cX12_dropWhole 13 = .ok (.iinc 1 1, 3) := by decide +kernel
theorem dX12_dropWhole_16 : decode cX12_dropWhole 16 = .ok (.goto (-14), 3) := by decide +kernel
theorem dX12_dropWhole_19 : decode cX12_dropWhole 19 = .ok (.return_, 1) := by decide +kernel
theorem dX12_apart_0 : decode cX12_apart 0 = .ok (.dload_n 1, 1) := by decide +kernel
theorem dX12_apart_1 : decode cX12_apart 1 = .ok (.dstore_n 3, 1) := by decide +kernel
theorem dX12_apart_2 : decode cX12_apart 2 = .ok (.aload_n 0, 1) := by decide +kernel
theorem dX12_apart_3 : decode cX12_apart 3 = .ok (.iconst 0, 1) := by decide +kernel
theorem dX12_apart_4 : decode cX12_apart 4 = .ok (.putfield 123, 3) := by decide +kernel
theorem dX12_apart_7 : decode cX12_apart 7 = .ok (.dload_n 3, 1) := by decide +kernel
theorem dX12_apart_8 : decode cX12_apart 8 = .ok (.ldc2_w 126, 3) := by decide +kernel
theorem dX12_apart_11 : decode cX12_apart 11 = .ok (.dcmp .l, 1) := by decide +kernel
theorem dX12_apart_12 : decode cX12_apart 12 = .ok (.ifCond .lt 22, 3) := by decide +kernel
theorem dX12_apart_15 : decode cX12_apart 15 = .ok (.dload_n 3, 1) := by decide +kernel
theorem dX12_apart_16 : decode cX12_apart 16 = .ok (.ldc2_w 128, 3) := by decide +kernel
theorem dX12_apart_19 : decode cX12_apart 19 = .ok (.dmul, 1) := by decide +kernel
theorem dX12_apart_20 : decode cX12_apart 20 = .ok (.dstore_n 3, 1) := by decide +kernel
theorem dX12_apart_21 : decode cX12_apart 21 = .ok (.aload_n 0, 1) := by decide +kernel
theorem dX12_apart_22 : decode cX12_apart 22 = .ok (.dup, 1) := by decide +kernel
theorem dX12_apart_23 : decode cX12_apart 23 = .ok (.getfield 123, 3) := by decide +kernel
theorem dX12_apart_26 : decode cX12_apart 26 = .ok (.iconst 1, 1) := by decide +kernel
theorem dX12_apart_27 : decode cX12_apart 27 = .ok (.iadd, 1) := by decide +kernel
theorem dX12_apart_28 : decode cX12_apart 28 = .ok (.putfield 123, 3) := by decide +kernel
theorem dX12_apart_31 : decode cX12_apart 31 = .ok (.goto (-24), 3) := by decide +kernel
theorem dX12_apart_34 : decode cX12_apart 34 = .ok (.dload_n 3, 1) := by decide +kernel
theorem dX12_apart_35 : decode cX12_apart 35 = .ok (.ldc2_w 130, 3) := by decide +kernel
theorem dX12_apart_38 : decode cX12_apart 38 = .ok (.dcmp .g, 1) := by decide +kernel
theorem dX12_apart_39 : decode cX12_apart 39 = .ok (.ifCond .ge 32, 3) := by decide +kernel
theorem dX12_apart_42 : decode cX12_apart 42 = .ok (.aload_n 0, 1) := by decide +kernel
theorem dX12_apart_43 : decode cX12_apart 43 = .ok (.getfield 123, 3) := by decide +kernel
theorem dX12_apart_46 : decode cX12_apart 46 = .ok (.sipush (-1074), 3) := by decide +kernel
theorem dX12_apart_49 : decode cX12_apart 49 = .ok (.if_icmp .le 22, 3) := by decide +kernel
theorem dX12_apart_52 : decode cX12_apart 52 = .ok (.dload_n 3, 1) := by decide +kernel
theorem dX12_apart_53 : decode cX12_apart 53 = .ok (.ldc2_w 132, 3) := by decide +kernel
theorem dX12_apart_56 : decode cX12_apart 56 = .ok (.dmul, 1) := by decide +kernel
theorem dX12_apart_57 : decode cX12_apart 57 = .ok (.dstore_n 3, 1) := by decide +kernel
theorem dX12_apart_58 : decode cX12_apart 58 = .ok (.aload_n 0, 1) := by decide +kernel
theorem dX12_apart_59 : decode cX12_apart 59 = .ok (.dup, 1) := by decide +kernel
theorem dX12_apart_60 : decode cX12_apart 60 = .ok (.getfield 123, 3) := by decide +kernel
theorem dX12_apart_63 : decode cX12_apart 63 = .ok (.iconst 1, 1) := by decide +kernel
theorem dX12_apart_64 : decode cX12_apart 64 = .ok (.isub, 1) := by decide +kernel
theorem dX12_apart_65 : decode cX12_apart 65 = .ok (.putfield 123, 3) := by decide +kernel
theorem dX12_apart_68 : decode cX12_apart 68 = .ok (.goto (-34), 3) := by decide +kernel
theorem dX12_apart_71 : decode cX12_apart 71 = .ok (.aload_n 0, 1) := by decide +kernel
theorem dX12_apart_72 : decode cX12_apart 72 = .ok (.dload_n 3, 1) := by decide +kernel
theorem dX12_apart_73 : decode cX12_apart 73 = .ok (.d2l, 1) := by decide +kernel
theorem dX12_apart_74 : decode cX12_apart 74 = .ok (.putfield 134, 3) := by decide +kernel
theorem dX12_apart_77 : decode cX12_apart 77 = .ok (.return_, 1) := by decide +kernel
theorem dX12_size_0 : decode cX12_size 0 = .ok (.dload_n 0, 1) := by decide +kernel
theorem dX12_size_1 : decode cX12_size 1 = .ok (.dconst 0, 1) := by decide +kernel
theorem dX12_size_2 : decode cX12_size 2 = .ok (.dcmp .g, 1) := by decide +kernel
theorem dX12_size_3 : decode cX12_size 3 = .ok (.ifCond .ge 8, 3) := by decide +kernel
theorem dX12_size_6 : decode cX12_size 6 = .ok (.dload_n 0, 1) := by decide +kernel
theorem dX12_size_7 : decode cX12_size 7 = .ok (.dneg, 1) := by decide +kernel
theorem dX12_size_8 : decode cX12_size 8 = .ok (.goto 4, 3) := by decide +kernel
theorem dX12_size_11 : decode cX12_size 11 = .ok (.dload_n 0, 1) := by decide +kernel
theorem dX12_size_12 : decode cX12_size 12 = .ok (.dreturn, 1) := by decide +kernel
theorem dX12_takeApart_0 : decode cX12_takeApart 0 = .ok (.aload_n 0, 1) := by decide +kernel
theorem dX12_takeApart_1 : decode cX12_takeApart 1 = .ok (.getfield 95, 3) := by decide +kernel
theorem dX12_takeApart_4 : decode cX12_takeApart 4 = .ok (.dconst 0, 1) := by decide +kernel
theorem dX12_takeApart_5 : decode cX12_takeApart 5 = .ok (.dcmp .l, 1) := by decide +kernel
theorem dX12_takeApart_6 : decode cX12_takeApart 6 = .ok (.ifCond .ne 11, 3) := by decide +kernel
theorem dX12_takeApart_9 : decode cX12_takeApart 9 = .ok (.aload_n 0, 1) := by decide +kernel
theorem dX12_takeApart_10 : decode cX12_takeApart 10 = .ok (.getfield 66, 3) := by decide +kernel
theorem dX12_takeApart_13 : decode cX12_takeApart 13 = .ok (.invokestatic 110, 3) := by decide +kernel
theorem dX12_takeApart_16 : decode cX12_takeApart 16 = .ok (.return_, 1) := by decide +kernel
theorem dX12_takeApart_17 : decode cX12_takeApart 17 = .ok (.aload_n 0, 1) := by decide +kernel
theorem dX12_takeApart_18 : decode cX12_takeApart 18 = .ok (.aload_n 0, 1) := by decide +kernel
theorem dX12_takeApart_19 : decode cX12_takeApart 19 = .ok (.getfield 95, 3) := by decide +kernel
theorem dX12_takeApart_22 : decode cX12_takeApart 22 = .ok (.invokestatic 138, 3) := by decide +kernel
theorem dX12_takeApart_25 : decode cX12_takeApart 25 = .ok (.invokevirtual 141, 3) := by decide +kernel
theorem dX12_takeApart_28 : decode cX12_takeApart 28 = .ok (.aload_n 0, 1) := by decide +kernel
theorem dX12_takeApart_29 : decode cX12_takeApart 29 = .ok (.aload_n 0, 1) := by decide +kernel
theorem dX12_takeApart_30 : decode cX12_takeApart 30 = .ok (.getfield 134, 3) := by decide +kernel
theorem dX12_takeApart_33 : decode cX12_takeApart 33 = .ok (.aload_n 0, 1) := by decide +kernel
theorem dX12_takeApart_34 : decode cX12_takeApart 34 = .ok (.getfield 123, 3) := by decide +kernel
theorem dX12_takeApart_37 : decode cX12_takeApart 37 = .ok (.invokevirtual 145, 3) := by decide +kernel
theorem dX12_takeApart_40 : decode cX12_takeApart 40 = .ok (.aload_n 0, 1) := by decide +kernel
theorem dX12_takeApart_41 : decode cX12_takeApart 41 = .ok (.getfield 63, 3) := by decide +kernel
theorem dX12_takeApart_44 : decode cX12_takeApart 44 = .ok (.aload_n 0, 1) := by decide +kernel
theorem dX12_takeApart_45 : decode cX12_takeApart 45 = .ok (.getfield 66, 3) := by decide +kernel
theorem dX12_takeApart_48 : decode cX12_takeApart 48 = .ok (.invokestatic 149, 3) := by decide +kernel
theorem dX12_takeApart_51 : decode cX12_takeApart 51 = .ok (.return_, 1) := by decide +kernel
theorem dX12_nearest_0 : decode cX12_nearest 0 = .ok (.aload_n 0, 1) := by decide +kernel
theorem dX12_nearest_1 : decode cX12_nearest 1 = .ok (.getfield 60, 3) := by decide +kernel
theorem dX12_nearest_4 : decode cX12_nearest 4 = .ok (.invokestatic 110, 3) := by decide +kernel
theorem dX12_nearest_7 : decode cX12_nearest 7 = .ok (.lload_n 1, 1) := by decide +kernel
theorem dX12_nearest_8 : decode cX12_nearest 8 = .ok (.lstore 6, 2) := by decide +kernel
theorem dX12_nearest_10 : decode cX12_nearest 10 = .ok (.sipush 319, 3) := by decide +kernel
theorem dX12_nearest_13 : decode cX12_nearest 13 = .ok (.istore 8, 2) := by decide +kernel
theorem dX12_nearest_15 : decode cX12_nearest 15 = .ok (.lload 6, 2) := by decide +kernel
theorem dX12_nearest_17 : decode cX12_nearest 17 = .ok (.lconst 0, 1) := by decide +kernel
theorem dX12_nearest_18 : decode cX12_nearest 18 = .ok (.lcmp, 1) := by decide +kernel
theorem dX12_nearest_19 : decode cX12_nearest 19 = .ok (.ifCond .le 31, 3) := by decide +kernel
theorem dX12_nearest_22 : decode cX12_nearest 22 = .ok (.aload_n 0, 1) := by decide +kernel
theorem dX12_nearest_23 : decode cX12_nearest 23 = .ok (.getfield 60, 3) := by decide +kernel
theorem dX12_nearest_26 : decode cX12_nearest 26 = .ok (.iload 8, 2) := by decide +kernel
theorem dX12_nearest_28 : decode cX12_nearest 28 = .ok (.lload 6, 2) := by decide +kernel
theorem dX12_nearest_30 : decode cX12_nearest 30 = .ok (.ldc2_w 114, 3) := by decide +kernel
theorem dX12_nearest_33 : decode cX12_nearest 33 = .ok (.lrem, 1) := by decide +kernel
theorem dX12_nearest_34 : decode cX12_nearest 34 = .ok (.l2i, 1) := by decide +kernel
theorem dX12_nearest_35 : decode cX12_nearest 35 = .ok (.iastore, 1) := by decide +kernel
theorem dX12_nearest_36 : decode cX12_nearest 36 = .ok (.lload 6, 2) := by decide +kernel
theorem dX12_nearest_38 : decode cX12_nearest 38 = .ok (.ldc2_w 114, 3) := by decide +kernel
theorem dX12_nearest_41 : decode cX12_nearest 41 = .ok (.ldiv, 1) := by decide +kernel
theorem dX12_nearest_42 : decode cX12_nearest 42 = .ok (.lstore 6, 2) := by decide +kernel
theorem dX12_nearest_44 : decode cX12_nearest 44 = .ok (.iinc 8 (-1), 3) := by decide +kernel
theorem dX12_nearest_47 : decode cX12_nearest 47 = .ok (.goto (-32), 3) := by decide +kernel
theorem dX12_nearest_50 : decode cX12_nearest 50 = .ok (.lload_n 3, 1) := by decide +kernel
theorem dX12_nearest_51 : decode cX12_nearest 51 = .ok (.lstore 6, 2) := by decide +kernel
theorem dX12_nearest_53 : decode cX12_nearest 53 = .ok (.sipush 319, 3) := by decide +kernel
theorem dX12_nearest_56 : decode cX12_nearest 56 = .ok (.iload 5, 2) := by decide +kernel
theorem dX12_nearest_58 : decode cX12_nearest 58 = .ok (.iadd, 1) := by decide +kernel
theorem dX12_nearest_59 : decode cX12_nearest 59 = .ok (.istore 8, 2) := by decide +kernel
theorem dX12_nearest_61 : decode cX12_nearest 61 = .ok (.iload 8, 2) := by decide +kernel
theorem dX12_nearest_63 : decode cX12_nearest 63 = .ok (.sipush 319, 3) := by decide +kernel
theorem dX12_nearest_66 : decode cX12_nearest 66 = .ok (.if_icmp .le 31, 3) := by decide +kernel
theorem dX12_nearest_69 : decode cX12_nearest 69 = .ok (.aload_n 0, 1) := by decide +kernel
theorem dX12_nearest_70 : decode cX12_nearest 70 = .ok (.getfield 60, 3) := by decide +kernel
theorem dX12_nearest_73 : decode cX12_nearest 73 = .ok (.iload 8, 2) := by decide +kernel
theorem dX12_nearest_75 : decode cX12_nearest 75 = .ok (.lload 6, 2) := by decide +kernel
theorem dX12_nearest_77 : decode cX12_nearest 77 = .ok (.ldc2_w 114, 3) := by decide +kernel
theorem dX12_nearest_80 : decode cX12_nearest 80 = .ok (.lrem, 1) := by decide +kernel
theorem dX12_nearest_81 : decode cX12_nearest 81 = .ok (.l2i, 1) := by decide +kernel
theorem dX12_nearest_82 : decode cX12_nearest 82 = .ok (.iastore, 1) := by decide +kernel
theorem dX12_nearest_83 : decode cX12_nearest 83 = .ok (.lload 6, 2) := by decide +kernel
theorem dX12_nearest_85 : decode cX12_nearest 85 = .ok (.ldc2_w 114, 3) := by decide +kernel
theorem dX12_nearest_88 : decode cX12_nearest 88 = .ok (.ldiv, 1) := by decide +kernel
theorem dX12_nearest_89 : decode cX12_nearest 89 = .ok (.lstore 6, 2) := by decide +kernel
theorem dX12_nearest_91 : decode cX12_nearest 91 = .ok (.iinc 8 (-1), 3) := by decide +kernel
theorem dX12_nearest_94 : decode cX12_nearest 94 = .ok (.goto (-33), 3) := by decide +kernel
theorem dX12_nearest_97 : decode cX12_nearest 97 = .ok (.aload_n 0, 1) := by decide +kernel
theorem dX12_nearest_98 : decode cX12_nearest 98 = .ok (.getfield 60, 3) := by decide +kernel
theorem dX12_nearest_101 : decode cX12_nearest 101 = .ok (.invokestatic 103, 3) := by decide +kernel
theorem dX12_nearest_104 : decode cX12_nearest 104 = .ok (.sipush 1420, 3) := by decide +kernel
theorem dX12_nearest_107 : decode cX12_nearest 107 = .ok (.if_icmp .ne 5, 3) := by decide +kernel
theorem dX12_nearest_110 : decode cX12_nearest 110 = .ok (.dconst 0, 1) := by decide +kernel
theorem dX12_nearest_111 : decode cX12_nearest 111 = .ok (.dreturn, 1) := by decide +kernel
theorem dX12_nearest_112 : decode cX12_nearest 112 = .ok (.lconst 1, 1) := by decide +kernel
theorem dX12_nearest_113 : decode cX12_nearest 113 = .ok (.lstore 8, 2) := by decide +kernel
theorem dX12_nearest_115 : decode cX12_nearest 115 = .ok (.iconst 0, 1) := by decide +kernel
theorem dX12_nearest_116 : decode cX12_nearest 116 = .ok (.istore 10, 2) := by decide +kernel
theorem dX12_nearest_118 : decode cX12_nearest 118 = .ok (.iload 10, 2) := by decide +kernel
theorem dX12_nearest_120 : decode cX12_nearest 120 = .ok (.iload 5, 2) := by decide +kernel
theorem dX12_nearest_122 : decode cX12_nearest 122 = .ok (.if_icmp .ge 17, 3) := by decide +kernel
theorem dX12_nearest_125 : decode cX12_nearest 125 = .ok (.ldc2_w 114, 3) := by decide +kernel
theorem dX12_nearest_128 : decode cX12_nearest 128 = .ok (.lload 8, 2) := by decide +kernel
theorem dX12_nearest_130 : decode cX12_nearest 130 = .ok (.lmul, 1) := by decide +kernel
theorem dX12_nearest_131 : decode cX12_nearest 131 = .ok (.lstore 8, 2) := by decide +kernel
theorem dX12_nearest_133 : decode cX12_nearest 133 = .ok (.iinc 10 1, 3) := by decide +kernel
theorem dX12_nearest_136 : decode cX12_nearest 136 = .ok (.goto (-18), 3) := by decide +kernel
theorem dX12_nearest_139 : decode cX12_nearest 139 = .ok (.aload_n 0, 1) := by decide +kernel
theorem dX12_nearest_140 : decode cX12_nearest 140 = .ok (.lload_n 1, 1) := by decide +kernel
theorem dX12_nearest_141 : decode cX12_nearest 141 = .ok (.l2d, 1) := by decide +kernel
theorem dX12_nearest_142 : decode cX12_nearest 142 = .ok (.lload_n 3, 1) := by decide +kernel
theorem dX12_nearest_143 : decode cX12_nearest 143 = .ok (.l2d, 1) := by decide +kernel
theorem dX12_nearest_144 : decode cX12_nearest 144 = .ok (.lload 8, 2) := by decide +kernel
theorem dX12_nearest_146 : decode cX12_nearest 146 = .ok (.l2d, 1) := by decide +kernel
theorem dX12_nearest_147 : decode cX12_nearest 147 = .ok (.ddiv, 1) := by decide +kernel
theorem dX12_nearest_148 : decode cX12_nearest 148 = .ok (.dadd, 1) := by decide +kernel
theorem dX12_nearest_149 : decode cX12_nearest 149 = .ok (.invokevirtual 141, 3) := by decide +kernel
theorem dX12_nearest_152 : decode cX12_nearest 152 = .ok (.aload_n 0, 1) := by decide +kernel
theorem dX12_nearest_153 : decode cX12_nearest 153 = .ok (.getfield 134, 3) := by decide +kernel
theorem dX12_nearest_156 : decode cX12_nearest 156 = .ok (.ldc2_w 153, 3) := by decide +kernel
theorem dX12_nearest_159 : decode cX12_nearest 159 = .ok (.lrem, 1) := by decide +kernel
theorem dX12_nearest_160 : decode cX12_nearest 160 = .ok (.lconst 1, 1) := by decide +kernel
theorem dX12_nearest_161 : decode cX12_nearest 161 = .ok (.lcmp, 1) := by decide +kernel
theorem dX12_nearest_162 : decode cX12_nearest 162 = .ok (.ifCond .ne 7, 3) := by decide +kernel
theorem dX12_nearest_165 : decode cX12_nearest 165 = .ok (.iconst 1, 1) := by decide +kernel
theorem dX12_nearest_166 : decode cX12_nearest 166 = .ok (.goto 4, 3) := by decide +kernel
theorem dX12_nearest_169 : decode cX12_nearest 169 = .ok (.iconst 0, 1) := by decide +kernel
theorem dX12_nearest_170 : decode cX12_nearest 170 = .ok (.istore 10, 2) := by decide +kernel
theorem dX12_nearest_172 : decode cX12_nearest 172 = .ok (.aload_n 0, 1) := by decide +kernel
theorem dX12_nearest_173 : decode cX12_nearest 173 = .ok (.ldc2_w 153, 3) := by decide +kernel
theorem dX12_nearest_176 : decode cX12_nearest 176 = .ok (.aload_n 0, 1) := by decide +kernel
theorem dX12_nearest_177 : decode cX12_nearest 177 = .ok (.getfield 134, 3) := by decide +kernel
theorem dX12_nearest_180 : decode cX12_nearest 180 = .ok (.lmul, 1) := by decide +kernel
theorem dX12_nearest_181 : decode cX12_nearest 181 = .ok (.lconst 1, 1) := by decide +kernel
theorem dX12_nearest_182 : decode cX12_nearest 182 = .ok (.ladd, 1) := by decide +kernel
theorem dX12_nearest_183 : decode cX12_nearest 183 = .ok (.aload_n 0, 1) := by decide +kernel
theorem dX12_nearest_184 : decode cX12_nearest 184 = .ok (.getfield 123, 3) := by decide +kernel
theorem dX12_nearest_187 : decode cX12_nearest 187 = .ok (.iconst 1, 1) := by decide +kernel
theorem dX12_nearest_188 : decode cX12_nearest 188 = .ok (.isub, 1) := by decide +kernel
theorem dX12_nearest_189 : decode cX12_nearest 189 = .ok (.invokevirtual 145, 3) := by decide +kernel
theorem dX12_nearest_192 : decode cX12_nearest 192 = .ok (.aload_n 0, 1) := by decide +kernel
theorem dX12_nearest_193 : decode cX12_nearest 193 = .ok (.getfield 60, 3) := by decide +kernel
theorem dX12_nearest_196 : decode cX12_nearest 196 = .ok (.aload_n 0, 1) := by decide +kernel
theorem dX12_nearest_197 : decode cX12_nearest 197 = .ok (.getfield 63, 3) := by decide +kernel
theorem dX12_nearest_200 : decode cX12_nearest 200 = .ok (.invokestatic 155, 3) := by decide +kernel
theorem dX12_nearest_203 : decode cX12_nearest 203 = .ok (.istore 11, 2) := by decide +kernel
theorem dX12_nearest_205 : decode cX12_nearest 205 = .ok (.iload 11, 2) := by decide +kernel
theorem dX12_nearest_207 : decode cX12_nearest 207 = .ok (.ifCond .gt 13, 3) := by decide +kernel
theorem dX12_nearest_210 : decode cX12_nearest 210 = .ok (.iload 11, 2) := by decide +kernel
theorem dX12_nearest_212 : decode cX12_nearest 212 = .ok (.ifCond .ne 21, 3) := by decide +kernel
theorem dX12_nearest_215 : decode cX12_nearest 215 = .ok (.iload 10, 2) := by decide +kernel
theorem dX12_nearest_217 : decode cX12_nearest 217 = .ok (.ifCond .eq 16, 3) := by decide +kernel
theorem dX12_nearest_220 : decode cX12_nearest 220 = .ok (.aload_n 0, 1) := by decide +kernel
theorem dX12_nearest_221 : decode cX12_nearest 221 = .ok (.dup, 1) := by decide +kernel
theorem dX12_nearest_222 : decode cX12_nearest 222 = .ok (.getfield 134, 3) := by decide +kernel
theorem dX12_nearest_225 : decode cX12_nearest 225 = .ok (.lconst 1, 1) := by decide +kernel
theorem dX12_nearest_226 : decode cX12_nearest 226 = .ok (.ladd, 1) := by decide +kernel
theorem dX12_nearest_227 : decode cX12_nearest 227 = .ok (.putfield 134, 3) := by decide +kernel
theorem dX12_nearest_230 : decode cX12_nearest 230 = .ok (.goto (-78), 3) := by decide +kernel
theorem dX12_nearest_233 : decode cX12_nearest 233 = .ok (.aload_n 0, 1) := by decide +kernel
theorem dX12_nearest_234 : decode cX12_nearest 234 = .ok (.getfield 134, 3) := by decide +kernel
theorem dX12_nearest_237 : decode cX12_nearest 237 = .ok (.ldc2_w 159, 3) := by decide +kernel
theorem dX12_nearest_240 : decode cX12_nearest 240 = .ok (.lcmp, 1) := by decide +kernel
theorem dX12_nearest_241 : decode cX12_nearest 241 = .ok (.ifCond .ne 26, 3) := by decide +kernel
theorem dX12_nearest_244 : decode cX12_nearest 244 = .ok (.aload_n 0, 1) := by decide +kernel
theorem dX12_nearest_245 : decode cX12_nearest 245 = .ok (.ldc2_w 161, 3) := by decide +kernel
theorem dX12_nearest_248 : decode cX12_nearest 248 = .ok (.aload_n 0, 1) := by decide +kernel
theorem dX12_nearest_249 : decode cX12_nearest 249 = .ok (.getfield 134, 3) := by decide +kernel
theorem dX12_nearest_252 : decode cX12_nearest 252 = .ok (.lmul, 1) := by decide +kernel
theorem dX12_nearest_253 : decode cX12_nearest 253 = .ok (.lconst 1, 1) := by decide +kernel
theorem dX12_nearest_254 : decode cX12_nearest 254 = .ok (.lsub, 1) := by decide +kernel
theorem dX12_nearest_255 : decode cX12_nearest 255 = .ok (.aload_n 0, 1) := by decide +kernel
theorem dX12_nearest_256 : decode cX12_nearest 256 = .ok (.getfield 123, 3) := by decide +kernel
theorem dX12_nearest_259 : decode cX12_nearest 259 = .ok (.iconst 2, 1) := by decide +kernel
theorem dX12_nearest_260 : decode cX12_nearest 260 = .ok (.isub, 1) := by decide +kernel
theorem dX12_nearest_261 : decode cX12_nearest 261 = .ok (.invokevirtual 145, 3) := by decide +kernel
theorem dX12_nearest_264 : decode cX12_nearest 264 = .ok (.goto 23, 3) := by decide +kernel
theorem dX12_nearest_267 : decode cX12_nearest 267 = .ok (.aload_n 0, 1) := by decide +kernel
theorem dX12_nearest_268 : decode cX12_nearest 268 = .ok (.ldc2_w 153, 3) := by decide +kernel
theorem dX12_nearest_271 : decode cX12_nearest 271 = .ok (.aload_n 0, 1) := by decide +kernel
theorem dX12_nearest_272 : decode cX12_nearest 272 = .ok (.getfield 134, 3) := by decide +kernel
theorem dX12_nearest_275 : decode cX12_nearest 275 = .ok (.lmul, 1) := by decide +kernel
theorem dX12_nearest_276 : decode cX12_nearest 276 = .ok (.lconst 1, 1) := by decide +kernel
theorem dX12_nearest_277 : decode cX12_nearest 277 = .ok (.lsub, 1) := by decide +kernel
theorem dX12_nearest_278 : decode cX12_nearest 278 = .ok (.aload_n 0, 1) := by decide +kernel
theorem dX12_nearest_279 : decode cX12_nearest 279 = .ok (.getfield 123, 3) := by decide +kernel
theorem dX12_nearest_282 : decode cX12_nearest 282 = .ok (.iconst 1, 1) := by decide +kernel
theorem dX12_nearest_283 : decode cX12_nearest 283 = .ok (.isub, 1) := by decide +kernel
theorem dX12_nearest_284 : decode cX12_nearest 284 = .ok (.invokevirtual 145, 3) := by decide +kernel
theorem dX12_nearest_287 : decode cX12_nearest 287 = .ok (.aload_n 0, 1) := by decide +kernel
theorem dX12_nearest_288 : decode cX12_nearest 288 = .ok (.getfield 60, 3) := by decide +kernel
theorem dX12_nearest_291 : decode cX12_nearest 291 = .ok (.aload_n 0, 1) := by decide +kernel
theorem dX12_nearest_292 : decode cX12_nearest 292 = .ok (.getfield 63, 3) := by decide +kernel
theorem dX12_nearest_295 : decode cX12_nearest 295 = .ok (.invokestatic 155, 3) := by decide +kernel
theorem dX12_nearest_298 : decode cX12_nearest 298 = .ok (.istore 12, 2) := by decide +kernel
theorem dX12_nearest_300 : decode cX12_nearest 300 = .ok (.iload 12, 2) := by decide +kernel
theorem dX12_nearest_302 : decode cX12_nearest 302 = .ok (.ifCond .gt 29, 3) := by decide +kernel
theorem dX12_nearest_305 : decode cX12_nearest 305 = .ok (.iload 12, 2) := by decide +kernel
theorem dX12_nearest_307 : decode cX12_nearest 307 = .ok (.ifCond .ne 11, 3) := by decide +kernel
theorem dX12_nearest_310 : decode cX12_nearest 310 = .ok (.iload 10, 2) := by decide +kernel
theorem dX12_nearest_312 : decode cX12_nearest 312 = .ok (.ifCond .ne 6, 3) := by decide +kernel
theorem dX12_nearest_315 : decode cX12_nearest 315 = .ok (.goto 16, 3) := by decide +kernel
theorem dX12_nearest_318 : decode cX12_nearest 318 = .ok (.aload_n 0, 1) := by decide +kernel
theorem dX12_nearest_319 : decode cX12_nearest 319 = .ok (.dup, 1) := by decide +kernel
theorem dX12_nearest_320 : decode cX12_nearest 320 = .ok (.getfield 134, 3) := by decide +kernel
theorem dX12_nearest_323 : decode cX12_nearest 323 = .ok (.lconst 1, 1) := by decide +kernel
theorem dX12_nearest_324 : decode cX12_nearest 324 = .ok (.lsub, 1) := by decide +kernel
theorem dX12_nearest_325 : decode cX12_nearest 325 = .ok (.putfield 134, 3) := by decide +kernel
theorem dX12_nearest_328 : decode cX12_nearest 328 = .ok (.goto (-176), 3) := by decide +kernel
theorem dX12_nearest_331 : decode cX12_nearest 331 = .ok (.aload_n 0, 1) := by decide +kernel
theorem dX12_nearest_332 : decode cX12_nearest 332 = .ok (.getfield 134, 3) := by decide +kernel
theorem dX12_nearest_335 : decode cX12_nearest 335 = .ok (.l2d, 1) := by decide +kernel
theorem dX12_nearest_336 : decode cX12_nearest 336 = .ok (.dstore 10, 2) := by decide +kernel
theorem dX12_nearest_338 : decode cX12_nearest 338 = .ok (.iconst 0, 1) := by decide +kernel
theorem dX12_nearest_339 : decode cX12_nearest 339 = .ok (.istore 12, 2) := by decide +kernel
theorem dX12_nearest_341 : decode cX12_nearest 341 = .ok (.iload 12, 2) := by decide +kernel
theorem dX12_nearest_343 : decode cX12_nearest 343 = .ok (.aload_n 0, 1) := by decide +kernel
theorem dX12_nearest_344 : decode cX12_nearest 344 = .ok (.getfield 123, 3) := by decide +kernel
theorem dX12_nearest_347 : decode cX12_nearest 347 = .ok (.if_icmp .ge 17, 3) := by decide +kernel
theorem dX12_nearest_350 : decode cX12_nearest 350 = .ok (.dload 10, 2) := by decide +kernel
theorem dX12_nearest_352 : decode cX12_nearest 352 = .ok (.ldc2_w 132, 3) := by decide +kernel
theorem dX12_nearest_355 : decode cX12_nearest 355 = .ok (.dmul, 1) := by decide +kernel
theorem dX12_nearest_356 : decode cX12_nearest 356 = .ok (.dstore 10, 2) := by decide +kernel
theorem dX12_nearest_358 : decode cX12_nearest 358 = .ok (.iinc 12 1, 3) := by decide +kernel
theorem dX12_nearest_361 : decode cX12_nearest 361 = .ok (.goto (-20), 3) := by decide +kernel
theorem dX12_nearest_364 : decode cX12_nearest 364 = .ok (.iconst 0, 1) := by decide +kernel
theorem dX12_nearest_365 : decode cX12_nearest 365 = .ok (.istore 12, 2) := by decide +kernel
theorem dX12_nearest_367 : decode cX12_nearest 367 = .ok (.iload 12, 2) := by decide +kernel
theorem dX12_nearest_369 : decode cX12_nearest 369 = .ok (.aload_n 0, 1) := by decide +kernel
theorem dX12_nearest_370 : decode cX12_nearest 370 = .ok (.getfield 123, 3) := by decide +kernel
theorem dX12_nearest_373 : decode cX12_nearest 373 = .ok (.if_icmp .le 17, 3) := by decide +kernel
theorem dX12_nearest_376 : decode cX12_nearest 376 = .ok (.dload 10, 2) := by decide +kernel
theorem dX12_nearest_378 : decode cX12_nearest 378 = .ok (.ldc2_w 128, 3) := by decide +kernel
theorem dX12_nearest_381 : decode cX12_nearest 381 = .ok (.dmul, 1) := by decide +kernel
theorem dX12_nearest_382 : decode cX12_nearest 382 = .ok (.dstore 10, 2) := by decide +kernel
theorem dX12_nearest_384 : decode cX12_nearest 384 = .ok (.iinc 12 (-1), 3) := by decide +kernel
theorem dX12_nearest_387 : decode cX12_nearest 387 = .ok (.goto (-20), 3) := by decide +kernel
theorem dX12_nearest_390 : decode cX12_nearest 390 = .ok (.dload 10, 2) := by decide +kernel
theorem dX12_nearest_392 : decode cX12_nearest 392 = .ok (.dreturn, 1) := by decide +kernel
theorem dX12_here_0 : decode cX12_here 0 = .ok (.iload_n 1, 1) := by decide +kernel
theorem dX12_here_1 : decode cX12_here 1 = .ok (.aload_n 0, 1) := by decide +kernel
theorem dX12_here_2 : decode cX12_here 2 = .ok (.getfield 88, 3) := by decide +kernel
theorem dX12_here_5 : decode cX12_here 5 = .ok (.if_icmp .ge 12, 3) := by decide +kernel
theorem dX12_here_8 : decode cX12_here 8 = .ok (.aload_n 0, 1) := by decide +kernel
theorem dX12_here_9 : decode cX12_here 9 = .ok (.getfield 13, 3) := by decide +kernel
theorem dX12_here_12 : decode cX12_here 12 = .ok (.iload_n 1, 1) := by decide +kernel
theorem dX12_here_13 : decode cX12_here 13 = .ok (.iaload, 1) := by decide +kernel
theorem dX12_here_14 : decode cX12_here 14 = .ok (.goto 4, 3) := by decide +kernel
theorem dX12_here_17 : decode cX12_here 17 = .ok (.iconst 0, 1) := by decide +kernel
theorem dX12_here_18 : decode cX12_here 18 = .ok (.ireturn, 1) := by decide +kernel
theorem dX12_small_0 : decode cX12_small 0 = .ok (.iload_n 0, 1) := by decide +kernel
theorem dX12_small_1 : decode cX12_small 1 = .ok (.bipush 65, 2) := by decide +kernel
theorem dX12_small_3 : decode cX12_small 3 = .ok (.if_icmp .lt 16, 3) := by decide +kernel
theorem dX12_small_6 : decode cX12_small 6 = .ok (.iload_n 0, 1) := by decide +kernel
theorem dX12_small_7 : decode cX12_small 7 = .ok (.bipush 90, 2) := by decide +kernel
theorem dX12_small_9 : decode cX12_small 9 = .ok (.if_icmp .gt 10, 3) := by decide +kernel
theorem dX12_small_12 : decode cX12_small 12 = .ok (.iload_n 0, 1) := by decide +kernel
theorem dX12_small_13 : decode cX12_small 13 = .ok (.bipush 32, 2) := by decide +kernel
theorem dX12_small_15 : decode cX12_small 15 = .ok (.iadd, 1) := by decide +kernel
theorem dX12_small_16 : decode cX12_small 16 = .ok (.goto 4, 3) := by decide +kernel
theorem dX12_small_19 : decode cX12_small 19 = .ok (.iload_n 0, 1) := by decide +kernel
theorem dX12_small_20 : decode cX12_small 20 = .ok (.ireturn, 1) := by decide +kernel
theorem dX12_isDigit_0 : decode cX12_isDigit 0 = .ok (.iload_n 0, 1) := by decide +kernel
theorem dX12_isDigit_1 : decode cX12_isDigit 1 = .ok (.bipush 48, 2) := by decide +kernel
theorem dX12_isDigit_3 : decode cX12_isDigit 3 = .ok (.if_icmp .lt 13, 3) := by decide +kernel
theorem dX12_isDigit_6 : decode cX12_isDigit 6 = .ok (.iload_n 0, 1) := by decide +kernel
theorem dX12_isDigit_7 : decode cX12_isDigit 7 = .ok (.bipush 57, 2) := by decide +kernel
theorem dX12_isDigit_9 : decode cX12_isDigit 9 = .ok (.if_icmp .gt 7, 3) := by decide +kernel
theorem dX12_isDigit_12 : decode cX12_isDigit 12 = .ok (.iconst 1, 1) := by decide +kernel
theorem dX12_isDigit_13 : decode cX12_isDigit 13 = .ok (.goto 4, 3) := by decide +kernel
theorem dX12_isDigit_16 : decode cX12_isDigit 16 = .ok (.iconst 0, 1) := by decide +kernel
theorem dX12_isDigit_17 : decode cX12_isDigit 17 = .ok (.ireturn, 1) := by decide +kernel
theorem dX12_follows_0 : decode cX12_follows 0 = .ok (.iload_n 1, 1) := by decide +kernel
theorem dX12_follows_1 : decode cX12_follows 1 = .ok (.istore 4, 2) := by decide +kernel
theorem dX12_follows_3 : decode cX12_follows 3 = .ok (.iconst 1, 1) := by decide +kernel
theorem dX12_follows_4 : decode cX12_follows 4 = .ok (.istore 5, 2) := by decide +kernel
theorem dX12_follows_6 : decode cX12_follows 6 = .ok (.bipush 56, 2) := by decide +kernel
theorem dX12_follows_8 : decode cX12_follows 8 = .ok (.istore 6, 2) := by decide +kernel
theorem dX12_follows_10 : decode cX12_follows 10 = .ok (.iload 6, 2) := by decide +kernel
theorem dX12_follows_12 : decode cX12_follows 12 = .ok (.ifCond .lt 57, 3) := by decide +kernel
theorem dX12_follows_15 : decode cX12_follows 15 = .ok (.lload_n 2, 1) := by decide +kernel
theorem dX12_follows_16 : decode cX12_follows 16 = .ok (.iload 6, 2) := by decide +kernel
theorem dX12_follows_18 : decode cX12_follows 18 = .ok (.lshr, 1) := by decide +kernel
theorem dX12_follows_19 : decode cX12_follows 19 = .ok (.ldc2_w 163, 3) := by decide +kernel
theorem dX12_follows_22 : decode cX12_follows 22 = .ok (.land, 1) := by decide +kernel
theorem dX12_follows_23 : decode cX12_follows 23 = .ok (.l2i, 1) := by decide +kernel
theorem dX12_follows_24 : decode cX12_follows 24 = .ok (.istore 7, 2) := by decide +kernel
theorem dX12_follows_26 : decode cX12_follows 26 = .ok (.iload 7, 2) := by decide +kernel
theorem dX12_follows_28 : decode cX12_follows 28 = .ok (.ifCond .ne 6, 3) := by decide +kernel
theorem dX12_follows_31 : decode cX12_follows 31 = .ok (.goto 32, 3) := by decide +kernel
theorem dX12_follows_34 : decode cX12_follows 34 = .ok (.iload 5, 2) := by decide +kernel
theorem dX12_follows_36 : decode cX12_follows 36 = .ok (.ifCond .eq 21, 3) := by decide +kernel
theorem dX12_follows_39 : decode cX12_follows 39 = .ok (.aload_n 0, 1) := by decide +kernel
theorem dX12_follows_40 : decode cX12_follows 40 = .ok (.iload 4, 2) := by decide +kernel
theorem dX12_follows_42 : decode cX12_follows 42 = .ok (.invokevirtual 165, 3) := by decide +kernel
theorem dX12_follows_45 : decode cX12_follows 45 = .ok (.invokestatic 169, 3) := by decide +kernel
theorem dX12_follows_48 : decode cX12_follows 48 = .ok (.iload 7, 2) := by decide +kernel
theorem dX12_follows_50 : decode cX12_follows 50 = .ok (.if_icmp .ne 7, 3) := by decide +kernel
theorem dX12_follows_53 : decode cX12_follows 53 = .ok (.iconst 1, 1) := by decide +kernel
theorem dX12_follows_54 : decode cX12_follows 54 = .ok (.goto 4, 3) := by decide +kernel
theorem dX12_follows_57 : decode cX12_follows 57 = .ok (.iconst 0, 1) := by decide +kernel
theorem dX12_follows_58 : decode cX12_follows 58 = .ok (.istore 5, 2) := by decide +kernel
theorem dX12_follows_60 : decode cX12_follows 60 = .ok (.iinc 4 1, 3) := by decide +kernel
theorem dX12_follows_63 : decode cX12_follows 63 = .ok (.iinc 6 (-8), 3) := by decide +kernel
theorem dX12_follows_66 : decode cX12_follows 66 = .ok (.goto (-56), 3) := by decide +kernel
theorem dX12_follows_69 : decode cX12_follows 69 = .ok (.iload 5, 2) := by decide +kernel
theorem dX12_follows_71 : decode cX12_follows 71 = .ok (.ireturn, 1) := by decide +kernel
theorem dX12_item_0 : decode cX12_item 0 = .ok (.aload_n 0, 1) := by decide +kernel
theorem dX12_item_1 : decode cX12_item 1 = .ok (.getfield 42, 3) := by decide +kernel
theorem dX12_item_4 : decode cX12_item 4 = .ok (.aload_n 0, 1) := by decide +kernel
theorem dX12_item_5 : decode cX12_item 5 = .ok (.getfield 172, 3) := by decide +kernel
theorem dX12_item_8 : decode cX12_item 8 = .ok (.iload_n 1, 1) := by decide +kernel
theorem dX12_item_9 : decode cX12_item 9 = .ok (.iastore, 1) := by decide +kernel
theorem dX12_item_10 : decode cX12_item 10 = .ok (.aload_n 0, 1) := by decide +kernel
theorem dX12_item_11 : decode cX12_item 11 = .ok (.getfield 45, 3) := by decide +kernel
theorem dX12_item_14 : decode cX12_item 14 = .ok (.aload_n 0, 1) := by decide +kernel
theorem dX12_item_15 : decode cX12_item 15 = .ok (.getfield 172, 3) := by decide +kernel
theorem dX12_item_18 : decode cX12_item 18 = .ok (.iload_n 2, 1) := by decide +kernel
theorem dX12_item_19 : decode cX12_item 19 = .ok (.iastore, 1) := by decide +kernel
theorem dX12_item_20 : decode cX12_item 20 = .ok (.aload_n 0, 1) := by decide +kernel
theorem dX12_item_21 : decode cX12_item 21 = .ok (.iload_n 3, 1) := by decide +kernel
theorem dX12_item_22 : decode cX12_item 22 = .ok (.putfield 175, 3) := by decide +kernel
theorem dX12_item_25 : decode cX12_item 25 = .ok (.return_, 1) := by decide +kernel
theorem dX12_isItself_0 : decode cX12_isItself 0 = .ok (.iload_n 0, 1) := by decide +kernel
theorem dX12_isItself_1 : decode cX12_isItself 1 = .ok (.bipush 32, 2) := by decide +kernel
theorem dX12_isItself_3 : decode cX12_isItself 3 = .ok (.if_icmp .eq 81, 3) := by decide +kernel
theorem dX12_isItself_6 : decode cX12_isItself 6 = .ok (.iload_n 0, 1) := by decide +kernel
theorem dX12_isItself_7 : decode cX12_isItself 7 = .ok (.bipush 33, 2) := by decide +kernel
theorem dX12_isItself_9 : decode cX12_isItself 9 = .ok (.if_icmp .eq 75, 3) := by decide +kernel
theorem dX12_isItself_12 : decode cX12_isItself 12 = .ok (.iload_n 0, 1) := by decide +kernel
theorem dX12_isItself_13 : decode cX12_isItself 13 = .ok (.bipush 36, 2) := by decide +kernel
theorem dX12_isItself_15 : decode cX12_isItself 15 = .ok (.if_icmp .eq 69, 3) := by decide +kernel
theorem dX12_isItself_18 : decode cX12_isItself 18 = .ok (.iload_n 0, 1) := by decide +kernel
theorem dX12_isItself_19 : decode cX12_isItself 19 = .ok (.bipush 38, 2) := by decide +kernel
theorem dX12_isItself_21 : decode cX12_isItself 21 = .ok (.if_icmp .lt 15, 3) := by decide +kernel
theorem dX12_isItself_24 : decode cX12_isItself 24 = .ok (.iload_n 0, 1) := by decide +kernel
theorem dX12_isItself_25 : decode cX12_isItself 25 = .ok (.bipush 43, 2) := by decide +kernel
theorem dX12_isItself_27 : decode cX12_isItself 27 = .ok (.if_icmp .gt 9, 3) := by decide +kernel
theorem dX12_isItself_30 : decode cX12_isItself 30 = .ok (.iload_n 0, 1) := by decide +kernel
theorem dX12_isItself_31 : decode cX12_isItself 31 = .ok (.bipush 37, 2) := by decide +kernel
theorem dX12_isItself_33 : decode cX12_isItself 33 = .ok (.if_icmp .ne 51, 3) := by decide +kernel
theorem dX12_isItself_36 : decode cX12_isItself 36 = .ok (.iload_n 0, 1) := by decide +kernel
theorem dX12_isItself_37 : decode cX12_isItself 37 = .ok (.bipush 45, 2) := by decide +kernel
theorem dX12_isItself_39 : decode cX12_isItself 39 = .ok (.if_icmp .eq 45, 3) := by decide +kernel
theorem dX12_isItself_42 : decode cX12_isItself 42 = .ok (.iload_n 0, 1) := by decide +kernel
theorem dX12_isItself_43 : decode cX12_isItself 43 = .ok (.bipush 58, 2) := by decide +kernel
theorem dX12_isItself_45 : decode cX12_isItself 45 = .ok (.if_icmp .eq 39, 3) := by decide +kernel
theorem dX12_isItself_48 : decode cX12_isItself 48 = .ok (.iload_n 0, 1) := by decide +kernel
theorem dX12_isItself_49 : decode cX12_isItself 49 = .ok (.bipush 60, 2) := by decide +kernel
theorem dX12_isItself_51 : decode cX12_isItself 51 = .ok (.if_icmp .lt 9, 3) := by decide +kernel
theorem dX12_isItself_54 : decode cX12_isItself 54 = .ok (.iload_n 0, 1) := by decide +kernel
theorem dX12_isItself_55 : decode cX12_isItself 55 = .ok (.bipush 62, 2) := by decide +kernel
theorem dX12_isItself_57 : decode cX12_isItself 57 = .ok (.if_icmp .le 27, 3) := by decide +kernel
theorem dX12_isItself_60 : decode cX12_isItself 60 = .ok (.iload_n 0, 1) := by decide +kernel
theorem dX12_isItself_61 : decode cX12_isItself 61 = .ok (.bipush 94, 2) := by decide +kernel
theorem dX12_isItself_63 : decode cX12_isItself 63 = .ok (.if_icmp .eq 21, 3) := by decide +kernel
theorem dX12_isItself_66 : decode cX12_isItself 66 = .ok (.iload_n 0, 1) := by decide +kernel
theorem dX12_isItself_67 : decode cX12_isItself 67 = .ok (.bipush 123, 2) := by decide +kernel
theorem dX12_isItself_69 : decode cX12_isItself 69 = .ok (.if_icmp .lt 9, 3) := by decide +kernel
theorem dX12_isItself_72 : decode cX12_isItself 72 = .ok (.iload_n 0, 1) := by decide +kernel
theorem dX12_isItself_73 : decode cX12_isItself 73 = .ok (.bipush 126, 2) := by decide +kernel
theorem dX12_isItself_75 : decode cX12_isItself 75 = .ok (.if_icmp .le 9, 3) := by decide +kernel
theorem dX12_isItself_78 : decode cX12_isItself 78 = .ok (.iload_n 0, 1) := by decide +kernel
theorem dX12_isItself_79 : decode cX12_isItself 79 = .ok (.bipush 126, 2) := by decide +kernel
theorem dX12_isItself_81 : decode cX12_isItself 81 = .ok (.if_icmp .le 7, 3) := by decide +kernel
theorem dX12_isItself_84 : decode cX12_isItself 84 = .ok (.iconst 1, 1) := by decide +kernel
theorem dX12_isItself_85 : decode cX12_isItself 85 = .ok (.goto 4, 3) := by decide +kernel
theorem dX12_isItself_88 : decode cX12_isItself 88 = .ok (.iconst 0, 1) := by decide +kernel
theorem dX12_isItself_89 : decode cX12_isItself 89 = .ok (.ireturn, 1) := by decide +kernel
theorem dX12_readItem_0 : decode cX12_readItem 0 = .ok (.aload_n 0, 1) := by decide +kernel
theorem dX12_readItem_1 : decode cX12_readItem 1 = .ok (.iload_n 1, 1) := by decide +kernel
theorem dX12_readItem_2 : decode cX12_readItem 2 = .ok (.invokevirtual 165, 3) := by decide +kernel
theorem dX12_readItem_5 : decode cX12_readItem 5 = .ok (.istore_n 2, 1) := by decide +kernel
theorem dX12_readItem_6 : decode cX12_readItem 6 = .ok (.iload_n 2, 1) := by decide +kernel
theorem dX12_readItem_7 : decode cX12_readItem 7 = .ok (.bipush 34, 2) := by decide +kernel
theorem dX12_readItem_9 : decode cX12_readItem 9 = .ok (.if_icmp .ne 11, 3) := by decide +kernel
theorem dX12_readItem_12 : decode cX12_readItem 12 = .ok (.aload_n 0, 1) := by decide +kernel
theorem dX12_readItem_13 : decode cX12_readItem 13 = .ok (.iload_n 1, 1) := by decide +kernel
theorem dX12_readItem_14 : decode cX12_readItem 14 = .ok (.invokevirtual 178, 3) := by decide +kernel
theorem dX12_readItem_17 : decode cX12_readItem 17 = .ok (.goto 484, 3) := by decide +kernel
theorem dX12_readItem_20 : decode cX12_readItem 20 = .ok (.iload_n 2, 1) := by decide +kernel
theorem dX12_readItem_21 : decode cX12_readItem 21 = .ok (.bipush 92, 2) := by decide +kernel
theorem dX12_readItem_23 : decode cX12_readItem 23 = .ok (.if_icmp .eq 9, 3) := by decide +kernel
theorem dX12_readItem_26 : decode cX12_readItem 26 = .ok (.iload_n 2, 1) := by decide +kernel
theorem dX12_readItem_27 : decode cX12_readItem 27 = .ok (.bipush 95, 2) := by decide +kernel
theorem dX12_readItem_29 : decode cX12_readItem 29 = .ok (.if_icmp .ne 55, 3) := by decide +kernel
theorem dX12_readItem_32 : decode cX12_readItem 32 = .ok (.iload_n 1, 1) := by decide +kernel
theorem dX12_readItem_33 : decode cX12_readItem 33 = .ok (.iconst 1, 1) := by decide +kernel
theorem dX12_readItem_34 : decode cX12_readItem 34 = .ok (.iadd, 1) := by decide +kernel
theorem dX12_readItem_35 : decode cX12_readItem 35 = .ok (.aload_n 0, 1) := by decide +kernel
theorem dX12_readItem_36 : decode cX12_readItem 36 = .ok (.getfield 88, 3) := by decide +kernel
theorem dX12_readItem_39 : decode cX12_readItem 39 = .ok (.if_icmp .ge 32, 3) := by decide +kernel
theorem dX12_readItem_42 : decode cX12_readItem 42 = .ok (.aload_n 0, 1) := by decide +kernel
theorem dX12_readItem_43 : decode cX12_readItem 43 = .ok (.iconst 0, 1) := by decide +kernel
theorem dX12_readItem_44 : decode cX12_readItem 44 = .ok (.iload_n 2, 1) := by decide +kernel
theorem dX12_readItem_45 : decode cX12_readItem 45 = .ok (.bipush 95, 2) := by decide +kernel
theorem dX12_readItem_47 : decode cX12_readItem 47 = .ok (.if_icmp .ne 8, 3) := by decide +kernel
theorem dX12_readItem_50 : decode cX12_readItem 50 = .ok (.bipush 32, 2) := by decide +kernel
theorem dX12_readItem_52 : decode cX12_readItem 52 = .ok (.goto 10, 3) := by decide +kernel
theorem dX12_readItem_55 : decode cX12_readItem 55 = .ok (.aload_n 0, 1) := by decide +kernel
theorem dX12_readItem_56 : decode cX12_readItem 56 = .ok (.iload_n 1, 1) := by decide +kernel
theorem dX12_readItem_57 : decode cX12_readItem 57 = .ok (.iconst 1, 1) := by decide +kernel
theorem dX12_readItem_58 : decode cX12_readItem 58 = .ok (.iadd, 1) := by decide +kernel
theorem dX12_readItem_59 : decode cX12_readItem 59 = .ok (.invokevirtual 165, 3) := by decide +kernel
theorem dX12_readItem_62 : decode cX12_readItem 62 = .ok (.iload_n 1, 1) := by decide +kernel
theorem dX12_readItem_63 : decode cX12_readItem 63 = .ok (.iconst 2, 1) := by decide +kernel
theorem dX12_readItem_64 : decode cX12_readItem 64 = .ok (.iadd, 1) := by decide +kernel
theorem dX12_readItem_65 : decode cX12_readItem 65 = .ok (.invokevirtual 181, 3) := by decide +kernel
theorem dX12_readItem_68 : decode cX12_readItem 68 = .ok (.goto 433, 3) := by decide +kernel
theorem dX12_readItem_71 : decode cX12_readItem 71 = .ok (.aload_n 0, 1) := by decide +kernel
theorem dX12_readItem_72 : decode cX12_readItem 72 = .ok (.bipush 15, 2) := by decide +kernel
theorem dX12_readItem_74 : decode cX12_readItem 74 = .ok (.iconst 0, 1) := by decide +kernel
theorem dX12_readItem_75 : decode cX12_readItem 75 = .ok (.iload_n 1, 1) := by decide +kernel
theorem dX12_readItem_76 : decode cX12_readItem 76 = .ok (.iconst 1, 1) := by decide +kernel
theorem dX12_readItem_77 : decode cX12_readItem 77 = .ok (.iadd, 1) := by decide +kernel
theorem dX12_readItem_78 : decode cX12_readItem 78 = .ok (.invokevirtual 181, 3) := by decide +kernel
theorem dX12_readItem_81 : decode cX12_readItem 81 = .ok (.goto 420, 3) := by decide +kernel
theorem dX12_readItem_84 : decode cX12_readItem 84 = .ok (.iload_n 2, 1) := by decide +kernel
theorem dX12_readItem_85 : decode cX12_readItem 85 = .ok (.bipush 91, 2) := by decide +kernel
theorem dX12_readItem_87 : decode cX12_readItem 87 = .ok (.if_icmp .ne 11, 3) := by decide +kernel
theorem dX12_readItem_90 : decode cX12_readItem 90 = .ok (.aload_n 0, 1) := by decide +kernel
theorem dX12_readItem_91 : decode cX12_readItem 91 = .ok (.iload_n 1, 1) := by decide +kernel
theorem dX12_readItem_92 : decode cX12_readItem 92 = .ok (.invokevirtual 185, 3) := by decide +kernel
theorem dX12_readItem_95 : decode cX12_readItem 95 = .ok (.goto 406, 3) := by decide +kernel
theorem dX12_readItem_98 : decode cX12_readItem 98 = .ok (.iload_n 1, 1) := by decide +kernel
theorem dX12_readItem_99 : decode cX12_readItem 99 = .ok (.ifCond .le 76, 3) := by decide +kernel
theorem dX12_readItem_102 : decode cX12_readItem 102 = .ok (.aload_n 0, 1) := by decide +kernel
theorem dX12_readItem_103 : decode cX12_readItem 103 = .ok (.getfield 13, 3) := by decide +kernel
theorem dX12_readItem_106 : decode cX12_readItem 106 = .ok (.iload_n 1, 1) := by decide +kernel
theorem dX12_readItem_107 : decode cX12_readItem 107 = .ok (.iconst 1, 1) := by decide +kernel
theorem dX12_readItem_108 : decode cX12_readItem 108 = .ok (.isub, 1) := by decide +kernel
theorem dX12_readItem_109 : decode cX12_readItem 109 = .ok (.iaload, 1) := by decide +kernel
theorem dX12_readItem_110 : decode cX12_readItem 110 = .ok (.bipush 47, 2) := by decide +kernel
theorem dX12_readItem_112 : decode cX12_readItem 112 = .ok (.if_icmp .ne 63, 3) := by decide +kernel
theorem dX12_readItem_115 : decode cX12_readItem 115 = .ok (.aload_n 0, 1) := by decide +kernel
theorem dX12_readItem_116 : decode cX12_readItem 116 = .ok (.getfield 172, 3) := by decide +kernel
theorem dX12_readItem_119 : decode cX12_readItem 119 = .ok (.ifCond .le 56, 3) := by decide +kernel
theorem dX12_readItem_122 : decode cX12_readItem 122 = .ok (.aload_n 0, 1) := by decide +kernel
theorem dX12_readItem_123 : decode cX12_readItem 123 = .ok (.getfield 42, 3) := by decide +kernel
theorem dX12_readItem_126 : decode cX12_readItem 126 = .ok (.aload_n 0, 1) := by decide +kernel
theorem dX12_readItem_127 : decode cX12_readItem 127 = .ok (.getfield 172, 3) := by decide +kernel
theorem dX12_readItem_130 : decode cX12_readItem 130 = .ok (.iconst 1, 1) := by decide +kernel
theorem dX12_readItem_131 : decode cX12_readItem 131 = .ok (.isub, 1) := by decide +kernel
theorem dX12_readItem_132 : decode cX12_readItem 132 = .ok (.iaload, 1) := by decide +kernel
theorem dX12_readItem_133 : decode cX12_readItem 133 = .ok (.iconst 5, 1) := by decide +kernel
theorem dX12_readItem_134 : decode cX12_readItem 134 = .ok (.if_icmp .ne 41, 3) := by decide +kernel
theorem dX12_readItem_137 : decode cX12_readItem 137 = .ok (.aload_n 0, 1) := by decide +kernel
theorem dX12_readItem_138 : decode cX12_readItem 138 = .ok (.getfield 48, 3) := by decide +kernel
theorem dX12_readItem_141 : decode cX12_readItem 141 = .ok (.aload_n 0, 1) := by decide +kernel
theorem dX12_readItem_142 : decode cX12_readItem 142 = .ok (.getfield 172, 3) := by decide +kernel
theorem dX12_readItem_145 : decode cX12_readItem 145 = .ok (.iconst 1, 1) := by decide +kernel
theorem dX12_readItem_146 : decode cX12_readItem 146 = .ok (.isub, 1) := by decide +kernel
theorem dX12_readItem_147 : decode cX12_readItem 147 = .ok (.iaload, 1) := by decide +kernel
theorem dX12_readItem_148 : decode cX12_readItem 148 = .ok (.aload_n 0, 1) := by decide +kernel
theorem dX12_readItem_149 : decode cX12_readItem 149 = .ok (.getfield 188, 3) := by decide +kernel
theorem dX12_readItem_152 : decode cX12_readItem 152 = .ok (.if_icmp .ne 23, 3) := by decide +kernel
theorem dX12_readItem_155 : decode cX12_readItem 155 = .ok (.iload_n 2, 1) := by decide +kernel
theorem dX12_readItem_156 : decode cX12_readItem 156 = .ok (.bipush 49, 2) := by decide +kernel
theorem dX12_readItem_158 : decode cX12_readItem 158 = .ok (.if_icmp .lt 17, 3) := by decide +kernel
theorem dX12_readItem_161 : decode cX12_readItem 161 = .ok (.iload_n 2, 1) := by decide +kernel
theorem dX12_readItem_162 : decode cX12_readItem 162 = .ok (.bipush 57, 2) := by decide +kernel
theorem dX12_readItem_164 : decode cX12_readItem 164 = .ok (.if_icmp .gt 11, 3) := by decide +kernel
theorem dX12_readItem_167 : decode cX12_readItem 167 = .ok (.aload_n 0, 1) := by decide +kernel
theorem dX12_readItem_168 : decode cX12_readItem 168 = .ok (.iload_n 1, 1) := by decide +kernel
theorem dX12_readItem_169 : decode cX12_readItem 169 = .ok (.invokevirtual 191, 3) := by decide +kernel
theorem dX12_readItem_172 : decode cX12_readItem 172 = .ok (.goto 329, 3) := by decide +kernel
theorem dX12_readItem_175 : decode cX12_readItem 175 = .ok (.iload_n 2, 1) := by decide +kernel
theorem dX12_readItem_176 : decode cX12_readItem 176 = .ok (.bipush 48, 2) := by decide +kernel
theorem dX12_readItem_178 : decode cX12_readItem 178 = .ok (.if_icmp .eq 15, 3) := by decide +kernel
theorem dX12_readItem_181 : decode cX12_readItem 181 = .ok (.iload_n 2, 1) := by decide +kernel
theorem dX12_readItem_182 : decode cX12_readItem 182 = .ok (.bipush 35, 2) := by decide +kernel
theorem dX12_readItem_184 : decode cX12_readItem 184 = .ok (.if_icmp .eq 9, 3) := by decide +kernel
theorem dX12_readItem_187 : decode cX12_readItem 187 = .ok (.iload_n 2, 1) := by decide +kernel
theorem dX12_readItem_188 : decode cX12_readItem 188 = .ok (.bipush 63, 2) := by decide +kernel
theorem dX12_readItem_190 : decode cX12_readItem 190 = .ok (.if_icmp .ne 15, 3) := by decide +kernel
theorem dX12_readItem_193 : decode cX12_readItem 193 = .ok (.aload_n 0, 1) := by decide +kernel
theorem dX12_readItem_194 : decode cX12_readItem 194 = .ok (.iconst 1, 1) := by decide +kernel
theorem dX12_readItem_195 : decode cX12_readItem 195 = .ok (.iload_n 2, 1) := by decide +kernel
theorem dX12_readItem_196 : decode cX12_readItem 196 = .ok (.iload_n 1, 1) := by decide +kernel
theorem dX12_readItem_197 : decode cX12_readItem 197 = .ok (.iconst 1, 1) := by decide +kernel
theorem dX12_readItem_198 : decode cX12_readItem 198 = .ok (.iadd, 1) := by decide +kernel
theorem dX12_readItem_199 : decode cX12_readItem 199 = .ok (.invokevirtual 181, 3) := by decide +kernel
theorem dX12_readItem_202 : decode cX12_readItem 202 = .ok (.goto 299, 3) := by decide +kernel
theorem dX12_readItem_205 : decode cX12_readItem 205 = .ok (.iload_n 2, 1) := by decide +kernel
theorem dX12_readItem_206 : decode cX12_readItem 206 = .ok (.bipush 46, 2) := by decide +kernel
theorem dX12_readItem_208 : decode cX12_readItem 208 = .ok (.if_icmp .eq 27, 3) := by decide +kernel
theorem dX12_readItem_211 : decode cX12_readItem 211 = .ok (.iload_n 2, 1) := by decide +kernel
theorem dX12_readItem_212 : decode cX12_readItem 212 = .ok (.bipush 44, 2) := by decide +kernel
theorem dX12_readItem_214 : decode cX12_readItem 214 = .ok (.if_icmp .eq 21, 3) := by decide +kernel
theorem dX12_readItem_217 : decode cX12_readItem 217 = .ok (.iload_n 2, 1) := by decide +kernel
theorem dX12_readItem_218 : decode cX12_readItem 218 = .ok (.bipush 37, 2) := by decide +kernel
theorem dX12_readItem_220 : decode cX12_readItem 220 = .ok (.if_icmp .eq 15, 3) := by decide +kernel
theorem dX12_readItem_223 : decode cX12_readItem 223 = .ok (.iload_n 2, 1) := by decide +kernel
theorem dX12_readItem_224 : decode cX12_readItem 224 = .ok (.bipush 47, 2) := by decide +kernel
theorem dX12_readItem_226 : decode cX12_readItem 226 = .ok (.if_icmp .eq 9, 3) := by decide +kernel
theorem dX12_readItem_229 : decode cX12_readItem 229 = .ok (.iload_n 2, 1) := by decide +kernel
theorem dX12_readItem_230 : decode cX12_readItem 230 = .ok (.bipush 64, 2) := by decide +kernel
theorem dX12_readItem_232 : decode cX12_readItem 232 = .ok (.if_icmp .ne 56, 3) := by decide +kernel
theorem dX12_readItem_235 : decode cX12_readItem 235 = .ok (.aload_n 0, 1) := by decide +kernel
theorem dX12_readItem_236 : decode cX12_readItem 236 = .ok (.iload_n 2, 1) := by decide +kernel
theorem dX12_readItem_237 : decode cX12_readItem 237 = .ok (.bipush 46, 2) := by decide +kernel
theorem dX12_readItem_239 : decode cX12_readItem 239 = .ok (.if_icmp .ne 7, 3) := by decide +kernel
theorem dX12_readItem_242 : decode cX12_readItem 242 = .ok (.iconst 2, 1) := by decide +kernel
theorem dX12_readItem_243 : decode cX12_readItem 243 = .ok (.goto 35, 3) := by decide +kernel
theorem dX12_readItem_246 : decode cX12_readItem 246 = .ok (.iload_n 2, 1) := by decide +kernel
theorem dX12_readItem_247 : decode cX12_readItem 247 = .ok (.bipush 44, 2) := by decide +kernel
theorem dX12_readItem_249 : decode cX12_readItem 249 = .ok (.if_icmp .ne 7, 3) := by decide +kernel
theorem dX12_readItem_252 : decode cX12_readItem 252 = .ok (.iconst 3, 1) := by decide +kernel
theorem dX12_readItem_253 : decode cX12_readItem 253 = .ok (.goto 25, 3) := by decide +kernel
theorem dX12_readItem_256 : decode cX12_readItem 256 = .ok (.iload_n 2, 1) := by decide +kernel
theorem dX12_readItem_257 : decode cX12_readItem 257 = .ok (.bipush 37, 2) := by decide +kernel
theorem dX12_readItem_259 : decode cX12_readItem 259 = .ok (.if_icmp .ne 7, 3) := by decide +kernel
theorem dX12_readItem_262 : decode cX12_readItem 262 = .ok (.iconst 4, 1) := by decide +kernel
theorem dX12_readItem_263 : decode cX12_readItem 263 = .ok (.goto 15, 3) := by decide +kernel
theorem dX12_readItem_266 : decode cX12_readItem 266 = .ok (.iload_n 2, 1) := by decide +kernel
theorem dX12_readItem_267 : decode cX12_readItem 267 = .ok (.bipush 47, 2) := by decide +kernel
theorem dX12_readItem_269 : decode cX12_readItem 269 = .ok (.if_icmp .ne 7, 3) := by decide +kernel
theorem dX12_readItem_272 : decode cX12_readItem 272 = .ok (.iconst 5, 1) := by decide +kernel
theorem dX12_readItem_273 : decode cX12_readItem 273 = .ok (.goto 5, 3) := by decide +kernel
theorem dX12_readItem_276 : decode cX12_readItem 276 = .ok (.bipush 6, 2) := by decide +kernel
theorem dX12_readItem_278 : decode cX12_readItem 278 = .ok (.iload_n 2, 1) := by decide +kernel
theorem dX12_readItem_279 : decode cX12_readItem 279 = .ok (.iload_n 1, 1) := by decide +kernel
theorem dX12_readItem_280 : decode cX12_readItem 280 = .ok (.iconst 1, 1) := by decide +kernel
theorem dX12_readItem_281 : decode cX12_readItem 281 = .ok (.iadd, 1) := by decide +kernel
theorem dX12_readItem_282 : decode cX12_readItem 282 = .ok (.invokevirtual 181, 3) := by decide +kernel
theorem dX12_readItem_285 : decode cX12_readItem 285 = .ok (.goto 216, 3) := by decide +kernel
theorem dX12_readItem_288 : decode cX12_readItem 288 = .ok (.iload_n 2, 1) := by decide +kernel
theorem dX12_readItem_289 : decode cX12_readItem 289 = .ok (.invokestatic 169, 3) := by decide +kernel
theorem dX12_readItem_292 : decode cX12_readItem 292 = .ok (.bipush 101, 2) := by decide +kernel
theorem dX12_readItem_294 : decode cX12_readItem 294 = .ok (.if_icmp .ne 56, 3) := by decide +kernel
theorem dX12_readItem_297 : decode cX12_readItem 297 = .ok (.aload_n 0, 1) := by decide +kernel
theorem dX12_readItem_298 : decode cX12_readItem 298 = .ok (.iload_n 1, 1) := by decide +kernel
theorem dX12_readItem_299 : decode cX12_readItem 299 = .ok (.iconst 1, 1) := by decide +kernel
theorem dX12_readItem_300 : decode cX12_readItem 300 = .ok (.iadd, 1) := by decide +kernel
theorem dX12_readItem_301 : decode cX12_readItem 301 = .ok (.invokevirtual 165, 3) := by decide +kernel
theorem dX12_readItem_304 : decode cX12_readItem 304 = .ok (.bipush 43, 2) := by decide +kernel
theorem dX12_readItem_306 : decode cX12_readItem 306 = .ok (.if_icmp .eq 15, 3) := by decide +kernel
theorem dX12_readItem_309 : decode cX12_readItem 309 = .ok (.aload_n 0, 1) := by decide +kernel
theorem dX12_readItem_310 : decode cX12_readItem 310 = .ok (.iload_n 1, 1) := by decide +kernel
theorem dX12_readItem_311 : decode cX12_readItem 311 = .ok (.iconst 1, 1) := by decide +kernel
theorem dX12_readItem_312 : decode cX12_readItem 312 = .ok (.iadd, 1) := by decide +kernel
theorem dX12_readItem_313 : decode cX12_readItem 313 = .ok (.invokevirtual 165, 3) := by decide +kernel
theorem dX12_readItem_316 : decode cX12_readItem 316 = .ok (.bipush 45, 2) := by decide +kernel
theorem dX12_readItem_318 : decode cX12_readItem 318 = .ok (.if_icmp .ne 32, 3) := by decide +kernel
theorem dX12_readItem_321 : decode cX12_readItem 321 = .ok (.aload_n 0, 1) := by decide +kernel
theorem dX12_readItem_322 : decode cX12_readItem 322 = .ok (.bipush 7, 2) := by decide +kernel
theorem dX12_readItem_324 : decode cX12_readItem 324 = .ok (.aload_n 0, 1) := by decide +kernel
theorem dX12_readItem_325 : decode cX12_readItem 325 = .ok (.iload_n 1, 1) := by decide +kernel
theorem dX12_readItem_326 : decode cX12_readItem 326 = .ok (.iconst 1, 1) := by decide +kernel
theorem dX12_readItem_327 : decode cX12_readItem 327 = .ok (.iadd, 1) := by decide +kernel
theorem dX12_readItem_328 : decode cX12_readItem 328 = .ok (.invokevirtual 165, 3) := by decide +kernel
theorem dX12_readItem_331 : decode cX12_readItem 331 = .ok (.bipush 43, 2) := by decide +kernel
theorem dX12_readItem_333 : decode cX12_readItem 333 = .ok (.if_icmp .ne 7, 3) := by decide +kernel
theorem dX12_readItem_336 : decode cX12_readItem 336 = .ok (.iconst 1, 1) := by decide +kernel
theorem dX12_readItem_337 : decode cX12_readItem 337 = .ok (.goto 4, 3) := by decide +kernel
theorem dX12_readItem_340 : decode cX12_readItem 340 = .ok (.iconst 0, 1) := by decide +kernel
theorem dX12_readItem_341 : decode cX12_readItem 341 = .ok (.iload_n 1, 1) := by decide +kernel
theorem dX12_readItem_342 : decode cX12_readItem 342 = .ok (.iconst 2, 1) := by decide +kernel
theorem dX12_readItem_343 : decode cX12_readItem 343 = .ok (.iadd, 1) := by decide +kernel
theorem dX12_readItem_344 : decode cX12_readItem 344 = .ok (.invokevirtual 181, 3) := by decide +kernel
theorem dX12_readItem_347 : decode cX12_readItem 347 = .ok (.goto 154, 3) := by decide +kernel
theorem dX12_readItem_350 : decode cX12_readItem 350 = .ok (.aload_n 0, 1) := by decide +kernel
theorem dX12_readItem_351 : decode cX12_readItem 351 = .ok (.iload_n 1, 1) := by decide +kernel
theorem dX12_readItem_352 : decode cX12_readItem 352 = .ok (.ldc2_w 194, 3) := by decide +kernel
theorem dX12_readItem_355 : decode cX12_readItem 355 = .ok (.invokevirtual 196, 3) := by decide +kernel
theorem dX12_readItem_358 : decode cX12_readItem 358 = .ok (.ifCond .eq 17, 3) := by decide +kernel
theorem dX12_readItem_361 : decode cX12_readItem 361 = .ok (.aload_n 0, 1) := by decide +kernel
theorem dX12_readItem_362 : decode cX12_readItem 362 = .ok (.bipush 8, 2) := by decide +kernel
theorem dX12_readItem_364 : decode cX12_readItem 364 = .ok (.iconst 0, 1) := by decide +kernel
theorem dX12_readItem_365 : decode cX12_readItem 365 = .ok (.iload_n 1, 1) := by decide +kernel
theorem dX12_readItem_366 : decode cX12_readItem 366 = .ok (.bipush 7, 2) := by decide +kernel
theorem dX12_readItem_368 : decode cX12_readItem 368 = .ok (.iadd, 1) := by decide +kernel
theorem dX12_readItem_369 : decode cX12_readItem 369 = .ok (.invokevirtual 181, 3) := by decide +kernel
theorem dX12_readItem_372 : decode cX12_readItem 372 = .ok (.goto 129, 3) := by decide +kernel
theorem dX12_readItem_375 : decode cX12_readItem 375 = .ok (.aload_n 0, 1) := by decide +kernel
theorem dX12_readItem_376 : decode cX12_readItem 376 = .ok (.iload_n 1, 1) := by decide +kernel
theorem dX12_readItem_377 : decode cX12_readItem 377 = .ok (.ldc2_w 200, 3) := by decide +kernel
theorem dX12_readItem_380 : decode cX12_readItem 380 = .ok (.invokevirtual 196, 3) := by decide +kernel
theorem dX12_readItem_383 : decode cX12_readItem 383 = .ok (.ifCond .eq 16, 3) := by decide +kernel
theorem dX12_readItem_386 : decode cX12_readItem 386 = .ok (.aload_n 0, 1) := by decide +kernel
theorem dX12_readItem_387 : decode cX12_readItem 387 = .ok (.bipush 9, 2) := by decide +kernel
theorem dX12_readItem_389 : decode cX12_readItem 389 = .ok (.iconst 0, 1) := by decide +kernel
theorem dX12_readItem_390 : decode cX12_readItem 390 = .ok (.iload_n 1, 1) := by decide +kernel
theorem dX12_readItem_391 : decode cX12_readItem 391 = .ok (.iconst 5, 1) := by decide +kernel
theorem dX12_readItem_392 : decode cX12_readItem 392 = .ok (.iadd, 1) := by decide +kernel
theorem dX12_readItem_393 : decode cX12_readItem 393 = .ok (.invokevirtual 181, 3) := by decide +kernel
theorem dX12_readItem_396 : decode cX12_readItem 396 = .ok (.goto 105, 3) := by decide +kernel
theorem dX12_readItem_399 : decode cX12_readItem 399 = .ok (.aload_n 0, 1) := by decide +kernel
theorem dX12_readItem_400 : decode cX12_readItem 400 = .ok (.iload_n 1, 1) := by decide +kernel
theorem dX12_readItem_401 : decode cX12_readItem 401 = .ok (.ldc2_w 202, 3) := by decide +kernel
theorem dX12_readItem_404 : decode cX12_readItem 404 = .ok (.invokevirtual 196, 3) := by decide +kernel
theorem dX12_readItem_407 : decode cX12_readItem 407 = .ok (.ifCond .eq 16, 3) := by decide +kernel
theorem dX12_readItem_410 : decode cX12_readItem 410 = .ok (.aload_n 0, 1) := by decide +kernel
theorem dX12_readItem_411 : decode cX12_readItem 411 = .ok (.bipush 9, 2) := by decide +kernel
theorem dX12_readItem_413 : decode cX12_readItem 413 = .ok (.iconst 1, 1) := by decide +kernel
theorem dX12_readItem_414 : decode cX12_readItem 414 = .ok (.iload_n 1, 1) := by decide +kernel
theorem dX12_readItem_415 : decode cX12_readItem 415 = .ok (.iconst 3, 1) := by decide +kernel
theorem dX12_readItem_416 : decode cX12_readItem 416 = .ok (.iadd, 1) := by decide +kernel
theorem dX12_readItem_417 : decode cX12_readItem 417 = .ok (.invokevirtual 181, 3) := by decide +kernel
theorem dX12_readItem_420 : decode cX12_readItem 420 = .ok (.goto 81, 3) := by decide +kernel
theorem dX12_readItem_423 : decode cX12_readItem 423 = .ok (.iload_n 2, 1) := by decide +kernel
theorem dX12_readItem_424 : decode cX12_readItem 424 = .ok (.invokestatic 169, 3) := by decide +kernel
theorem dX12_readItem_427 : decode cX12_readItem 427 = .ok (.bipush 121, 2) := by decide +kernel
theorem dX12_readItem_429 : decode cX12_readItem 429 = .ok (.if_icmp .eq 39, 3) := by decide +kernel
theorem dX12_readItem_432 : decode cX12_readItem 432 = .ok (.iload_n 2, 1) := by decide +kernel
theorem dX12_readItem_433 : decode cX12_readItem 433 = .ok (.invokestatic 169, 3) := by decide +kernel
theorem dX12_readItem_436 : decode cX12_readItem 436 = .ok (.bipush 109, 2) := by decide +kernel
theorem dX12_readItem_438 : decode cX12_readItem 438 = .ok (.if_icmp .eq 30, 3) := by decide +kernel
theorem dX12_readItem_441 : decode cX12_readItem 441 = .ok (.iload_n 2, 1) := by decide +kernel
theorem dX12_readItem_442 : decode cX12_readItem 442 = .ok (.invokestatic 169, 3) := by decide +kernel
theorem dX12_readItem_445 : decode cX12_readItem 445 = .ok (.bipush 100, 2) := by decide +kernel
theorem dX12_readItem_447 : decode cX12_readItem 447 = .ok (.if_icmp .eq 21, 3) := by decide +kernel
theorem dX12_readItem_450 : decode cX12_readItem 450 = .ok (.iload_n 2, 1) := by decide +kernel
theorem dX12_readItem_451 : decode cX12_readItem 451 = .ok (.invokestatic 169, 3) := by decide +kernel
theorem dX12_readItem_454 : decode cX12_readItem 454 = .ok (.bipush 104, 2) := by decide +kernel
theorem dX12_readItem_456 : decode cX12_readItem 456 = .ok (.if_icmp .eq 12, 3) := by decide +kernel
theorem dX12_readItem_459 : decode cX12_readItem 459 = .ok (.iload_n 2, 1) := by decide +kernel
theorem dX12_readItem_460 : decode cX12_readItem 460 = .ok (.invokestatic 169, 3) := by decide +kernel
theorem dX12_readItem_463 : decode cX12_readItem 463 = .ok (.bipush 115, 2) := by decide +kernel
theorem dX12_readItem_465 : decode cX12_readItem 465 = .ok (.if_icmp .ne 15, 3) := by decide +kernel
theorem dX12_readItem_468 : decode cX12_readItem 468 = .ok (.aload_n 0, 1) := by decide +kernel
theorem dX12_readItem_469 : decode cX12_readItem 469 = .ok (.iload_n 1, 1) := by decide +kernel
theorem dX12_readItem_470 : decode cX12_readItem 470 = .ok (.iload_n 2, 1) := by decide +kernel
theorem dX12_readItem_471 : decode cX12_readItem 471 = .ok (.invokestatic 169, 3) := by decide +kernel
theorem dX12_readItem_474 : decode cX12_readItem 474 = .ok (.invokevirtual 204, 3) := by decide +kernel
theorem dX12_readItem_477 : decode cX12_readItem 477 = .ok (.goto 24, 3) := by decide +kernel
theorem dX12_readItem_480 : decode cX12_readItem 480 = .ok (.aload_n 0, 1) := by decide +kernel
theorem dX12_readItem_481 : decode cX12_readItem 481 = .ok (.iload_n 2, 1) := by decide +kernel
theorem dX12_readItem_482 : decode cX12_readItem 482 = .ok (.invokestatic 208, 3) := by decide +kernel
theorem dX12_readItem_485 : decode cX12_readItem 485 = .ok (.ifCond .eq 7, 3) := by decide +kernel
theorem dX12_readItem_488 : decode cX12_readItem 488 = .ok (.iconst 0, 1) := by decide +kernel
theorem dX12_readItem_489 : decode cX12_readItem 489 = .ok (.goto 5, 3) := by decide +kernel
theorem dX12_readItem_492 : decode cX12_readItem 492 = .ok (.bipush 15, 2) := by decide +kernel
theorem dX12_readItem_494 : decode cX12_readItem 494 = .ok (.iload_n 2, 1) := by decide +kernel
theorem dX12_readItem_495 : decode cX12_readItem 495 = .ok (.iload_n 1, 1) := by decide +kernel
theorem dX12_readItem_496 : decode cX12_readItem 496 = .ok (.iconst 1, 1) := by decide +kernel
theorem dX12_readItem_497 : decode cX12_readItem 497 = .ok (.iadd, 1) := by decide +kernel
theorem dX12_readItem_498 : decode cX12_readItem 498 = .ok (.invokevirtual 181, 3) := by decide +kernel
theorem dX12_readItem_501 : decode cX12_readItem 501 = .ok (.return_, 1) := by decide +kernel
theorem dX12_readQuote_0 : decode cX12_readQuote 0 = .ok (.iload_n 1, 1) := by decide +kernel
theorem dX12_readQuote_1 : decode cX12_readQuote 1 = .ok (.iconst 1, 1) := by decide +kernel
theorem dX12_readQuote_2 : decode cX12_readQuote 2 = .ok (.iadd, 1) := by decide +kernel
theorem dX12_readQuote_3 : decode cX12_readQuote 3 = .ok (.istore_n 2, 1) := by decide +kernel
theorem dX12_readQuote_4 : decode cX12_readQuote 4 = .ok (.iload_n 2, 1) := by decide +kernel
theorem dX12_readQuote_5 : decode cX12_readQuote 5 = .ok (.aload_n 0, 1) := by decide +kernel
theorem dX12_readQuote_6 : decode cX12_readQuote 6 = .ok (.getfield 88, 3) := by decide +kernel
theorem dX12_readQuote_9 : decode cX12_readQuote 9 = .ok (.if_icmp .ge 20, 3) := by decide +kernel
theorem dX12_readQuote_12 : decode cX12_readQuote 12 = .ok (.aload_n 0, 1) := by decide +kernel
theorem dX12_readQuote_13 : decode cX12_readQuote 13 = .ok (.getfield 13, 3) := by decide +kernel
theorem dX12_readQuote_16 : decode cX12_readQuote 16 = .ok (.iload_n 2, 1) := by decide +kernel
theorem dX12_readQuote_17 : decode cX12_readQuote 17 = .ok (.iaload, 1) := by decide +kernel
theorem dX12_readQuote_18 : decode cX12_readQuote 18 = .ok (.bipush 34, 2) := by decide +kernel
theorem dX12_readQuote_20 : decode cX12_readQuote 20 = .ok (.if_icmp .eq 9, 3) := by decide +kernel
theorem dX12_readQuote_23 : decode cX12_readQuote 23 = .ok (.iinc 2 1, 3) := by decide +kernel
theorem dX12_readQuote_26 : decode cX12_readQuote 26 = .ok (.goto (-22), 3) := by decide +kernel
theorem dX12_readQuote_29 : decode cX12_readQuote 29 = .ok (.iload_n 2, 1) := by decide +kernel
theorem dX12_readQuote_30 : decode cX12_readQuote 30 = .ok (.aload_n 0, 1) := by decide +kernel
theorem dX12_readQuote_31 : decode cX12_readQuote 31 = .ok (.getfield 88, 3) := by decide +kernel
theorem dX12_readQuote_34 : decode cX12_readQuote 34 = .ok (.if_icmp .ge 40, 3) := by decide +kernel
theorem dX12_readQuote_37 : decode cX12_readQuote 37 = .ok (.aload_n 0, 1) := by decide +kernel
theorem dX12_readQuote_38 : decode cX12_readQuote 38 = .ok (.iload_n 2, 1) := by decide +kernel
theorem dX12_readQuote_39 : decode cX12_readQuote 39 = .ok (.iload_n 1, 1) := by decide +kernel
theorem dX12_readQuote_40 : decode cX12_readQuote 40 = .ok (.iconst 1, 1) := by decide +kernel
theorem dX12_readQuote_41 : decode cX12_readQuote 41 = .ok (.iadd, 1) := by decide +kernel
theorem dX12_readQuote_42 : decode cX12_readQuote 42 = .ok (.if_icmp .ne 8, 3) := by decide +kernel
theorem dX12_readQuote_45 : decode cX12_readQuote 45 = .ok (.bipush 16, 2) := by decide +kernel
theorem dX12_readQuote_47 : decode cX12_readQuote 47 = .ok (.goto 5, 3) := by decide +kernel
theorem dX12_readQuote_50 : decode cX12_readQuote 50 = .ok (.bipush 14, 2) := by decide +kernel
theorem dX12_readQuote_52 : decode cX12_readQuote 52 = .ok (.sipush 256, 3) := by decide +kernel
theorem dX12_readQuote_55 : decode cX12_readQuote 55 = .ok (.iload_n 1, 1) := by decide +kernel
theorem dX12_readQuote_56 : decode cX12_readQuote 56 = .ok (.iconst 1, 1) := by decide +kernel
theorem dX12_readQuote_57 : decode cX12_readQuote 57 = .ok (.iadd, 1) := by decide +kernel
theorem dX12_readQuote_58 : decode cX12_readQuote 58 = .ok (.imul, 1) := by decide +kernel
theorem dX12_readQuote_59 : decode cX12_readQuote 59 = .ok (.iload_n 2, 1) := by decide +kernel
theorem dX12_readQuote_60 : decode cX12_readQuote 60 = .ok (.iadd, 1) := by decide +kernel
theorem dX12_readQuote_61 : decode cX12_readQuote 61 = .ok (.iload_n 1, 1) := by decide +kernel
theorem dX12_readQuote_62 : decode cX12_readQuote 62 = .ok (.isub, 1) := by decide +kernel
theorem dX12_readQuote_63 : decode cX12_readQuote 63 = .ok (.iconst 1, 1) := by decide +kernel
theorem dX12_readQuote_64 : decode cX12_readQuote 64 = .ok (.isub, 1) := by decide +kernel
theorem dX12_readQuote_65 : decode cX12_readQuote 65 = .ok (.iload_n 2, 1) := by decide +kernel
theorem dX12_readQuote_66 : decode cX12_readQuote 66 = .ok (.iconst 1, 1) := by decide +kernel
theorem dX12_readQuote_67 : decode cX12_readQuote 67 = .ok (.iadd, 1) := by decide +kernel
theorem dX12_readQuote_68 : decode cX12_readQuote 68 = .ok (.invokevirtual 181, 3) := by decide +kernel
theorem dX12_readQuote_71 : decode cX12_readQuote 71 = .ok (.goto 13, 3) := by decide +kernel
theorem dX12_readQuote_74 : decode cX12_readQuote 74 = .ok (.aload_n 0, 1) := by decide +kernel
theorem dX12_readQuote_75 : decode cX12_readQuote 75 = .ok (.bipush 15, 2) := by decide +kernel
theorem dX12_readQuote_77 : decode cX12_readQuote 77 = .ok (.iconst 0, 1) := by decide +kernel
theorem dX12_readQuote_78 : decode cX12_readQuote 78 = .ok (.iload_n 1, 1) := by decide +kernel
theorem dX12_readQuote_79 : decode cX12_readQuote 79 = .ok (.iconst 1, 1) := by decide +kernel
theorem dX12_readQuote_80 : decode cX12_readQuote 80 = .ok (.iadd, 1) := by decide +kernel
theorem dX12_readQuote_81 : decode cX12_readQuote 81 = .ok (.invokevirtual 181, 3) := by decide +kernel
theorem dX12_readQuote_84 : decode cX12_readQuote 84 = .ok (.return_, 1) := by decide +kernel
theorem dX12_readDivisor_0 : decode cX12_readDivisor 0 = .ok (.iconst 0, 1) := by decide +kernel
theorem dX12_readDivisor_1 : decode cX12_readDivisor 1 = .ok (.istore_n 2, 1) := by decide +kernel
theorem dX12_readDivisor_2 : decode cX12_readDivisor 2 = .ok (.iconst 0, 1) := by decide +kernel
theorem dX12_readDivisor_3 : decode cX12_readDivisor 3 = .ok (.istore_n 3, 1) := by decide +kernel
theorem dX12_readDivisor_4 : decode cX12_readDivisor 4 = .ok (.iload_n 3, 1) := by decide +kernel
theorem dX12_readDivisor_5 : decode cX12_readDivisor 5 = .ok (.iconst 3, 1) := by decide +kernel
theorem dX12_readDivisor_6 : decode cX12_readDivisor 6 = .ok (.if_icmp .ge 38, 3) := by decide +kernel
theorem dX12_readDivisor_9 : decode cX12_readDivisor 9 = .ok (.aload_n 0, 1) := by decide +kernel
theorem dX12_readDivisor_10 : decode cX12_readDivisor 10 = .ok (.iload_n 1, 1) := by decide +kernel
theorem dX12_readDivisor_11 : decode cX12_readDivisor 11 = .ok (.iload_n 3, 1) := by decide +kernel
theorem dX12_readDivisor_12 : decode cX12_readDivisor 12 = .ok (.iadd, 1) := by decide +kernel
theorem dX12_readDivisor_13 : decode cX12_readDivisor 13 = .ok (.invokevirtual 165, 3) := by decide +kernel
theorem dX12_readDivisor_16 : decode cX12_readDivisor 16 = .ok (.invokestatic 212, 3) := by decide +kernel
theorem dX12_readDivisor_19 : decode cX12_readDivisor 19 = .ok (.ifCond .eq 25, 3) := by decide +kernel
theorem dX12_readDivisor_22 : decode cX12_readDivisor 22 = .ok (.bipush 10, 2) := by decide +kernel
theorem dX12_readDivisor_24 : decode cX12_readDivisor 24 = .ok (.iload_n 2, 1) := by decide +kernel
theorem dX12_readDivisor_25 : decode cX12_readDivisor 25 = .ok (.imul, 1) := by decide +kernel
theorem dX12_readDivisor_26 : decode cX12_readDivisor 26 = .ok (.aload_n 0, 1) := by decide +kernel
theorem dX12_readDivisor_27 : decode cX12_readDivisor 27 = .ok (.iload_n 1, 1) := by decide +kernel
theorem dX12_readDivisor_28 : decode cX12_readDivisor 28 = .ok (.iload_n 3, 1) := by decide +kernel
theorem dX12_readDivisor_29 : decode cX12_readDivisor 29 = .ok (.iadd, 1) := by decide +kernel
theorem dX12_readDivisor_30 : decode cX12_readDivisor 30 = .ok (.invokevirtual 165, 3) := by decide +kernel
theorem dX12_readDivisor_33 : decode cX12_readDivisor 33 = .ok (.iadd, 1) := by decide +kernel
theorem dX12_readDivisor_34 : decode cX12_readDivisor 34 = .ok (.bipush 48, 2) := by decide +kernel
theorem dX12_readDivisor_36 : decode cX12_readDivisor 36 = .ok (.isub, 1) := by decide +kernel
theorem dX12_readDivisor_37 : decode cX12_readDivisor 37 = .ok (.istore_n 2, 1) := by decide +kernel
theorem dX12_readDivisor_38 : decode cX12_readDivisor 38 = .ok (.iinc 3 1, 3) := by decide +kernel
theorem dX12_readDivisor_41 : decode cX12_readDivisor 41 = .ok (.goto (-37), 3) := by decide +kernel
theorem dX12_readDivisor_44 : decode cX12_readDivisor 44 = .ok (.aload_n 0, 1) := by decide +kernel
theorem dX12_readDivisor_45 : decode cX12_readDivisor 45 = .ok (.bipush 13, 2) := by decide +kernel
theorem dX12_readDivisor_47 : decode cX12_readDivisor 47 = .ok (.iload_n 2, 1) := by decide +kernel
theorem dX12_readDivisor_48 : decode cX12_readDivisor 48 = .ok (.iload_n 1, 1) := by decide +kernel
theorem dX12_readDivisor_49 : decode cX12_readDivisor 49 = .ok (.iload_n 3, 1) := by decide +kernel
theorem dX12_readDivisor_50 : decode cX12_readDivisor 50 = .ok (.iadd, 1) := by decide +kernel
theorem dX12_readDivisor_51 : decode cX12_readDivisor 51 = .ok (.invokevirtual 181, 3) := by decide +kernel
theorem dX12_readDivisor_54 : decode cX12_readDivisor 54 = .ok (.return_, 1) := by decide +kernel
theorem dX12_readLetters_0 : decode cX12_readLetters 0 = .ok (.iconst 0, 1) := by decide +kernel
theorem dX12_readLetters_1 : decode cX12_readLetters 1 = .ok (.istore_n 3, 1) := by decide +kernel
theorem dX12_readLetters_2 : decode cX12_readLetters 2 = .ok (.aload_n 0, 1) := by decide +kernel
theorem dX12_readLetters_3 : decode cX12_readLetters 3 = .ok (.iload_n 1, 1) := by decide +kernel
theorem dX12_readLetters_4 : decode cX12_readLetters 4 = .ok (.iload_n 3, 1) := by decide +kernel
theorem dX12_readLetters_5 : decode cX12_readLetters 5 = .ok (.iadd, 1) := by decide +kernel
theorem dX12_readLetters_6 : decode cX12_readLetters 6 = .ok (.invokevirtual 165, 3) := by decide +kernel
theorem dX12_readLetters_9 : decode cX12_readLetters 9 = .ok (.invokestatic 169, 3) := by decide +kernel
theorem dX12_readLetters_12 : decode cX12_readLetters 12 = .ok (.iload_n 2, 1) := by decide +kernel
theorem dX12_readLetters_13 : decode cX12_readLetters 13 = .ok (.if_icmp .ne 9, 3) := by decide +kernel
theorem dX12_readLetters_16 : decode cX12_readLetters 16 = .ok (.iinc 3 1, 3) := by decide +kernel
theorem dX12_readLetters_19 : decode cX12_readLetters 19 = .ok (.goto (-17), 3) := by decide +kernel
theorem dX12_readLetters_22 : decode cX12_readLetters 22 = .ok (.iload_n 2, 1) := by decide +kernel
theorem dX12_readLetters_23 : decode cX12_readLetters 23 = .ok (.bipush 109, 2) := by decide +kernel
theorem dX12_readLetters_25 : decode cX12_readLetters 25 = .ok (.if_icmp .ne 7, 3) := by decide +kernel
theorem dX12_readLetters_28 : decode cX12_readLetters 28 = .ok (.iconst 5, 1) := by decide +kernel
theorem dX12_readLetters_29 : decode cX12_readLetters 29 = .ok (.goto 20, 3) := by decide +kernel
theorem dX12_readLetters_32 : decode cX12_readLetters 32 = .ok (.iload_n 2, 1) := by decide +kernel
theorem dX12_readLetters_33 : decode cX12_readLetters 33 = .ok (.bipush 104, 2) := by decide +kernel
theorem dX12_readLetters_35 : decode cX12_readLetters 35 = .ok (.if_icmp .eq 9, 3) := by decide +kernel
theorem dX12_readLetters_38 : decode cX12_readLetters 38 = .ok (.iload_n 2, 1) := by decide +kernel
theorem dX12_readLetters_39 : decode cX12_readLetters 39 = .ok (.bipush 115, 2) := by decide +kernel
theorem dX12_readLetters_41 : decode cX12_readLetters 41 = .ok (.if_icmp .ne 7, 3) := by decide +kernel
theorem dX12_readLetters_44 : decode cX12_readLetters 44 = .ok (.iconst 2, 1) := by decide +kernel
theorem dX12_readLetters_45 : decode cX12_readLetters 45 = .ok (.goto 4, 3) := by decide +kernel
theorem dX12_readLetters_48 : decode cX12_readLetters 48 = .ok (.iconst 4, 1) := by decide +kernel
theorem dX12_readLetters_49 : decode cX12_readLetters 49 = .ok (.istore 4, 2) := by decide +kernel
theorem dX12_readLetters_51 : decode cX12_readLetters 51 = .ok (.aload_n 0, 1) := by decide +kernel
theorem dX12_readLetters_52 : decode cX12_readLetters 52 = .ok (.iload_n 3, 1) := by decide +kernel
theorem dX12_readLetters_53 : decode cX12_readLetters 53 = .ok (.iload 4, 2) := by decide +kernel
theorem dX12_readLetters_55 : decode cX12_readLetters 55 = .ok (.if_icmp .le 8, 3) := by decide +kernel
theorem dX12_readLetters_58 : decode cX12_readLetters 58 = .ok (.bipush 15, 2) := by decide +kernel
theorem dX12_readLetters_60 : decode cX12_readLetters 60 = .ok (.goto 5, 3) := by decide +kernel
theorem dX12_readLetters_63 : decode cX12_readLetters 63 = .ok (.bipush 10, 2) := by decide +kernel
theorem dX12_readLetters_65 : decode cX12_readLetters 65 = .ok (.bipush 8, 2) := by decide +kernel
theorem dX12_readLetters_67 : decode cX12_readLetters 67 = .ok (.iload_n 2, 1) := by decide +kernel
theorem dX12_readLetters_68 : decode cX12_readLetters 68 = .ok (.imul, 1) := by decide +kernel
theorem dX12_readLetters_69 : decode cX12_readLetters 69 = .ok (.iload_n 3, 1) := by decide +kernel
theorem dX12_readLetters_70 : decode cX12_readLetters 70 = .ok (.iadd, 1) := by decide +kernel
theorem dX12_readLetters_71 : decode cX12_readLetters 71 = .ok (.iload_n 1, 1) := by decide +kernel
theorem dX12_readLetters_72 : decode cX12_readLetters 72 = .ok (.iload_n 3, 1) := by decide +kernel
theorem dX12_readLetters_73 : decode cX12_readLetters 73 = .ok (.iadd, 1) := by decide +kernel
theorem dX12_readLetters_74 : decode cX12_readLetters 74 = .ok (.invokevirtual 181, 3) := by decide +kernel
theorem dX12_readLetters_77 : decode cX12_readLetters 77 = .ok (.return_, 1) := by decide +kernel
theorem dX12_readBracket_0 : decode cX12_readBracket 0 = .ok (.iload_n 1, 1) := by decide +kernel
theorem dX12_readBracket_1 : decode cX12_readBracket 1 = .ok (.iconst 1, 1) := by decide +kernel
theorem dX12_readBracket_2 : decode cX12_readBracket 2 = .ok (.iadd, 1) := by decide +kernel
theorem dX12_readBracket_3 : decode cX12_readBracket 3 = .ok (.istore_n 2, 1) := by decide +kernel
theorem dX12_readBracket_4 : decode cX12_readBracket 4 = .ok (.iload_n 2, 1) := by decide +kernel
theorem dX12_readBracket_5 : decode cX12_readBracket 5 = .ok (.aload_n 0, 1) := by decide +kernel
theorem dX12_readBracket_6 : decode cX12_readBracket 6 = .ok (.getfield 88, 3) := by decide +kernel
theorem dX12_readBracket_9 : decode cX12_readBracket 9 = .ok (.if_icmp .ge 20, 3) := by decide +kernel
theorem dX12_readBracket_12 : decode cX12_readBracket 12 = .ok (.aload_n 0, 1) := by decide +kernel
theorem dX12_readBracket_13 : decode cX12_readBracket 13 = .ok (.getfield 13, 3) := by decide +kernel
theorem dX12_readBracket_16 : decode cX12_readBracket 16 = .ok (.iload_n 2, 1) := by decide +kernel
theorem dX12_readBracket_17 : decode cX12_readBracket 17 = .ok (.iaload, 1) := by decide +kernel
theorem dX12_readBracket_18 : decode cX12_readBracket 18 = .ok (.bipush 93, 2) := by decide +kernel
theorem dX12_readBracket_20 : decode cX12_readBracket 20 = .ok (.if_icmp .eq 9, 3) := by decide +kernel
theorem dX12_readBracket_23 : decode cX12_readBracket 23 = .ok (.iinc 2 1, 3) := by decide +kernel
theorem dX12_readBracket_26 : decode cX12_readBracket 26 = .ok (.goto (-22), 3) := by decide +kernel
theorem dX12_readBracket_29 : decode cX12_readBracket 29 = .ok (.aload_n 0, 1) := by decide +kernel
theorem dX12_readBracket_30 : decode cX12_readBracket 30 = .ok (.iload_n 1, 1) := by decide +kernel
theorem dX12_readBracket_31 : decode cX12_readBracket 31 = .ok (.iconst 1, 1) := by decide +kernel
theorem dX12_readBracket_32 : decode cX12_readBracket 32 = .ok (.iadd, 1) := by decide +kernel
theorem dX12_readBracket_33 : decode cX12_readBracket 33 = .ok (.invokevirtual 165, 3) := by decide +kernel
theorem dX12_readBracket_36 : decode cX12_readBracket 36 = .ok (.invokestatic 169, 3) := by decide +kernel
theorem dX12_readBracket_39 : decode cX12_readBracket 39 = .ok (.istore_n 3, 1) := by decide +kernel
theorem dX12_readBracket_40 : decode cX12_readBracket 40 = .ok (.iload_n 2, 1) := by decide +kernel
theorem dX12_readBracket_41 : decode cX12_readBracket 41 = .ok (.iload_n 1, 1) := by decide +kernel
theorem dX12_readBracket_42 : decode cX12_readBracket 42 = .ok (.isub, 1) := by decide +kernel
theorem dX12_readBracket_43 : decode cX12_readBracket 43 = .ok (.iconst 1, 1) := by decide +kernel
theorem dX12_readBracket_44 : decode cX12_readBracket 44 = .ok (.isub, 1) := by decide +kernel
theorem dX12_readBracket_45 : decode cX12_readBracket 45 = .ok (.istore 4, 2) := by decide +kernel
theorem dX12_readBracket_47 : decode cX12_readBracket 47 = .ok (.iload_n 3, 1) := by decide +kernel
theorem dX12_readBracket_48 : decode cX12_readBracket 48 = .ok (.bipush 104, 2) := by decide +kernel
theorem dX12_readBracket_50 : decode cX12_readBracket 50 = .ok (.if_icmp .eq 15, 3) := by decide +kernel
theorem dX12_readBracket_53 : decode cX12_readBracket 53 = .ok (.iload_n 3, 1) := by decide +kernel
theorem dX12_readBracket_54 : decode cX12_readBracket 54 = .ok (.bipush 109, 2) := by decide +kernel
theorem dX12_readBracket_56 : decode cX12_readBracket 56 = .ok (.if_icmp .eq 9, 3) := by decide +kernel
theorem dX12_readBracket_59 : decode cX12_readBracket 59 = .ok (.iload_n 3, 1) := by decide +kernel
theorem dX12_readBracket_60 : decode cX12_readBracket 60 = .ok (.bipush 115, 2) := by decide +kernel
theorem dX12_readBracket_62 : decode cX12_readBracket 62 = .ok (.if_icmp .ne 7, 3) := by decide +kernel
theorem dX12_readBracket_65 : decode cX12_readBracket 65 = .ok (.iconst 1, 1) := by decide +kernel
theorem dX12_readBracket_66 : decode cX12_readBracket 66 = .ok (.goto 4, 3) := by decide +kernel
theorem dX12_readBracket_69 : decode cX12_readBracket 69 = .ok (.iconst 0, 1) := by decide +kernel
theorem dX12_readBracket_70 : decode cX12_readBracket 70 = .ok (.istore 5, 2) := by decide +kernel
theorem dX12_readBracket_72 : decode cX12_readBracket 72 = .ok (.iload_n 2, 1) := by decide +kernel
theorem dX12_readBracket_73 : decode cX12_readBracket 73 = .ok (.aload_n 0, 1) := by decide +kernel
theorem dX12_readBracket_74 : decode cX12_readBracket 74 = .ok (.getfield 88, 3) := by decide +kernel
theorem dX12_readBracket_77 : decode cX12_readBracket 77 = .ok (.if_icmp .ne 16, 3) := by decide +kernel
theorem dX12_readBracket_80 : decode cX12_readBracket 80 = .ok (.aload_n 0, 1) := by decide +kernel
theorem dX12_readBracket_81 : decode cX12_readBracket 81 = .ok (.bipush 15, 2) := by decide +kernel
theorem dX12_readBracket_83 : decode cX12_readBracket 83 = .ok (.iconst 0, 1) := by decide +kernel
theorem dX12_readBracket_84 : decode cX12_readBracket 84 = .ok (.iload_n 1, 1) := by decide +kernel
theorem dX12_readBracket_85 : decode cX12_readBracket 85 = .ok (.iconst 1, 1) := by decide +kernel
theorem dX12_readBracket_86 : decode cX12_readBracket 86 = .ok (.iadd, 1) := by decide +kernel
theorem dX12_readBracket_87 : decode cX12_readBracket 87 = .ok (.invokevirtual 181, 3) := by decide +kernel
theorem dX12_readBracket_90 : decode cX12_readBracket 90 = .ok (.goto 87, 3) := by decide +kernel
theorem dX12_readBracket_93 : decode cX12_readBracket 93 = .ok (.iload 5, 2) := by decide +kernel
theorem dX12_readBracket_95 : decode cX12_readBracket 95 = .ok (.ifCond .eq 48, 3) := by decide +kernel
theorem dX12_readBracket_98 : decode cX12_readBracket 98 = .ok (.iload 4, 2) := by decide +kernel
theorem dX12_readBracket_100 : decode cX12_readBracket 100 = .ok (.iconst 1, 1) := by decide +kernel
theorem dX12_readBracket_101 : decode cX12_readBracket 101 = .ok (.if_icmp .eq 23, 3) := by decide +kernel
theorem dX12_readBracket_104 : decode cX12_readBracket 104 = .ok (.iload 4, 2) := by decide +kernel
theorem dX12_readBracket_106 : decode cX12_readBracket 106 = .ok (.iconst 2, 1) := by decide +kernel
theorem dX12_readBracket_107 : decode cX12_readBracket 107 = .ok (.if_icmp .ne 36, 3) := by decide +kernel
theorem dX12_readBracket_110 : decode cX12_readBracket 110 = .ok (.aload_n 0, 1) := by decide +kernel
theorem dX12_readBracket_111 : decode cX12_readBracket 111 = .ok (.iload_n 1, 1) := by decide +kernel
theorem dX12_readBracket_112 : decode cX12_readBracket 112 = .ok (.iconst 2, 1) := by decide +kernel
theorem dX12_readBracket_113 : decode cX12_readBracket 113 = .ok (.iadd, 1) := by decide +kernel
theorem dX12_readBracket_114 : decode cX12_readBracket 114 = .ok (.invokevirtual 165, 3) := by decide +kernel
theorem dX12_readBracket_117 : decode cX12_readBracket 117 = .ok (.invokestatic 169, 3) := by decide +kernel
theorem dX12_readBracket_120 : decode cX12_readBracket 120 = .ok (.iload_n 3, 1) := by decide +kernel
theorem dX12_readBracket_121 : decode cX12_readBracket 121 = .ok (.if_icmp .ne 22, 3) := by decide +kernel
theorem dX12_readBracket_124 : decode cX12_readBracket 124 = .ok (.aload_n 0, 1) := by decide +kernel
theorem dX12_readBracket_125 : decode cX12_readBracket 125 = .ok (.bipush 12, 2) := by decide +kernel
theorem dX12_readBracket_127 : decode cX12_readBracket 127 = .ok (.bipush 8, 2) := by decide +kernel
theorem dX12_readBracket_129 : decode cX12_readBracket 129 = .ok (.iload_n 3, 1) := by decide +kernel
theorem dX12_readBracket_130 : decode cX12_readBracket 130 = .ok (.imul, 1) := by decide +kernel
theorem dX12_readBracket_131 : decode cX12_readBracket 131 = .ok (.iload 4, 2) := by decide +kernel
theorem dX12_readBracket_133 : decode cX12_readBracket 133 = .ok (.iadd, 1) := by decide +kernel
theorem dX12_readBracket_134 : decode cX12_readBracket 134 = .ok (.iload_n 2, 1) := by decide +kernel
theorem dX12_readBracket_135 : decode cX12_readBracket 135 = .ok (.iconst 1, 1) := by decide +kernel
theorem dX12_readBracket_136 : decode cX12_readBracket 136 = .ok (.iadd, 1) := by decide +kernel
theorem dX12_readBracket_137 : decode cX12_readBracket 137 = .ok (.invokevirtual 181, 3) := by decide +kernel
theorem dX12_readBracket_140 : decode cX12_readBracket 140 = .ok (.goto 37, 3) := by decide +kernel
theorem dX12_readBracket_143 : decode cX12_readBracket 143 = .ok (.aload_n 0, 1) := by decide +kernel
theorem dX12_readBracket_144 : decode cX12_readBracket 144 = .ok (.iload_n 1, 1) := by decide +kernel
theorem dX12_readBracket_145 : decode cX12_readBracket 145 = .ok (.iconst 1, 1) := by decide +kernel
theorem dX12_readBracket_146 : decode cX12_readBracket 146 = .ok (.iadd, 1) := by decide +kernel
theorem dX12_readBracket_147 : decode cX12_readBracket 147 = .ok (.iload_n 2, 1) := by decide +kernel
theorem dX12_readBracket_148 : decode cX12_readBracket 148 = .ok (.invokevirtual 215, 3) := by decide +kernel
theorem dX12_readBracket_151 : decode cX12_readBracket 151 = .ok (.ifCond .eq 16, 3) := by decide +kernel
theorem dX12_readBracket_154 : decode cX12_readBracket 154 = .ok (.aload_n 0, 1) := by decide +kernel
theorem dX12_readBracket_155 : decode cX12_readBracket 155 = .ok (.bipush 11, 2) := by decide +kernel
theorem dX12_readBracket_157 : decode cX12_readBracket 157 = .ok (.iconst 0, 1) := by decide +kernel
theorem dX12_readBracket_158 : decode cX12_readBracket 158 = .ok (.iload_n 2, 1) := by decide +kernel
theorem dX12_readBracket_159 : decode cX12_readBracket 159 = .ok (.iconst 1, 1) := by decide +kernel
theorem dX12_readBracket_160 : decode cX12_readBracket 160 = .ok (.iadd, 1) := by decide +kernel
theorem dX12_readBracket_161 : decode cX12_readBracket 161 = .ok (.invokevirtual 181, 3) := by decide +kernel
theorem dX12_readBracket_164 : decode cX12_readBracket 164 = .ok (.goto 13, 3) := by decide +kernel
theorem dX12_readBracket_167 : decode cX12_readBracket 167 = .ok (.aload_n 0, 1) := by decide +kernel
theorem dX12_readBracket_168 : decode cX12_readBracket 168 = .ok (.bipush 15, 2) := by decide +kernel
theorem dX12_readBracket_170 : decode cX12_readBracket 170 = .ok (.iconst 0, 1) := by decide +kernel
theorem dX12_readBracket_171 : decode cX12_readBracket 171 = .ok (.iload_n 1, 1) := by decide +kernel
theorem dX12_readBracket_172 : decode cX12_readBracket 172 = .ok (.iconst 1, 1) := by decide +kernel
theorem dX12_readBracket_173 : decode cX12_readBracket 173 = .ok (.iadd, 1) := by decide +kernel
theorem dX12_readBracket_174 : decode cX12_readBracket 174 = .ok (.invokevirtual 181, 3) := by decide +kernel
theorem dX12_readBracket_177 : decode cX12_readBracket 177 = .ok (.return_, 1) := by decide +kernel
theorem dX12_readCondition_0 : decode cX12_readCondition 0 = .ok (.aload_n 0, 1) := by decide +kernel
theorem dX12_readCondition_1 : decode cX12_readCondition 1 = .ok (.iload_n 1, 1) := by decide +kernel
theorem dX12_readCondition_2 : decode cX12_readCondition 2 = .ok (.invokevirtual 165, 3) := by decide +kernel
theorem dX12_readCondition_5 : decode cX12_readCondition 5 = .ok (.istore_n 3, 1) := by decide +kernel
theorem dX12_readCondition_6 : decode cX12_readCondition 6 = .ok (.aload_n 0, 1) := by decide +kernel
theorem dX12_readCondition_7 : decode cX12_readCondition 7 = .ok (.iload_n 1, 1) := by decide +kernel
theorem dX12_readCondition_8 : decode cX12_readCondition 8 = .ok (.iconst 1, 1) := by decide +kernel
theorem dX12_readCondition_9 : decode cX12_readCondition 9 = .ok (.iadd, 1) := by decide +kernel
theorem dX12_readCondition_10 : decode cX12_readCondition 10 = .ok (.invokevirtual 165, 3) := by decide +kernel
theorem dX12_readCondition_13 : decode cX12_readCondition 13 = .ok (.istore 4, 2) := by decide +kernel
theorem dX12_readCondition_15 : decode cX12_readCondition 15 = .ok (.iload_n 3, 1) := by decide +kernel
theorem dX12_readCondition_16 : decode cX12_readCondition 16 = .ok (.bipush 60, 2) := by decide +kernel
theorem dX12_readCondition_18 : decode cX12_readCondition 18 = .ok (.if_icmp .ne 29, 3) := by decide +kernel
theorem dX12_readCondition_21 : decode cX12_readCondition 21 = .ok (.iload 4, 2) := by decide +kernel
theorem dX12_readCondition_23 : decode cX12_readCondition 23 = .ok (.bipush 61, 2) := by decide +kernel
theorem dX12_readCondition_25 : decode cX12_readCondition 25 = .ok (.if_icmp .ne 7, 3) := by decide +kernel
theorem dX12_readCondition_28 : decode cX12_readCondition 28 = .ok (.iconst 2, 1) := by decide +kernel
theorem dX12_readCondition_29 : decode cX12_readCondition 29 = .ok (.goto 51, 3) := by decide +kernel
theorem dX12_readCondition_32 : decode cX12_readCondition 32 = .ok (.iload 4, 2) := by decide +kernel
theorem dX12_readCondition_34 : decode cX12_readCondition 34 = .ok (.bipush 62, 2) := by decide +kernel
theorem dX12_readCondition_36 : decode cX12_readCondition 36 = .ok (.if_icmp .ne 7, 3) := by decide +kernel
theorem dX12_readCondition_39 : decode cX12_readCondition 39 = .ok (.iconst 4, 1) := by decide +kernel
theorem dX12_readCondition_40 : decode cX12_readCondition 40 = .ok (.goto 40, 3) := by decide +kernel
theorem dX12_readCondition_43 : decode cX12_readCondition 43 = .ok (.iconst 1, 1) := by decide +kernel
theorem dX12_readCondition_44 : decode cX12_readCondition 44 = .ok (.goto 36, 3) := by decide +kernel
theorem dX12_readCondition_47 : decode cX12_readCondition 47 = .ok (.iload_n 3, 1) := by decide +kernel
theorem dX12_readCondition_48 : decode cX12_readCondition 48 = .ok (.bipush 61, 2) := by decide +kernel
theorem dX12_readCondition_50 : decode cX12_readCondition 50 = .ok (.if_icmp .ne 7, 3) := by decide +kernel
theorem dX12_readCondition_53 : decode cX12_readCondition 53 = .ok (.iconst 3, 1) := by decide +kernel
theorem dX12_readCondition_54 : decode cX12_readCondition 54 = .ok (.goto 26, 3) := by decide +kernel
theorem dX12_readCondition_57 : decode cX12_readCondition 57 = .ok (.iload_n 3, 1) := by decide +kernel
theorem dX12_readCondition_58 : decode cX12_readCondition 58 = .ok (.bipush 62, 2) := by decide +kernel
theorem dX12_readCondition_60 : decode cX12_readCondition 60 = .ok (.if_icmp .ne 19, 3) := by decide +kernel
theorem dX12_readCondition_63 : decode cX12_readCondition 63 = .ok (.iload 4, 2) := by decide +kernel
theorem dX12_readCondition_65 : decode cX12_readCondition 65 = .ok (.bipush 61, 2) := by decide +kernel
theorem dX12_readCondition_67 : decode cX12_readCondition 67 = .ok (.if_icmp .ne 7, 3) := by decide +kernel
theorem dX12_readCondition_70 : decode cX12_readCondition 70 = .ok (.iconst 5, 1) := by decide +kernel
theorem dX12_readCondition_71 : decode cX12_readCondition 71 = .ok (.goto 9, 3) := by decide +kernel
theorem dX12_readCondition_74 : decode cX12_readCondition 74 = .ok (.bipush 6, 2) := by decide +kernel
theorem dX12_readCondition_76 : decode cX12_readCondition 76 = .ok (.goto 4, 3) := by decide +kernel
theorem dX12_readCondition_79 : decode cX12_readCondition 79 = .ok (.iconst 0, 1) := by decide +kernel
theorem dX12_readCondition_80 : decode cX12_readCondition 80 = .ok (.istore 5, 2) := by decide +kernel
theorem dX12_readCondition_82 : decode cX12_readCondition 82 = .ok (.iload_n 1, 1) := by decide +kernel
theorem dX12_readCondition_83 : decode cX12_readCondition 83 = .ok (.iload 5, 2) := by decide +kernel
theorem dX12_readCondition_85 : decode cX12_readCondition 85 = .ok (.iconst 2, 1) := by decide +kernel
theorem dX12_readCondition_86 : decode cX12_readCondition 86 = .ok (.if_icmp .eq 15, 3) := by decide +kernel
theorem dX12_readCondition_89 : decode cX12_readCondition 89 = .ok (.iload 5, 2) := by decide +kernel
theorem dX12_readCondition_91 : decode cX12_readCondition 91 = .ok (.iconst 4, 1) := by decide +kernel
theorem dX12_readCondition_92 : decode cX12_readCondition 92 = .ok (.if_icmp .eq 9, 3) := by decide +kernel
theorem dX12_readCondition_95 : decode cX12_readCondition 95 = .ok (.iload 5, 2) := by decide +kernel
theorem dX12_readCondition_97 : decode cX12_readCondition 97 = .ok (.iconst 5, 1) := by decide +kernel
theorem dX12_readCondition_98 : decode cX12_readCondition 98 = .ok (.if_icmp .ne 7, 3) := by decide +kernel
theorem dX12_readCondition_101 : decode cX12_readCondition 101 = .ok (.iconst 2, 1) := by decide +kernel
theorem dX12_readCondition_102 : decode cX12_readCondition 102 = .ok (.goto 4, 3) := by decide +kernel
theorem dX12_readCondition_105 : decode cX12_readCondition 105 = .ok (.iconst 1, 1) := by decide +kernel
theorem dX12_readCondition_106 : decode cX12_readCondition 106 = .ok (.iadd, 1) := by decide +kernel
theorem dX12_readCondition_107 : decode cX12_readCondition 107 = .ok (.istore 6, 2) := by decide +kernel
theorem dX12_readCondition_109 : decode cX12_readCondition 109 = .ok (.aload_n 0, 1) := by decide +kernel
theorem dX12_readCondition_110 : decode cX12_readCondition 110 = .ok (.iload 6, 2) := by decide +kernel
theorem dX12_readCondition_112 : decode cX12_readCondition 112 = .ok (.invokevirtual 165, 3) := by decide +kernel
theorem dX12_readCondition_115 : decode cX12_readCondition 115 = .ok (.bipush 45, 2) := by decide +kernel
theorem dX12_readCondition_117 : decode cX12_readCondition 117 = .ok (.if_icmp .ne 7, 3) := by decide +kernel
theorem dX12_readCondition_120 : decode cX12_readCondition 120 = .ok (.iconst 1, 1) := by decide +kernel
theorem dX12_readCondition_121 : decode cX12_readCondition 121 = .ok (.goto 4, 3) := by decide +kernel
theorem dX12_readCondition_124 : decode cX12_readCondition 124 = .ok (.iconst 0, 1) := by decide +kernel
theorem dX12_readCondition_125 : decode cX12_readCondition 125 = .ok (.istore 7, 2) := by decide +kernel
theorem dX12_readCondition_127 : decode cX12_readCondition 127 = .ok (.iload 7, 2) := by decide +kernel
theorem dX12_readCondition_129 : decode cX12_readCondition 129 = .ok (.ifCond .eq 6, 3) := by decide +kernel
theorem dX12_readCondition_132 : decode cX12_readCondition 132 = .ok (.iinc 6 1, 3) := by decide +kernel
theorem dX12_readCondition_135 : decode cX12_readCondition 135 = .ok (.iconst 0, 1) := by decide +kernel
theorem dX12_readCondition_136 : decode cX12_readCondition 136 = .ok (.istore 8, 2) := by decide +kernel
theorem dX12_readCondition_138 : decode cX12_readCondition 138 = .ok (.lconst 0, 1) := by decide +kernel
theorem dX12_readCondition_139 : decode cX12_readCondition 139 = .ok (.lstore 9, 2) := by decide +kernel
theorem dX12_readCondition_141 : decode cX12_readCondition 141 = .ok (.iload 8, 2) := by decide +kernel
theorem dX12_readCondition_143 : decode cX12_readCondition 143 = .ok (.bipush 10, 2) := by decide +kernel
theorem dX12_readCondition_145 : decode cX12_readCondition 145 = .ok (.if_icmp .ge 47, 3) := by decide +kernel
theorem dX12_readCondition_148 : decode cX12_readCondition 148 = .ok (.aload_n 0, 1) := by decide +kernel
theorem dX12_readCondition_149 : decode cX12_readCondition 149 = .ok (.iload 6, 2) := by decide +kernel
theorem dX12_readCondition_151 : decode cX12_readCondition 151 = .ok (.iload 8, 2) := by decide +kernel
theorem dX12_readCondition_153 : decode cX12_readCondition 153 = .ok (.iadd, 1) := by decide +kernel
theorem dX12_readCondition_154 : decode cX12_readCondition 154 = .ok (.invokevirtual 165, 3) := by decide +kernel
theorem dX12_readCondition_157 : decode cX12_readCondition 157 = .ok (.invokestatic 212, 3) := by decide +kernel
theorem dX12_readCondition_160 : decode cX12_readCondition 160 = .ok (.ifCond .eq 32, 3) := by decide +kernel
theorem dX12_readCondition_163 : decode cX12_readCondition 163 = .ok (.ldc2_w 114, 3) := by decide +kernel
theorem dX12_readCondition_166 : decode cX12_readCondition 166 = .ok (.lload 9, 2) := by decide +kernel
theorem dX12_readCondition_168 : decode cX12_readCondition 168 = .ok (.lmul, 1) := by decide +kernel
theorem dX12_readCondition_169 : decode cX12_readCondition 169 = .ok (.aload_n 0, 1) := by decide +kernel
theorem dX12_readCondition_170 : decode cX12_readCondition 170 = .ok (.iload 6, 2) := by decide +kernel
theorem dX12_readCondition_172 : decode cX12_readCondition 172 = .ok (.iload 8, 2) := by decide +kernel
theorem dX12_readCondition_174 : decode cX12_readCondition 174 = .ok (.iadd, 1) := by decide +kernel
theorem dX12_readCondition_175 : decode cX12_readCondition 175 = .ok (.invokevirtual 165, 3) := by decide +kernel
theorem dX12_readCondition_178 : decode cX12_readCondition 178 = .ok (.i2l, 1) := by decide +kernel
theorem dX12_readCondition_179 : decode cX12_readCondition 179 = .ok (.ladd, 1) := by decide +kernel
theorem dX12_readCondition_180 : decode cX12_readCondition 180 = .ok (.ldc2_w 219, 3) := by decide +kernel
theorem dX12_readCondition_183 : decode cX12_readCondition 183 = .ok (.lsub, 1) := by decide +kernel
theorem dX12_readCondition_184 : decode cX12_readCondition 184 = .ok (.lstore 9, 2) := by decide +kernel
theorem dX12_readCondition_186 : decode cX12_readCondition 186 = .ok (.iinc 8 1, 3) := by decide +kernel
theorem dX12_readCondition_189 : decode cX12_readCondition 189 = .ok (.goto (-48), 3) := by decide +kernel
theorem dX12_readCondition_192 : decode cX12_readCondition 192 = .ok (.iload 5, 2) := by decide +kernel
theorem dX12_readCondition_194 : decode cX12_readCondition 194 = .ok (.ifCond .eq 16, 3) := by decide +kernel
theorem dX12_readCondition_197 : decode cX12_readCondition 197 = .ok (.iload 8, 2) := by decide +kernel
theorem dX12_readCondition_199 : decode cX12_readCondition 199 = .ok (.iconst 1, 1) := by decide +kernel
theorem dX12_readCondition_200 : decode cX12_readCondition 200 = .ok (.if_icmp .lt 10, 3) := by decide +kernel
theorem dX12_readCondition_203 : decode cX12_readCondition 203 = .ok (.iload 8, 2) := by decide +kernel
theorem dX12_readCondition_205 : decode cX12_readCondition 205 = .ok (.bipush 9, 2) := by decide +kernel
theorem dX12_readCondition_207 : decode cX12_readCondition 207 = .ok (.if_icmp .le 5, 3) := by decide +kernel
theorem dX12_readCondition_210 : decode cX12_readCondition 210 = .ok (.iconst 0, 1) := by decide +kernel
theorem dX12_readCondition_211 : decode cX12_readCondition 211 = .ok (.ireturn, 1) := by decide +kernel
theorem dX12_readCondition_212 : decode cX12_readCondition 212 = .ok (.iload 6, 2) := by decide +kernel
theorem dX12_readCondition_214 : decode cX12_readCondition 214 = .ok (.iload 8, 2) := by decide +kernel
theorem dX12_readCondition_216 : decode cX12_readCondition 216 = .ok (.iadd, 1) := by decide +kernel
theorem dX12_readCondition_217 : decode cX12_readCondition 217 = .ok (.istore 6, 2) := by decide +kernel
theorem dX12_readCondition_219 : decode cX12_readCondition 219 = .ok (.iconst 0, 1) := by decide +kernel
theorem dX12_readCondition_220 : decode cX12_readCondition 220 = .ok (.istore 8, 2) := by decide +kernel
theorem dX12_readCondition_222 : decode cX12_readCondition 222 = .ok (.lconst 0, 1) := by decide +kernel
theorem dX12_readCondition_223 : decode cX12_readCondition 223 = .ok (.lstore 11, 2) := by decide +kernel
theorem dX12_readCondition_225 : decode cX12_readCondition 225 = .ok (.aload_n 0, 1) := by decide +kernel
theorem dX12_readCondition_226 : decode cX12_readCondition 226 = .ok (.iload 6, 2) := by decide +kernel
theorem dX12_readCondition_228 : decode cX12_readCondition 228 = .ok (.invokevirtual 165, 3) := by decide +kernel
theorem dX12_readCondition_231 : decode cX12_readCondition 231 = .ok (.bipush 46, 2) := by decide +kernel
theorem dX12_readCondition_233 : decode cX12_readCondition 233 = .ok (.if_icmp .ne 72, 3) := by decide +kernel
theorem dX12_readCondition_236 : decode cX12_readCondition 236 = .ok (.iinc 6 1, 3) := by decide +kernel
theorem dX12_readCondition_239 : decode cX12_readCondition 239 = .ok (.iload 8, 2) := by decide +kernel
theorem dX12_readCondition_241 : decode cX12_readCondition 241 = .ok (.bipush 10, 2) := by decide +kernel
theorem dX12_readCondition_243 : decode cX12_readCondition 243 = .ok (.if_icmp .ge 47, 3) := by decide +kernel
theorem dX12_readCondition_246 : decode cX12_readCondition 246 = .ok (.aload_n 0, 1) := by decide +kernel
theorem dX12_readCondition_247 : decode cX12_readCondition 247 = .ok (.iload 6, 2) := by decide +kernel
theorem dX12_readCondition_249 : decode cX12_readCondition 249 = .ok (.iload 8, 2) := by decide +kernel
theorem dX12_readCondition_251 : decode cX12_readCondition 251 = .ok (.iadd, 1) := by decide +kernel
theorem dX12_readCondition_252 : decode cX12_readCondition 252 = .ok (.invokevirtual 165, 3) := by decide +kernel
theorem dX12_readCondition_255 : decode cX12_readCondition 255 = .ok (.invokestatic 212, 3) := by decide +kernel
theorem dX12_readCondition_258 : decode cX12_readCondition 258 = .ok (.ifCond .eq 32, 3) := by decide +kernel
theorem dX12_readCondition_261 : decode cX12_readCondition 261 = .ok (.ldc2_w 114, 3) := by decide +kernel
theorem dX12_readCondition_264 : decode cX12_readCondition 264 = .ok (.lload 11, 2) := by decide +kernel
theorem dX12_readCondition_266 : decode cX12_readCondition 266 = .ok (.lmul, 1) := by decide +kernel
theorem dX12_readCondition_267 : decode cX12_readCondition 267 = .ok (.aload_n 0, 1) := by decide +kernel
theorem dX12_readCondition_268 : decode cX12_readCondition 268 = .ok (.iload 6, 2) := by decide +kernel
theorem dX12_readCondition_270 : decode cX12_readCondition 270 = .ok (.iload 8, 2) := by decide +kernel
theorem dX12_readCondition_272 : decode cX12_readCondition 272 = .ok (.iadd, 1) := by decide +kernel
theorem dX12_readCondition_273 : decode cX12_readCondition 273 = .ok (.invokevirtual 165, 3) := by decide +kernel
theorem dX12_readCondition_276 : decode cX12_readCondition 276 = .ok (.i2l, 1) := by decide +kernel
theorem dX12_readCondition_277 : decode cX12_readCondition 277 = .ok (.ladd, 1) := by decide +kernel
theorem dX12_readCondition_278 : decode cX12_readCondition 278 = .ok (.ldc2_w 219, 3) := by decide +kernel
theorem dX12_readCondition_281 : decode cX12_readCondition 281 = .ok (.lsub, 1) := by decide +kernel
theorem dX12_readCondition_282 : decode cX12_readCondition 282 = .ok (.lstore 11, 2) := by decide +kernel
theorem dX12_readCondition_284 : decode cX12_readCondition 284 = .ok (.iinc 8 1, 3) := by decide +kernel
theorem dX12_readCondition_287 : decode cX12_readCondition 287 = .ok (.goto (-48), 3) := by decide +kernel
theorem dX12_readCondition_290 : decode cX12_readCondition 290 = .ok (.iload 8, 2) := by decide +kernel
theorem dX12_readCondition_292 : decode cX12_readCondition 292 = .ok (.iconst 1, 1) := by decide +kernel
theorem dX12_readCondition_293 : decode cX12_readCondition 293 = .ok (.if_icmp .lt 10, 3) := by decide +kernel
theorem dX12_readCondition_296 : decode cX12_readCondition 296 = .ok (.iload 8, 2) := by decide +kernel
theorem dX12_readCondition_298 : decode cX12_readCondition 298 = .ok (.bipush 9, 2) := by decide +kernel
theorem dX12_readCondition_300 : decode cX12_readCondition 300 = .ok (.if_icmp .le 5, 3) := by decide +kernel
theorem dX12_readCondition_303 : decode cX12_readCondition 303 = .ok (.iconst 0, 1) := by decide +kernel
theorem dX12_readCondition_304 : decode cX12_readCondition 304 = .ok (.ireturn, 1) := by decide +kernel
theorem dX12_readCondition_305 : decode cX12_readCondition 305 = .ok (.iload 6, 2) := by decide +kernel
theorem dX12_readCondition_307 : decode cX12_readCondition 307 = .ok (.iload 8, 2) := by decide +kernel
theorem dX12_readCondition_309 : decode cX12_readCondition 309 = .ok (.iadd, 1) := by decide +kernel
theorem dX12_readCondition_310 : decode cX12_readCondition 310 = .ok (.iload_n 2, 1) := by decide +kernel
theorem dX12_readCondition_311 : decode cX12_readCondition 311 = .ok (.if_icmp .eq 5, 3) := by decide +kernel
theorem dX12_readCondition_314 : decode cX12_readCondition 314 = .ok (.iconst 0, 1) := by decide +kernel
theorem dX12_readCondition_315 : decode cX12_readCondition 315 = .ok (.ireturn, 1) := by decide +kernel
theorem dX12_readCondition_316 : decode cX12_readCondition 316 = .ok (.aload_n 0, 1) := by decide +kernel
theorem dX12_readCondition_317 : decode cX12_readCondition 317 = .ok (.lload 9, 2) := by decide +kernel
theorem dX12_readCondition_319 : decode cX12_readCondition 319 = .ok (.lload 11, 2) := by decide +kernel
theorem dX12_readCondition_321 : decode cX12_readCondition 321 = .ok (.iload 8, 2) := by decide +kernel
theorem dX12_readCondition_323 : decode cX12_readCondition 323 = .ok (.invokevirtual 221, 3) := by decide +kernel
theorem dX12_readCondition_326 : decode cX12_readCondition 326 = .ok (.dstore 13, 2) := by decide +kernel
theorem dX12_readCondition_328 : decode cX12_readCondition 328 = .ok (.aload_n 0, 1) := by decide +kernel
theorem dX12_readCondition_329 : decode cX12_readCondition 329 = .ok (.getfield 188, 3) := by decide +kernel
theorem dX12_readCondition_332 : decode cX12_readCondition 332 = .ok (.iconst 4, 1) := by decide +kernel
theorem dX12_readCondition_333 : decode cX12_readCondition 333 = .ok (.if_icmp .ge 37, 3) := by decide +kernel
theorem dX12_readCondition_336 : decode cX12_readCondition 336 = .ok (.aload_n 0, 1) := by decide +kernel
theorem dX12_readCondition_337 : decode cX12_readCondition 337 = .ok (.getfield 54, 3) := by decide +kernel
theorem dX12_readCondition_340 : decode cX12_readCondition 340 = .ok (.aload_n 0, 1) := by decide +kernel
theorem dX12_readCondition_341 : decode cX12_readCondition 341 = .ok (.getfield 188, 3) := by decide +kernel
theorem dX12_readCondition_344 : decode cX12_readCondition 344 = .ok (.iload 5, 2) := by decide +kernel
theorem dX12_readCondition_346 : decode cX12_readCondition 346 = .ok (.iastore, 1) := by decide +kernel
theorem dX12_readCondition_347 : decode cX12_readCondition 347 = .ok (.aload_n 0, 1) := by decide +kernel
theorem dX12_readCondition_348 : decode cX12_readCondition 348 = .ok (.getfield 57, 3) := by decide +kernel
theorem dX12_readCondition_351 : decode cX12_readCondition 351 = .ok (.aload_n 0, 1) := by decide +kernel
theorem dX12_readCondition_352 : decode cX12_readCondition 352 = .ok (.getfield 188, 3) := by decide +kernel
theorem dX12_readCondition_355 : decode cX12_readCondition 355 = .ok (.iload 7, 2) := by decide +kernel
theorem dX12_readCondition_357 : decode cX12_readCondition 357 = .ok (.ifCond .eq 10, 3) := by decide +kernel
theorem dX12_readCondition_360 : decode cX12_readCondition 360 = .ok (.dconst 0, 1) := by decide +kernel
theorem dX12_readCondition_361 : decode cX12_readCondition 361 = .ok (.dload 13, 2) := by decide +kernel
theorem dX12_readCondition_363 : decode cX12_readCondition 363 = .ok (.dsub, 1) := by decide +kernel
theorem dX12_readCondition_364 : decode cX12_readCondition 364 = .ok (.goto 5, 3) := by decide +kernel
theorem dX12_readCondition_367 : decode cX12_readCondition 367 = .ok (.dload 13, 2) := by decide +kernel
theorem dX12_readCondition_369 : decode cX12_readCondition 369 = .ok (.dastore, 1) := by decide +kernel
theorem dX12_readCondition_370 : decode cX12_readCondition 370 = .ok (.iconst 1, 1) := by decide +kernel
theorem dX12_readCondition_371 : decode cX12_readCondition 371 = .ok (.ireturn, 1) := by decide +kernel
theorem dX12_has_0 : decode cX12_has 0 = .ok (.iconst 0, 1) := by decide +kernel
theorem dX12_has_1 : decode cX12_has 1 = .ok (.istore 4, 2) := by decide +kernel
theorem dX12_has_3 : decode cX12_has 3 = .ok (.iload_n 1, 1) := by decide +kernel
theorem dX12_has_4 : decode cX12_has 4 = .ok (.istore 5, 2) := by decide +kernel
theorem dX12_has_6 : decode cX12_has 6 = .ok (.iload 5, 2) := by decide +kernel
theorem dX12_has_8 : decode cX12_has 8 = .ok (.iload_n 2, 1) := by decide +kernel
theorem dX12_has_9 : decode cX12_has 9 = .ok (.if_icmp .ge 29, 3) := by decide +kernel
theorem dX12_has_12 : decode cX12_has 12 = .ok (.iload 4, 2) := by decide +kernel
theorem dX12_has_14 : decode cX12_has 14 = .ok (.ifCond .ne 11, 3) := by decide +kernel
theorem dX12_has_17 : decode cX12_has 17 = .ok (.aload_n 0, 1) := by decide +kernel
theorem dX12_has_18 : decode cX12_has 18 = .ok (.iload 5, 2) := by decide +kernel
theorem dX12_has_20 : decode cX12_has 20 = .ok (.iaload, 1) := by decide +kernel
theorem dX12_has_21 : decode cX12_has 21 = .ok (.iload_n 3, 1) := by decide +kernel
theorem dX12_has_22 : decode cX12_has 22 = .ok (.if_icmp .ne 7, 3) := by decide +kernel
theorem dX12_has_25 : decode cX12_has 25 = .ok (.iconst 1, 1) := by decide +kernel
theorem dX12_has_26 : decode cX12_has 26 = .ok (.goto 4, 3) := by decide +kernel
theorem dX12_has_29 : decode cX12_has 29 = .ok (.iconst 0, 1) := by decide +kernel
theorem dX12_has_30 : decode cX12_has 30 = .ok (.istore 4, 2) := by decide +kernel
theorem dX12_has_32 : decode cX12_has 32 = .ok (.iinc 5 1, 3) := by decide +kernel
theorem dX12_has_35 : decode cX12_has 35 = .ok (.goto (-29), 3) := by decide +kernel
theorem dX12_has_38 : decode cX12_has 38 = .ok (.iload 4, 2) := by decide +kernel
theorem dX12_has_40 : decode cX12_has 40 = .ok (.ireturn, 1) := by decide +kernel
theorem dX12_sortOf_0 : decode cX12_sortOf 0 = .ok (.aload_n 0, 1) := by decide +kernel
theorem dX12_sortOf_1 : decode cX12_sortOf 1 = .ok (.iload_n 1, 1) := by decide +kernel
theorem dX12_sortOf_2 : decode cX12_sortOf 2 = .ok (.iload_n 2, 1) := by decide +kernel
theorem dX12_sortOf_3 : decode cX12_sortOf 3 = .ok (.bipush 10, 2) := by decide +kernel
theorem dX12_sortOf_5 : decode cX12_sortOf 5 = .ok (.invokestatic 225, 3) := by decide +kernel
theorem dX12_sortOf_8 : decode cX12_sortOf 8 = .ok (.ifCond .ne 25, 3) := by decide +kernel
theorem dX12_sortOf_11 : decode cX12_sortOf 11 = .ok (.aload_n 0, 1) := by decide +kernel
theorem dX12_sortOf_12 : decode cX12_sortOf 12 = .ok (.iload_n 1, 1) := by decide +kernel
theorem dX12_sortOf_13 : decode cX12_sortOf 13 = .ok (.iload_n 2, 1) := by decide +kernel
theorem dX12_sortOf_14 : decode cX12_sortOf 14 = .ok (.bipush 12, 2) := by decide +kernel
theorem dX12_sortOf_16 : decode cX12_sortOf 16 = .ok (.invokestatic 225, 3) := by decide +kernel
theorem dX12_sortOf_19 : decode cX12_sortOf 19 = .ok (.ifCond .ne 14, 3) := by decide +kernel
theorem dX12_sortOf_22 : decode cX12_sortOf 22 = .ok (.aload_n 0, 1) := by decide +kernel
theorem dX12_sortOf_23 : decode cX12_sortOf 23 = .ok (.iload_n 1, 1) := by decide +kernel
theorem dX12_sortOf_24 : decode cX12_sortOf 24 = .ok (.iload_n 2, 1) := by decide +kernel
theorem dX12_sortOf_25 : decode cX12_sortOf 25 = .ok (.bipush 9, 2) := by decide +kernel
theorem dX12_sortOf_27 : decode cX12_sortOf 27 = .ok (.invokestatic 225, 3) := by decide +kernel
theorem dX12_sortOf_30 : decode cX12_sortOf 30 = .ok (.ifCond .eq 5, 3) := by decide +kernel
theorem dX12_sortOf_33 : decode cX12_sortOf 33 = .ok (.iconst 3, 1) := by decide +kernel
theorem dX12_sortOf_34 : decode cX12_sortOf 34 = .ok (.ireturn, 1) := by decide +kernel
theorem dX12_sortOf_35 : decode cX12_sortOf 35 = .ok (.aload_n 0, 1) := by decide +kernel
theorem dX12_sortOf_36 : decode cX12_sortOf 36 = .ok (.iload_n 1, 1) := by decide +kernel
theorem dX12_sortOf_37 : decode cX12_sortOf 37 = .ok (.iload_n 2, 1) := by decide +kernel
theorem dX12_sortOf_38 : decode cX12_sortOf 38 = .ok (.bipush 6, 2) := by decide +kernel
theorem dX12_sortOf_40 : decode cX12_sortOf 40 = .ok (.invokestatic 225, 3) := by decide +kernel
theorem dX12_sortOf_43 : decode cX12_sortOf 43 = .ok (.ifCond .eq 7, 3) := by decide +kernel
theorem dX12_sortOf_46 : decode cX12_sortOf 46 = .ok (.iconst 2, 1) := by decide +kernel
theorem dX12_sortOf_47 : decode cX12_sortOf 47 = .ok (.goto 34, 3) := by decide +kernel
theorem dX12_sortOf_50 : decode cX12_sortOf 50 = .ok (.aload_n 0, 1) := by decide +kernel
theorem dX12_sortOf_51 : decode cX12_sortOf 51 = .ok (.iload_n 1, 1) := by decide +kernel
theorem dX12_sortOf_52 : decode cX12_sortOf 52 = .ok (.iload_n 2, 1) := by decide +kernel
theorem dX12_sortOf_53 : decode cX12_sortOf 53 = .ok (.bipush 8, 2) := by decide +kernel
theorem dX12_sortOf_55 : decode cX12_sortOf 55 = .ok (.invokestatic 225, 3) := by decide +kernel
theorem dX12_sortOf_58 : decode cX12_sortOf 58 = .ok (.ifCond .eq 8, 3) := by decide +kernel
theorem dX12_sortOf_61 : decode cX12_sortOf 61 = .ok (.bipush 8, 2) := by decide +kernel
theorem dX12_sortOf_63 : decode cX12_sortOf 63 = .ok (.goto 18, 3) := by decide +kernel
theorem dX12_sortOf_66 : decode cX12_sortOf 66 = .ok (.aload_n 0, 1) := by decide +kernel
theorem dX12_sortOf_67 : decode cX12_sortOf 67 = .ok (.iload_n 1, 1) := by decide +kernel
theorem dX12_sortOf_68 : decode cX12_sortOf 68 = .ok (.iload_n 2, 1) := by decide +kernel
theorem dX12_sortOf_69 : decode cX12_sortOf 69 = .ok (.iconst 1, 1) := by decide +kernel
theorem dX12_sortOf_70 : decode cX12_sortOf 70 = .ok (.invokestatic 225, 3) := by decide +kernel
theorem dX12_sortOf_73 : decode cX12_sortOf 73 = .ok (.ifCond .eq 7, 3) := by decide +kernel
theorem dX12_sortOf_76 : decode cX12_sortOf 76 = .ok (.iconst 1, 1) := by decide +kernel
theorem dX12_sortOf_77 : decode cX12_sortOf 77 = .ok (.goto 4, 3) := by decide +kernel
theorem dX12_sortOf_80 : decode cX12_sortOf 80 = .ok (.iconst 0, 1) := by decide +kernel
theorem dX12_sortOf_81 : decode cX12_sortOf 81 = .ok (.ireturn, 1) := by decide +kernel
theorem dX12_find_0 : decode cX12_find 0 = .ok (.iload_n 1, 1) := by decide +kernel
theorem dX12_find_1 : decode cX12_find 1 = .ok (.istore 4, 2) := by decide +kernel
theorem dX12_find_3 : decode cX12_find 3 = .ok (.iload 4, 2) := by decide +kernel
theorem dX12_find_5 : decode cX12_find 5 = .ok (.iload_n 2, 1) := by decide +kernel
theorem dX12_find_6 : decode cX12_find 6 = .ok (.if_icmp .ge 17, 3) := by decide +kernel
theorem dX12_find_9 : decode cX12_find 9 = .ok (.aload_n 0, 1) := by decide +kernel
theorem dX12_find_10 : decode cX12_find 10 = .ok (.iload 4, 2) := by decide +kernel
theorem dX12_find_12 : decode cX12_find 12 = .ok (.iaload, 1) := by decide +kernel
theorem dX12_find_13 : decode cX12_find 13 = .ok (.iload_n 3, 1) := by decide +kernel
theorem dX12_find_14 : decode cX12_find 14 = .ok (.if_icmp .eq 9, 3) := by decide +kernel
theorem dX12_find_17 : decode cX12_find 17 = .ok (.iinc 4 1, 3) := by decide +kernel
theorem dX12_find_20 : decode cX12_find 20 = .ok (.goto (-17), 3) := by decide +kernel
theorem dX12_find_23 : decode cX12_find 23 = .ok (.iload 4, 2) := by decide +kernel
theorem dX12_find_25 : decode cX12_find 25 = .ok (.ireturn, 1) := by decide +kernel
theorem dX12_rowFrom_0 : decode cX12_rowFrom 0 = .ok (.iconst 0, 1) := by decide +kernel
theorem dX12_rowFrom_1 : decode cX12_rowFrom 1 = .ok (.istore_n 3, 1) := by decide +kernel
theorem dX12_rowFrom_2 : decode cX12_rowFrom 2 = .ok (.iload_n 1, 1) := by decide +kernel
theorem dX12_rowFrom_3 : decode cX12_rowFrom 3 = .ok (.iload_n 3, 1) := by decide +kernel
theorem dX12_rowFrom_4 : decode cX12_rowFrom 4 = .ok (.iadd, 1) := by decide +kernel
theorem dX12_rowFrom_5 : decode cX12_rowFrom 5 = .ok (.iload_n 2, 1) := by decide +kernel
theorem dX12_rowFrom_6 : decode cX12_rowFrom 6 = .ok (.if_icmp .ge 18, 3) := by decide +kernel
theorem dX12_rowFrom_9 : decode cX12_rowFrom 9 = .ok (.aload_n 0, 1) := by decide +kernel
theorem dX12_rowFrom_10 : decode cX12_rowFrom 10 = .ok (.iload_n 1, 1) := by decide +kernel
theorem dX12_rowFrom_11 : decode cX12_rowFrom 11 = .ok (.iload_n 3, 1) := by decide +kernel
theorem dX12_rowFrom_12 : decode cX12_rowFrom 12 = .ok (.iadd, 1) := by decide +kernel
theorem dX12_rowFrom_13 : decode cX12_rowFrom 13 = .ok (.iaload, 1) := by decide +kernel
theorem dX12_rowFrom_14 : decode cX12_rowFrom 14 = .ok (.iconst 1, 1) := by decide +kernel
theorem dX12_rowFrom_15 : decode cX12_rowFrom 15 = .ok (.if_icmp .ne 9, 3) := by decide +kernel
theorem dX12_rowFrom_18 : decode cX12_rowFrom 18 = .ok (.iinc 3 1, 3) := by decide +kernel
