theorem dX0_init_0 : decode cX0_init 0 = .ok (.aload_n 0, 1) := by decide +kernel
theorem dX0_init_1 : decode cX0_init 1 = .ok (.invokespecial 3, 3) := by decide +kernel
theorem dX0_init_4 : decode cX0_init 4 = .ok (.return_, 1) := by decide +kernel
theorem dX0_put_0 : decode cX0_put 0 = .ok (.aload_n 0, 1) := by decide +kernel
theorem dX0_put_1 : decode cX0_put 1 = .ok (.aload_n 1, 1) := by decide +kernel
theorem dX0_put_2 : decode cX0_put 2 = .ok (.invokevirtual 9, 3) := by decide +kernel
theorem dX0_put_5 : decode cX0_put 5 = .ok (.dload 4, 2) := by decide +kernel
theorem dX0_put_7 : decode cX0_put 7 = .ok (.aload_n 2, 1) := by decide +kernel
theorem dX0_put_8 : decode cX0_put 8 = .ok (.iload_n 3, 1) := by decide +kernel
theorem dX0_put_9 : decode cX0_put 9 = .ok (.invokestatic 15, 3) := by decide +kernel
theorem dX0_put_12 : decode cX0_put 12 = .ok (.invokevirtual 21, 3) := by decide +kernel
theorem dX0_put_15 : decode cX0_put 15 = .ok (.ifCond .ne 10, 3) := by decide +kernel
theorem dX0_put_18 : decode cX0_put 18 = .ok (.aload_n 1, 1) := by decide +kernel
theorem dX0_put_19 : decode cX0_put 19 = .ok (.ldc 25, 2) := by decide +kernel
theorem dX0_put_21 : decode cX0_put 21 = .ok (.invokevirtual 27, 3) := by decide +kernel
theorem dX0_put_24 : decode cX0_put 24 = .ok (.return_, 1) := by decide +kernel
theorem dX0_put_25 : decode cX0_put 25 = .ok (.aload_n 0, 1) := by decide +kernel
theorem dX0_put_26 : decode cX0_put 26 = .ok (.aload_n 2, 1) := by decide +kernel
theorem dX0_put_27 : decode cX0_put 27 = .ok (.iload_n 3, 1) := by decide +kernel
theorem dX0_put_28 : decode cX0_put 28 = .ok (.bipush 12, 2) := by decide +kernel
theorem dX0_put_30 : decode cX0_put 30 = .ok (.invokevirtual 31, 3) := by decide +kernel
theorem dX0_put_33 : decode cX0_put 33 = .ok (.iconst (-1), 1) := by decide +kernel
theorem dX0_put_34 : decode cX0_put 34 = .ok (.if_icmp .eq 7, 3) := by decide +kernel
theorem dX0_put_37 : decode cX0_put 37 = .ok (.iconst 1, 1) := by decide +kernel
theorem dX0_put_38 : decode cX0_put 38 = .ok (.goto 4, 3) := by decide +kernel
theorem dX0_put_41 : decode cX0_put 41 = .ok (.iconst 0, 1) := by decide +kernel
theorem dX0_put_42 : decode cX0_put 42 = .ok (.putfield 37, 3) := by decide +kernel
theorem dX0_put_45 : decode cX0_put 45 = .ok (.aload_n 0, 1) := by decide +kernel
theorem dX0_put_46 : decode cX0_put 46 = .ok (.iconst 0, 1) := by decide +kernel
theorem dX0_put_47 : decode cX0_put 47 = .ok (.putfield 41, 3) := by decide +kernel
theorem dX0_put_50 : decode cX0_put 50 = .ok (.aload_n 2, 1) := by decide +kernel
theorem dX0_put_51 : decode cX0_put 51 = .ok (.iload_n 3, 1) := by decide +kernel
theorem dX0_put_52 : decode cX0_put 52 = .ok (.invokevirtual 45, 3) := by decide +kernel
theorem dX0_put_55 : decode cX0_put 55 = .ok (.istore 6, 2) := by decide +kernel
theorem dX0_put_57 : decode cX0_put 57 = .ok (.iload 6, 2) := by decide +kernel
theorem dX0_put_59 : decode cX0_put 59 = .ok (.aload_n 2, 1) := by decide +kernel
theorem dX0_put_60 : decode cX0_put 60 = .ok (.iload_n 3, 1) := by decide +kernel
theorem dX0_put_61 : decode cX0_put 61 = .ok (.invokevirtual 49, 3) := by decide +kernel
theorem dX0_put_64 : decode cX0_put 64 = .ok (.if_icmp .ge 17, 3) := by decide +kernel
theorem dX0_put_67 : decode cX0_put 67 = .ok (.aload_n 0, 1) := by decide +kernel
theorem dX0_put_68 : decode cX0_put 68 = .ok (.aload_n 1, 1) := by decide +kernel
theorem dX0_put_69 : decode cX0_put 69 = .ok (.aload_n 2, 1) := by decide +kernel
theorem dX0_put_70 : decode cX0_put 70 = .ok (.iload 6, 2) := by decide +kernel
theorem dX0_put_72 : decode cX0_put 72 = .ok (.invokevirtual 52, 3) := by decide +kernel
theorem dX0_put_75 : decode cX0_put 75 = .ok (.iinc 6 1, 3) := by decide +kernel
theorem dX0_put_78 : decode cX0_put 78 = .ok (.goto (-21), 3) := by decide +kernel
theorem dX0_put_81 : decode cX0_put 81 = .ok (.return_, 1) := by decide +kernel
theorem dX0_mostTenths_0 : decode cX0_mostTenths 0 = .ok (.iconst 0, 1) := by decide +kernel
theorem dX0_mostTenths_1 : decode cX0_mostTenths 1 = .ok (.istore_n 2, 1) := by decide +kernel
theorem dX0_mostTenths_2 : decode cX0_mostTenths 2 = .ok (.aload_n 0, 1) := by decide +kernel
theorem dX0_mostTenths_3 : decode cX0_mostTenths 3 = .ok (.iload_n 1, 1) := by decide +kernel
theorem dX0_mostTenths_4 : decode cX0_mostTenths 4 = .ok (.invokevirtual 45, 3) := by decide +kernel
theorem dX0_mostTenths_7 : decode cX0_mostTenths 7 = .ok (.istore_n 3, 1) := by decide +kernel
theorem dX0_mostTenths_8 : decode cX0_mostTenths 8 = .ok (.iload_n 3, 1) := by decide +kernel
theorem dX0_mostTenths_9 : decode cX0_mostTenths 9 = .ok (.aload_n 0, 1) := by decide +kernel
theorem dX0_mostTenths_10 : decode cX0_mostTenths 10 = .ok (.iload_n 1, 1) := by decide +kernel
theorem dX0_mostTenths_11 : decode cX0_mostTenths 11 = .ok (.invokevirtual 49, 3) := by decide +kernel
theorem dX0_mostTenths_14 : decode cX0_mostTenths 14 = .ok (.if_icmp .ge 38, 3) := by decide +kernel
theorem dX0_mostTenths_17 : decode cX0_mostTenths 17 = .ok (.aload_n 0, 1) := by decide +kernel
theorem dX0_mostTenths_18 : decode cX0_mostTenths 18 = .ok (.iload_n 3, 1) := by decide +kernel
theorem dX0_mostTenths_19 : decode cX0_mostTenths 19 = .ok (.invokevirtual 56, 3) := by decide +kernel
theorem dX0_mostTenths_22 : decode cX0_mostTenths 22 = .ok (.bipush 15, 2) := by decide +kernel
theorem dX0_mostTenths_24 : decode cX0_mostTenths 24 = .ok (.if_icmp .ne 22, 3) := by decide +kernel
theorem dX0_mostTenths_27 : decode cX0_mostTenths 27 = .ok (.iload_n 2, 1) := by decide +kernel
theorem dX0_mostTenths_28 : decode cX0_mostTenths 28 = .ok (.aload_n 0, 1) := by decide +kernel
theorem dX0_mostTenths_29 : decode cX0_mostTenths 29 = .ok (.bipush 16, 2) := by decide +kernel
theorem dX0_mostTenths_31 : decode cX0_mostTenths 31 = .ok (.iload_n 3, 1) := by decide +kernel
theorem dX0_mostTenths_32 : decode cX0_mostTenths 32 = .ok (.iconst 1, 1) := by decide +kernel
theorem dX0_mostTenths_33 : decode cX0_mostTenths 33 = .ok (.iadd, 1) := by decide +kernel
theorem dX0_mostTenths_34 : decode cX0_mostTenths 34 = .ok (.aload_n 0, 1) := by decide +kernel
theorem dX0_mostTenths_35 : decode cX0_mostTenths 35 = .ok (.iload_n 1, 1) := by decide +kernel
theorem dX0_mostTenths_36 : decode cX0_mostTenths 36 = .ok (.invokevirtual 49, 3) := by decide +kernel
theorem dX0_mostTenths_39 : decode cX0_mostTenths 39 = .ok (.invokevirtual 59, 3) := by decide +kernel
theorem dX0_mostTenths_42 : decode cX0_mostTenths 42 = .ok (.invokestatic 63, 3) := by decide +kernel
theorem dX0_mostTenths_45 : decode cX0_mostTenths 45 = .ok (.istore_n 2, 1) := by decide +kernel
theorem dX0_mostTenths_46 : decode cX0_mostTenths 46 = .ok (.iinc 3 1, 3) := by decide +kernel
theorem dX0_mostTenths_49 : decode cX0_mostTenths 49 = .ok (.goto (-41), 3) := by decide +kernel
theorem dX0_mostTenths_52 : decode cX0_mostTenths 52 = .ok (.iload_n 2, 1) := by decide +kernel
theorem dX0_mostTenths_53 : decode cX0_mostTenths 53 = .ok (.ireturn, 1) := by decide +kernel
theorem dX0_settle_0 : decode cX0_settle 0 = .ok (.dload_n 2, 1) := by decide +kernel
theorem dX0_settle_1 : decode cX0_settle 1 = .ok (.dconst 0, 1) := by decide +kernel
theorem dX0_settle_2 : decode cX0_settle 2 = .ok (.dcmp .g, 1) := by decide +kernel
theorem dX0_settle_3 : decode cX0_settle 3 = .ok (.ifCond .lt 11, 3) := by decide +kernel
theorem dX0_settle_6 : decode cX0_settle 6 = .ok (.dload_n 2, 1) := by decide +kernel
theorem dX0_settle_7 : decode cX0_settle 7 = .ok (.ldc2_w 68, 3) := by decide +kernel
theorem dX0_settle_10 : decode cX0_settle 10 = .ok (.dcmp .l, 1) := by decide +kernel
theorem dX0_settle_11 : decode cX0_settle 11 = .ok (.ifCond .lt 5, 3) := by decide +kernel
theorem dX0_settle_14 : decode cX0_settle 14 = .ok (.iconst 0, 1) := by decide +kernel
theorem dX0_settle_15 : decode cX0_settle 15 = .ok (.ireturn, 1) := by decide +kernel
theorem dX0_settle_16 : decode cX0_settle 16 = .ok (.iconst 1, 1) := by decide +kernel
theorem dX0_settle_17 : decode cX0_settle 17 = .ok (.istore 5, 2) := by decide +kernel
theorem dX0_settle_19 : decode cX0_settle 19 = .ok (.sipush 1000, 3) := by decide +kernel
theorem dX0_settle_22 : decode cX0_settle 22 = .ok (.istore 6, 2) := by decide +kernel
theorem dX0_settle_24 : decode cX0_settle 24 = .ok (.iconst 0, 1) := by decide +kernel
theorem dX0_settle_25 : decode cX0_settle 25 = .ok (.istore 7, 2) := by decide +kernel
theorem dX0_settle_27 : decode cX0_settle 27 = .ok (.iload 7, 2) := by decide +kernel
theorem dX0_settle_29 : decode cX0_settle 29 = .ok (.iload 4, 2) := by decide +kernel
theorem dX0_settle_31 : decode cX0_settle 31 = .ok (.if_icmp .ge 23, 3) := by decide +kernel
theorem dX0_settle_34 : decode cX0_settle 34 = .ok (.iload 5, 2) := by decide +kernel
theorem dX0_settle_36 : decode cX0_settle 36 = .ok (.bipush 10, 2) := by decide +kernel
theorem dX0_settle_38 : decode cX0_settle 38 = .ok (.imul, 1) := by decide +kernel
theorem dX0_settle_39 : decode cX0_settle 39 = .ok (.istore 5, 2) := by decide +kernel
theorem dX0_settle_41 : decode cX0_settle 41 = .ok (.iload 6, 2) := by decide +kernel
theorem dX0_settle_43 : decode cX0_settle 43 = .ok (.bipush 10, 2) := by decide +kernel
theorem dX0_settle_45 : decode cX0_settle 45 = .ok (.idiv, 1) := by decide +kernel
theorem dX0_settle_46 : decode cX0_settle 46 = .ok (.istore 6, 2) := by decide +kernel
theorem dX0_settle_48 : decode cX0_settle 48 = .ok (.iinc 7 1, 3) := by decide +kernel
theorem dX0_settle_51 : decode cX0_settle 51 = .ok (.goto (-24), 3) := by decide +kernel
theorem dX0_settle_54 : decode cX0_settle 54 = .ok (.aload_n 1, 1) := by decide +kernel
theorem dX0_settle_55 : decode cX0_settle 55 = .ok (.dload_n 2, 1) := by decide +kernel
theorem dX0_settle_56 : decode cX0_settle 56 = .ok (.ldc 70, 2) := by decide +kernel
theorem dX0_settle_58 : decode cX0_settle 58 = .ok (.iload 5, 2) := by decide +kernel
theorem dX0_settle_60 : decode cX0_settle 60 = .ok (.imul, 1) := by decide +kernel
theorem dX0_settle_61 : decode cX0_settle 61 = .ok (.invokevirtual 71, 3) := by decide +kernel
theorem dX0_settle_64 : decode cX0_settle 64 = .ok (.aload_n 1, 1) := by decide +kernel
theorem dX0_settle_65 : decode cX0_settle 65 = .ok (.iconst 0, 1) := by decide +kernel
theorem dX0_settle_66 : decode cX0_settle 66 = .ok (.invokevirtual 77, 3) := by decide +kernel
theorem dX0_settle_69 : decode cX0_settle 69 = .ok (.aload_n 1, 1) := by decide +kernel
theorem dX0_settle_70 : decode cX0_settle 70 = .ok (.invokevirtual 81, 3) := by decide +kernel
theorem dX0_settle_73 : decode cX0_settle 73 = .ok (.iload 6, 2) := by decide +kernel
theorem dX0_settle_75 : decode cX0_settle 75 = .ok (.i2l, 1) := by decide +kernel
theorem dX0_settle_76 : decode cX0_settle 76 = .ok (.lmul, 1) := by decide +kernel
theorem dX0_settle_77 : decode cX0_settle 77 = .ok (.lstore 7, 2) := by decide +kernel
theorem dX0_settle_79 : decode cX0_settle 79 = .ok (.aload_n 0, 1) := by decide +kernel
theorem dX0_settle_80 : decode cX0_settle 80 = .ok (.lload 7, 2) := by decide +kernel
theorem dX0_settle_82 : decode cX0_settle 82 = .ok (.ldc2_w 85, 3) := by decide +kernel
theorem dX0_settle_85 : decode cX0_settle 85 = .ok (.ldiv, 1) := by decide +kernel
theorem dX0_settle_86 : decode cX0_settle 86 = .ok (.putfield 87, 3) := by decide +kernel
theorem dX0_settle_89 : decode cX0_settle 89 = .ok (.aload_n 0, 1) := by decide +kernel
theorem dX0_settle_90 : decode cX0_settle 90 = .ok (.lload 7, 2) := by decide +kernel
theorem dX0_settle_92 : decode cX0_settle 92 = .ok (.ldc2_w 85, 3) := by decide +kernel
theorem dX0_settle_95 : decode cX0_settle 95 = .ok (.lrem, 1) := by decide +kernel
theorem dX0_settle_96 : decode cX0_settle 96 = .ok (.l2i, 1) := by decide +kernel
theorem dX0_settle_97 : decode cX0_settle 97 = .ok (.putfield 91, 3) := by decide +kernel
theorem dX0_settle_100 : decode cX0_settle 100 = .ok (.aload_n 0, 1) := by decide +kernel
theorem dX0_settle_101 : decode cX0_settle 101 = .ok (.getfield 87, 3) := by decide +kernel
theorem dX0_settle_104 : decode cX0_settle 104 = .ok (.ldc2_w 94, 3) := by decide +kernel
theorem dX0_settle_107 : decode cX0_settle 107 = .ok (.ldiv, 1) := by decide +kernel
theorem dX0_settle_108 : decode cX0_settle 108 = .ok (.l2i, 1) := by decide +kernel
theorem dX0_settle_109 : decode cX0_settle 109 = .ok (.istore 9, 2) := by decide +kernel
theorem dX0_settle_111 : decode cX0_settle 111 = .ok (.aload_n 0, 1) := by decide +kernel
theorem dX0_settle_112 : decode cX0_settle 112 = .ok (.iload 9, 2) := by decide +kernel
theorem dX0_settle_114 : decode cX0_settle 114 = .ok (.invokevirtual 96, 3) := by decide +kernel
theorem dX0_settle_117 : decode cX0_settle 117 = .ok (.iload 9, 2) := by decide +kernel
theorem dX0_settle_119 : decode cX0_settle 119 = .ok (.ldc 99, 2) := by decide +kernel
theorem dX0_settle_121 : decode cX0_settle 121 = .ok (.if_icmp .ge 7, 3) := by decide +kernel
theorem dX0_settle_124 : decode cX0_settle 124 = .ok (.iconst 1, 1) := by decide +kernel
theorem dX0_settle_125 : decode cX0_settle 125 = .ok (.goto 4, 3) := by decide +kernel
theorem dX0_settle_128 : decode cX0_settle 128 = .ok (.iconst 0, 1) := by decide +kernel
theorem dX0_settle_129 : decode cX0_settle 129 = .ok (.ireturn, 1) := by decide +kernel
theorem dX0_findDay_0 : decode cX0_findDay 0 = .ok (.iload_n 1, 1) := by decide +kernel
theorem dX0_findDay_1 : decode cX0_findDay 1 = .ok (.ldc 100, 2) := by decide +kernel
theorem dX0_findDay_3 : decode cX0_findDay 3 = .ok (.iadd, 1) := by decide +kernel
theorem dX0_findDay_4 : decode cX0_findDay 4 = .ok (.istore_n 2, 1) := by decide +kernel
theorem dX0_findDay_5 : decode cX0_findDay 5 = .ok (.iload_n 2, 1) := by decide +kernel
theorem dX0_findDay_6 : decode cX0_findDay 6 = .ok (.ldc 101, 2) := by decide +kernel
theorem dX0_findDay_8 : decode cX0_findDay 8 = .ok (.idiv, 1) := by decide +kernel
theorem dX0_findDay_9 : decode cX0_findDay 9 = .ok (.istore_n 3, 1) := by decide +kernel
theorem dX0_findDay_10 : decode cX0_findDay 10 = .ok (.iload_n 2, 1) := by decide +kernel
theorem dX0_findDay_11 : decode cX0_findDay 11 = .ok (.ldc 101, 2) := by decide +kernel
theorem dX0_findDay_13 : decode cX0_findDay 13 = .ok (.irem, 1) := by decide +kernel
theorem dX0_findDay_14 : decode cX0_findDay 14 = .ok (.istore 4, 2) := by decide +kernel
theorem dX0_findDay_16 : decode cX0_findDay 16 = .ok (.iload 4, 2) := by decide +kernel
theorem dX0_findDay_18 : decode cX0_findDay 18 = .ok (.iload 4, 2) := by decide +kernel
theorem dX0_findDay_20 : decode cX0_findDay 20 = .ok (.sipush 1460, 3) := by decide +kernel
theorem dX0_findDay_23 : decode cX0_findDay 23 = .ok (.idiv, 1) := by decide +kernel
theorem dX0_findDay_24 : decode cX0_findDay 24 = .ok (.isub, 1) := by decide +kernel
theorem dX0_findDay_25 : decode cX0_findDay 25 = .ok (.iload 4, 2) := by decide +kernel
theorem dX0_findDay_27 : decode cX0_findDay 27 = .ok (.ldc 102, 2) := by decide +kernel
theorem dX0_findDay_29 : decode cX0_findDay 29 = .ok (.idiv, 1) := by decide +kernel
theorem dX0_findDay_30 : decode cX0_findDay 30 = .ok (.iadd, 1) := by decide +kernel
theorem dX0_findDay_31 : decode cX0_findDay 31 = .ok (.iload 4, 2) := by decide +kernel
theorem dX0_findDay_33 : decode cX0_findDay 33 = .ok (.ldc 103, 2) := by decide +kernel
theorem dX0_findDay_35 : decode cX0_findDay 35 = .ok (.idiv, 1) := by decide +kernel
theorem dX0_findDay_36 : decode cX0_findDay 36 = .ok (.isub, 1) := by decide +kernel
theorem dX0_findDay_37 : decode cX0_findDay 37 = .ok (.sipush 365, 3) := by decide +kernel
theorem dX0_findDay_40 : decode cX0_findDay 40 = .ok (.idiv, 1) := by decide +kernel
theorem dX0_findDay_41 : decode cX0_findDay 41 = .ok (.istore 5, 2) := by decide +kernel
theorem dX0_findDay_43 : decode cX0_findDay 43 = .ok (.iload 4, 2) := by decide +kernel
theorem dX0_findDay_45 : decode cX0_findDay 45 = .ok (.sipush 365, 3) := by decide +kernel
theorem dX0_findDay_48 : decode cX0_findDay 48 = .ok (.iload 5, 2) := by decide +kernel
theorem dX0_findDay_50 : decode cX0_findDay 50 = .ok (.imul, 1) := by decide +kernel
theorem dX0_findDay_51 : decode cX0_findDay 51 = .ok (.iload 5, 2) := by decide +kernel
theorem dX0_findDay_53 : decode cX0_findDay 53 = .ok (.iconst 4, 1) := by decide +kernel
theorem dX0_findDay_54 : decode cX0_findDay 54 = .ok (.idiv, 1) := by decide +kernel
theorem dX0_findDay_55 : decode cX0_findDay 55 = .ok (.iadd, 1) := by decide +kernel
theorem dX0_findDay_56 : decode cX0_findDay 56 = .ok (.iload 5, 2) := by decide +kernel
theorem dX0_findDay_58 : decode cX0_findDay 58 = .ok (.bipush 100, 2) := by decide +kernel
theorem dX0_findDay_60 : decode cX0_findDay 60 = .ok (.idiv, 1) := by decide +kernel
theorem dX0_findDay_61 : decode cX0_findDay 61 = .ok (.isub, 1) := by decide +kernel
theorem dX0_findDay_62 : decode cX0_findDay 62 = .ok (.isub, 1) := by decide +kernel
theorem dX0_findDay_63 : decode cX0_findDay 63 = .ok (.istore 6, 2) := by decide +kernel
theorem dX0_findDay_65 : decode cX0_findDay 65 = .ok (.iconst 5, 1) := by decide +kernel
theorem dX0_findDay_66 : decode cX0_findDay 66 = .ok (.iload 6, 2) := by decide +kernel
theorem dX0_findDay_68 : decode cX0_findDay 68 = .ok (.imul, 1) := by decide +kernel
theorem dX0_findDay_69 : decode cX0_findDay 69 = .ok (.iconst 2, 1) := by decide +kernel
theorem dX0_findDay_70 : decode cX0_findDay 70 = .ok (.iadd, 1) := by decide +kernel
theorem dX0_findDay_71 : decode cX0_findDay 71 = .ok (.sipush 153, 3) := by decide +kernel
theorem dX0_findDay_74 : decode cX0_findDay 74 = .ok (.idiv, 1) := by decide +kernel
theorem dX0_findDay_75 : decode cX0_findDay 75 = .ok (.istore 7, 2) := by decide +kernel
theorem dX0_findDay_77 : decode cX0_findDay 77 = .ok (.aload_n 0, 1) := by decide +kernel
theorem dX0_findDay_78 : decode cX0_findDay 78 = .ok (.iload 6, 2) := by decide +kernel
theorem dX0_findDay_80 : decode cX0_findDay 80 = .ok (.sipush 153, 3) := by decide +kernel
theorem dX0_findDay_83 : decode cX0_findDay 83 = .ok (.iload 7, 2) := by decide +kernel
theorem dX0_findDay_85 : decode cX0_findDay 85 = .ok (.imul, 1) := by decide +kernel
theorem dX0_findDay_86 : decode cX0_findDay 86 = .ok (.iconst 2, 1) := by decide +kernel
theorem dX0_findDay_87 : decode cX0_findDay 87 = .ok (.iadd, 1) := by decide +kernel
theorem dX0_findDay_88 : decode cX0_findDay 88 = .ok (.iconst 5, 1) := by decide +kernel
theorem dX0_findDay_89 : decode cX0_findDay 89 = .ok (.idiv, 1) := by decide +kernel
theorem dX0_findDay_90 : decode cX0_findDay 90 = .ok (.isub, 1) := by decide +kernel
theorem dX0_findDay_91 : decode cX0_findDay 91 = .ok (.iconst 1, 1) := by decide +kernel
theorem dX0_findDay_92 : decode cX0_findDay 92 = .ok (.iadd, 1) := by decide +kernel
theorem dX0_findDay_93 : decode cX0_findDay 93 = .ok (.putfield 104, 3) := by decide +kernel
theorem dX0_findDay_96 : decode cX0_findDay 96 = .ok (.aload_n 0, 1) := by decide +kernel
theorem dX0_findDay_97 : decode cX0_findDay 97 = .ok (.iload 7, 2) := by decide +kernel
theorem dX0_findDay_99 : decode cX0_findDay 99 = .ok (.bipush 10, 2) := by decide +kernel
theorem dX0_findDay_101 : decode cX0_findDay 101 = .ok (.if_icmp .ge 10, 3) := by decide +kernel
theorem dX0_findDay_104 : decode cX0_findDay 104 = .ok (.iload 7, 2) := by decide +kernel
theorem dX0_findDay_106 : decode cX0_findDay 106 = .ok (.iconst 3, 1) := by decide +kernel
theorem dX0_findDay_107 : decode cX0_findDay 107 = .ok (.iadd, 1) := by decide +kernel
theorem dX0_findDay_108 : decode cX0_findDay 108 = .ok (.goto 8, 3) := by decide +kernel
theorem dX0_findDay_111 : decode cX0_findDay 111 = .ok (.iload 7, 2) := by decide +kernel
theorem dX0_findDay_113 : decode cX0_findDay 113 = .ok (.bipush 9, 2) := by decide +kernel
theorem dX0_findDay_115 : decode cX0_findDay 115 = .ok (.isub, 1) := by decide +kernel
theorem dX0_findDay_116 : decode cX0_findDay 116 = .ok (.putfield 107, 3) := by decide +kernel
theorem dX0_findDay_119 : decode cX0_findDay 119 = .ok (.aload_n 0, 1) := by decide +kernel
theorem dX0_findDay_120 : decode cX0_findDay 120 = .ok (.iload_n 3, 1) := by decide +kernel
theorem dX0_findDay_121 : decode cX0_findDay 121 = .ok (.sipush 400, 3) := by decide +kernel
theorem dX0_findDay_124 : decode cX0_findDay 124 = .ok (.imul, 1) := by decide +kernel
theorem dX0_findDay_125 : decode cX0_findDay 125 = .ok (.iload 5, 2) := by decide +kernel
theorem dX0_findDay_127 : decode cX0_findDay 127 = .ok (.iadd, 1) := by decide +kernel
theorem dX0_findDay_128 : decode cX0_findDay 128 = .ok (.aload_n 0, 1) := by decide +kernel
theorem dX0_findDay_129 : decode cX0_findDay 129 = .ok (.getfield 107, 3) := by decide +kernel
theorem dX0_findDay_132 : decode cX0_findDay 132 = .ok (.iconst 2, 1) := by decide +kernel
theorem dX0_findDay_133 : decode cX0_findDay 133 = .ok (.if_icmp .gt 7, 3) := by decide +kernel
theorem dX0_findDay_136 : decode cX0_findDay 136 = .ok (.iconst 1, 1) := by decide +kernel
theorem dX0_findDay_137 : decode cX0_findDay 137 = .ok (.goto 4, 3) := by decide +kernel
theorem dX0_findDay_140 : decode cX0_findDay 140 = .ok (.iconst 0, 1) := by decide +kernel
theorem dX0_findDay_141 : decode cX0_findDay 141 = .ok (.iadd, 1) := by decide +kernel
theorem dX0_findDay_142 : decode cX0_findDay 142 = .ok (.putfield 110, 3) := by decide +kernel
theorem dX0_findDay_145 : decode cX0_findDay 145 = .ok (.aload_n 0, 1) := by decide +kernel
theorem dX0_findDay_146 : decode cX0_findDay 146 = .ok (.iload_n 1, 1) := by decide +kernel
theorem dX0_findDay_147 : decode cX0_findDay 147 = .ok (.bipush 6, 2) := by decide +kernel
theorem dX0_findDay_149 : decode cX0_findDay 149 = .ok (.iadd, 1) := by decide +kernel
theorem dX0_findDay_150 : decode cX0_findDay 150 = .ok (.bipush 7, 2) := by decide +kernel
theorem dX0_findDay_152 : decode cX0_findDay 152 = .ok (.irem, 1) := by decide +kernel
theorem dX0_findDay_153 : decode cX0_findDay 153 = .ok (.putfield 113, 3) := by decide +kernel
theorem dX0_findDay_156 : decode cX0_findDay 156 = .ok (.return_, 1) := by decide +kernel
theorem dX0_putItem_0 : decode cX0_putItem 0 = .ok (.aload_n 2, 1) := by decide +kernel
theorem dX0_putItem_1 : decode cX0_putItem 1 = .ok (.iload_n 3, 1) := by decide +kernel
theorem dX0_putItem_2 : decode cX0_putItem 2 = .ok (.invokevirtual 56, 3) := by decide +kernel
theorem dX0_putItem_5 : decode cX0_putItem 5 = .ok (.tableswitch 202 2 17 #[199, 121, 202, 202, 202, 202, 202, 202, 202, 202, 139, 79, 202, 177, 191, 97], 79) := by decide +kernel
theorem dX0_putItem_84 : decode cX0_putItem 84 = .ok (.aload_n 0, 1) := by decide +kernel
theorem dX0_putItem_85 : decode cX0_putItem 85 = .ok (.aload_n 1, 1) := by decide +kernel
theorem dX0_putItem_86 : decode cX0_putItem 86 = .ok (.aload_n 2, 1) := by decide +kernel
theorem dX0_putItem_87 : decode cX0_putItem 87 = .ok (.iload_n 3, 1) := by decide +kernel
theorem dX0_putItem_88 : decode cX0_putItem 88 = .ok (.invokevirtual 116, 3) := by decide +kernel
theorem dX0_putItem_91 : decode cX0_putItem 91 = .ok (.aload_n 2, 1) := by decide +kernel
theorem dX0_putItem_92 : decode cX0_putItem 92 = .ok (.iload_n 3, 1) := by decide +kernel
theorem dX0_putItem_93 : decode cX0_putItem 93 = .ok (.invokevirtual 119, 3) := by decide +kernel
theorem dX0_putItem_96 : decode cX0_putItem 96 = .ok (.invokevirtual 122, 3) := by decide +kernel
theorem dX0_putItem_99 : decode cX0_putItem 99 = .ok (.goto 117, 3) := by decide +kernel
theorem dX0_putItem_102 : decode cX0_putItem 102 = .ok (.aload_n 1, 1) := by decide +kernel
theorem dX0_putItem_103 : decode cX0_putItem 103 = .ok (.aload_n 0, 1) := by decide +kernel
theorem dX0_putItem_104 : decode cX0_putItem 104 = .ok (.getfield 87, 3) := by decide +kernel
theorem dX0_putItem_107 : decode cX0_putItem 107 = .ok (.ldc2_w 126, 3) := by decide +kernel
theorem dX0_putItem_110 : decode cX0_putItem 110 = .ok (.ldiv, 1) := by decide +kernel
theorem dX0_putItem_111 : decode cX0_putItem 111 = .ok (.ldc2_w 126, 3) := by decide +kernel
theorem dX0_putItem_114 : decode cX0_putItem 114 = .ok (.lrem, 1) := by decide +kernel
theorem dX0_putItem_115 : decode cX0_putItem 115 = .ok (.aload_n 2, 1) := by decide +kernel
theorem dX0_putItem_116 : decode cX0_putItem 116 = .ok (.iload_n 3, 1) := by decide +kernel
theorem dX0_putItem_117 : decode cX0_putItem 117 = .ok (.invokevirtual 119, 3) := by decide +kernel
theorem dX0_putItem_120 : decode cX0_putItem 120 = .ok (.invokevirtual 128, 3) := by decide +kernel
theorem dX0_putItem_123 : decode cX0_putItem 123 = .ok (.goto 93, 3) := by decide +kernel
theorem dX0_putItem_126 : decode cX0_putItem 126 = .ok (.aload_n 0, 1) := by decide +kernel
theorem dX0_putItem_127 : decode cX0_putItem 127 = .ok (.aload_n 1, 1) := by decide +kernel
theorem dX0_putItem_128 : decode cX0_putItem 128 = .ok (.aload_n 2, 1) := by decide +kernel
theorem dX0_putItem_129 : decode cX0_putItem 129 = .ok (.iload_n 3, 1) := by decide +kernel
theorem dX0_putItem_130 : decode cX0_putItem 130 = .ok (.invokevirtual 116, 3) := by decide +kernel
theorem dX0_putItem_133 : decode cX0_putItem 133 = .ok (.aload_n 2, 1) := by decide +kernel
theorem dX0_putItem_134 : decode cX0_putItem 134 = .ok (.iload_n 3, 1) := by decide +kernel
theorem dX0_putItem_135 : decode cX0_putItem 135 = .ok (.invokevirtual 119, 3) := by decide +kernel
theorem dX0_putItem_138 : decode cX0_putItem 138 = .ok (.invokevirtual 132, 3) := by decide +kernel
theorem dX0_putItem_141 : decode cX0_putItem 141 = .ok (.goto 75, 3) := by decide +kernel
theorem dX0_putItem_144 : decode cX0_putItem 144 = .ok (.aload_n 1, 1) := by decide +kernel
theorem dX0_putItem_145 : decode cX0_putItem 145 = .ok (.aload_n 0, 1) := by decide +kernel
theorem dX0_putItem_146 : decode cX0_putItem 146 = .ok (.invokevirtual 135, 3) := by decide +kernel
theorem dX0_putItem_149 : decode cX0_putItem 149 = .ok (.bipush 12, 2) := by decide +kernel
theorem dX0_putItem_151 : decode cX0_putItem 151 = .ok (.if_icmp .ge 8, 3) := by decide +kernel
theorem dX0_putItem_154 : decode cX0_putItem 154 = .ok (.bipush 65, 2) := by decide +kernel
theorem dX0_putItem_156 : decode cX0_putItem 156 = .ok (.goto 5, 3) := by decide +kernel
theorem dX0_putItem_159 : decode cX0_putItem 159 = .ok (.bipush 80, 2) := by decide +kernel
theorem dX0_putItem_161 : decode cX0_putItem 161 = .ok (.invokevirtual 139, 3) := by decide +kernel
theorem dX0_putItem_164 : decode cX0_putItem 164 = .ok (.aload_n 2, 1) := by decide +kernel
theorem dX0_putItem_165 : decode cX0_putItem 165 = .ok (.iload_n 3, 1) := by decide +kernel
theorem dX0_putItem_166 : decode cX0_putItem 166 = .ok (.invokevirtual 119, 3) := by decide +kernel
theorem dX0_putItem_169 : decode cX0_putItem 169 = .ok (.iconst 2, 1) := by decide +kernel
theorem dX0_putItem_170 : decode cX0_putItem 170 = .ok (.if_icmp .ne 46, 3) := by decide +kernel
theorem dX0_putItem_173 : decode cX0_putItem 173 = .ok (.aload_n 1, 1) := by decide +kernel
theorem dX0_putItem_174 : decode cX0_putItem 174 = .ok (.bipush 77, 2) := by decide +kernel
theorem dX0_putItem_176 : decode cX0_putItem 176 = .ok (.invokevirtual 139, 3) := by decide +kernel
theorem dX0_putItem_179 : decode cX0_putItem 179 = .ok (.goto 37, 3) := by decide +kernel
theorem dX0_putItem_182 : decode cX0_putItem 182 = .ok (.aload_n 0, 1) := by decide +kernel
theorem dX0_putItem_183 : decode cX0_putItem 183 = .ok (.iconst 0, 1) := by decide +kernel
theorem dX0_putItem_184 : decode cX0_putItem 184 = .ok (.putfield 41, 3) := by decide +kernel
theorem dX0_putItem_187 : decode cX0_putItem 187 = .ok (.aload_n 1, 1) := by decide +kernel
theorem dX0_putItem_188 : decode cX0_putItem 188 = .ok (.bipush 46, 2) := by decide +kernel
theorem dX0_putItem_190 : decode cX0_putItem 190 = .ok (.invokevirtual 139, 3) := by decide +kernel
theorem dX0_putItem_193 : decode cX0_putItem 193 = .ok (.goto 23, 3) := by decide +kernel
theorem dX0_putItem_196 : decode cX0_putItem 196 = .ok (.aload_n 0, 1) := by decide +kernel
theorem dX0_putItem_197 : decode cX0_putItem 197 = .ok (.aload_n 1, 1) := by decide +kernel
theorem dX0_putItem_198 : decode cX0_putItem 198 = .ok (.invokevirtual 142, 3) := by decide +kernel
theorem dX0_putItem_201 : decode cX0_putItem 201 = .ok (.goto 15, 3) := by decide +kernel
theorem dX0_putItem_204 : decode cX0_putItem 204 = .ok (.goto 12, 3) := by decide +kernel
theorem dX0_putItem_207 : decode cX0_putItem 207 = .ok (.aload_n 1, 1) := by decide +kernel
theorem dX0_putItem_208 : decode cX0_putItem 208 = .ok (.aload_n 2, 1) := by decide +kernel
theorem dX0_putItem_209 : decode cX0_putItem 209 = .ok (.iload_n 3, 1) := by decide +kernel
theorem dX0_putItem_210 : decode cX0_putItem 210 = .ok (.invokevirtual 116, 3) := by decide +kernel
theorem dX0_putItem_213 : decode cX0_putItem 213 = .ok (.invokevirtual 139, 3) := by decide +kernel
theorem dX0_putItem_216 : decode cX0_putItem 216 = .ok (.return_, 1) := by decide +kernel
theorem dX0_hour_0 : decode cX0_hour 0 = .ok (.aload_n 0, 1) := by decide +kernel
theorem dX0_hour_1 : decode cX0_hour 1 = .ok (.getfield 87, 3) := by decide +kernel
theorem dX0_hour_4 : decode cX0_hour 4 = .ok (.ldc2_w 94, 3) := by decide +kernel
theorem dX0_hour_7 : decode cX0_hour 7 = .ok (.lrem, 1) := by decide +kernel
theorem dX0_hour_8 : decode cX0_hour 8 = .ok (.ldc2_w 146, 3) := by decide +kernel
theorem dX0_hour_11 : decode cX0_hour 11 = .ok (.ldiv, 1) := by decide +kernel
theorem dX0_hour_12 : decode cX0_hour 12 = .ok (.l2i, 1) := by decide +kernel
theorem dX0_hour_13 : decode cX0_hour 13 = .ok (.ireturn, 1) := by decide +kernel
theorem dX0_putTenth_0 : decode cX0_putTenth 0 = .ok (.aload_n 0, 1) := by decide +kernel
theorem dX0_putTenth_1 : decode cX0_putTenth 1 = .ok (.dup, 1) := by decide +kernel
theorem dX0_putTenth_2 : decode cX0_putTenth 2 = .ok (.getfield 41, 3) := by decide +kernel
theorem dX0_putTenth_5 : decode cX0_putTenth 5 = .ok (.iconst 1, 1) := by decide +kernel
theorem dX0_putTenth_6 : decode cX0_putTenth 6 = .ok (.iadd, 1) := by decide +kernel
theorem dX0_putTenth_7 : decode cX0_putTenth 7 = .ok (.putfield 41, 3) := by decide +kernel
theorem dX0_putTenth_10 : decode cX0_putTenth 10 = .ok (.aload_n 0, 1) := by decide +kernel
theorem dX0_putTenth_11 : decode cX0_putTenth 11 = .ok (.getfield 41, 3) := by decide +kernel
theorem dX0_putTenth_14 : decode cX0_putTenth 14 = .ok (.iconst 1, 1) := by decide +kernel
theorem dX0_putTenth_15 : decode cX0_putTenth 15 = .ok (.if_icmp .ne 13, 3) := by decide +kernel
theorem dX0_putTenth_18 : decode cX0_putTenth 18 = .ok (.aload_n 0, 1) := by decide +kernel
theorem dX0_putTenth_19 : decode cX0_putTenth 19 = .ok (.getfield 91, 3) := by decide +kernel
theorem dX0_putTenth_22 : decode cX0_putTenth 22 = .ok (.bipush 100, 2) := by decide +kernel
theorem dX0_putTenth_24 : decode cX0_putTenth 24 = .ok (.idiv, 1) := by decide +kernel
theorem dX0_putTenth_25 : decode cX0_putTenth 25 = .ok (.goto 25, 3) := by decide +kernel
theorem dX0_putTenth_28 : decode cX0_putTenth 28 = .ok (.aload_n 0, 1) := by decide +kernel
theorem dX0_putTenth_29 : decode cX0_putTenth 29 = .ok (.getfield 41, 3) := by decide +kernel
theorem dX0_putTenth_32 : decode cX0_putTenth 32 = .ok (.iconst 2, 1) := by decide +kernel
theorem dX0_putTenth_33 : decode cX0_putTenth 33 = .ok (.if_icmp .ne 13, 3) := by decide +kernel
theorem dX0_putTenth_36 : decode cX0_putTenth 36 = .ok (.aload_n 0, 1) := by decide +kernel
theorem dX0_putTenth_37 : decode cX0_putTenth 37 = .ok (.getfield 91, 3) := by decide +kernel
theorem dX0_putTenth_40 : decode cX0_putTenth 40 = .ok (.bipush 10, 2) := by decide +kernel
theorem dX0_putTenth_42 : decode cX0_putTenth 42 = .ok (.idiv, 1) := by decide +kernel
theorem dX0_putTenth_43 : decode cX0_putTenth 43 = .ok (.goto 7, 3) := by decide +kernel
theorem dX0_putTenth_46 : decode cX0_putTenth 46 = .ok (.aload_n 0, 1) := by decide +kernel
theorem dX0_putTenth_47 : decode cX0_putTenth 47 = .ok (.getfield 91, 3) := by decide +kernel
theorem dX0_putTenth_50 : decode cX0_putTenth 50 = .ok (.istore_n 2, 1) := by decide +kernel
theorem dX0_putTenth_51 : decode cX0_putTenth 51 = .ok (.aload_n 1, 1) := by decide +kernel
theorem dX0_putTenth_52 : decode cX0_putTenth 52 = .ok (.bipush 48, 2) := by decide +kernel
theorem dX0_putTenth_54 : decode cX0_putTenth 54 = .ok (.iload_n 2, 1) := by decide +kernel
theorem dX0_putTenth_55 : decode cX0_putTenth 55 = .ok (.bipush 10, 2) := by decide +kernel
theorem dX0_putTenth_57 : decode cX0_putTenth 57 = .ok (.irem, 1) := by decide +kernel
theorem dX0_putTenth_58 : decode cX0_putTenth 58 = .ok (.iadd, 1) := by decide +kernel
theorem dX0_putTenth_59 : decode cX0_putTenth 59 = .ok (.invokevirtual 139, 3) := by decide +kernel
theorem dX0_putTenth_62 : decode cX0_putTenth 62 = .ok (.return_, 1) := by decide +kernel
theorem dX0_putElapsed_0 : decode cX0_putElapsed 0 = .ok (.aload_n 1, 1) := by decide +kernel
theorem dX0_putElapsed_1 : decode cX0_putElapsed 1 = .ok (.iload_n 2, 1) := by decide +kernel
theorem dX0_putElapsed_2 : decode cX0_putElapsed 2 = .ok (.bipush 104, 2) := by decide +kernel
theorem dX0_putElapsed_4 : decode cX0_putElapsed 4 = .ok (.if_icmp .ne 14, 3) := by decide +kernel
theorem dX0_putElapsed_7 : decode cX0_putElapsed 7 = .ok (.aload_n 0, 1) := by decide +kernel
theorem dX0_putElapsed_8 : decode cX0_putElapsed 8 = .ok (.getfield 87, 3) := by decide +kernel
theorem dX0_putElapsed_11 : decode cX0_putElapsed 11 = .ok (.ldc2_w 146, 3) := by decide +kernel
theorem dX0_putElapsed_14 : decode cX0_putElapsed 14 = .ok (.ldiv, 1) := by decide +kernel
theorem dX0_putElapsed_15 : decode cX0_putElapsed 15 = .ok (.goto 24, 3) := by decide +kernel
theorem dX0_putElapsed_18 : decode cX0_putElapsed 18 = .ok (.iload_n 2, 1) := by decide +kernel
theorem dX0_putElapsed_19 : decode cX0_putElapsed 19 = .ok (.bipush 109, 2) := by decide +kernel
theorem dX0_putElapsed_21 : decode cX0_putElapsed 21 = .ok (.if_icmp .ne 14, 3) := by decide +kernel
theorem dX0_putElapsed_24 : decode cX0_putElapsed 24 = .ok (.aload_n 0, 1) := by decide +kernel
theorem dX0_putElapsed_25 : decode cX0_putElapsed 25 = .ok (.getfield 87, 3) := by decide +kernel
theorem dX0_putElapsed_28 : decode cX0_putElapsed 28 = .ok (.ldc2_w 126, 3) := by decide +kernel
theorem dX0_putElapsed_31 : decode cX0_putElapsed 31 = .ok (.ldiv, 1) := by decide +kernel
theorem dX0_putElapsed_32 : decode cX0_putElapsed 32 = .ok (.goto 7, 3) := by decide +kernel
theorem dX0_putElapsed_35 : decode cX0_putElapsed 35 = .ok (.aload_n 0, 1) := by decide +kernel
theorem dX0_putElapsed_36 : decode cX0_putElapsed 36 = .ok (.getfield 87, 3) := by decide +kernel
theorem dX0_putElapsed_39 : decode cX0_putElapsed 39 = .ok (.iload_n 3, 1) := by decide +kernel
theorem dX0_putElapsed_40 : decode cX0_putElapsed 40 = .ok (.invokevirtual 128, 3) := by decide +kernel
theorem dX0_putElapsed_43 : decode cX0_putElapsed 43 = .ok (.return_, 1) := by decide +kernel
theorem dX0_putLetters_0 : decode cX0_putLetters 0 = .ok (.iload_n 2, 1) := by decide +kernel
theorem dX0_putLetters_1 : decode cX0_putLetters 1 = .ok (.lookupswitch 135 #[(100, 90), (104, 99), (109, 81), (121, 43)], 43) := by decide +kernel
theorem dX0_putLetters_44 : decode cX0_putLetters 44 = .ok (.aload_n 1, 1) := by decide +kernel
theorem dX0_putLetters_45 : decode cX0_putLetters 45 = .ok (.iload_n 3, 1) := by decide +kernel
theorem dX0_putLetters_46 : decode cX0_putLetters 46 = .ok (.iconst 2, 1) := by decide +kernel
theorem dX0_putLetters_47 : decode cX0_putLetters 47 = .ok (.if_icmp .le 11, 3) := by decide +kernel
theorem dX0_putLetters_50 : decode cX0_putLetters 50 = .ok (.aload_n 0, 1) := by decide +kernel
theorem dX0_putLetters_51 : decode cX0_putLetters 51 = .ok (.getfield 110, 3) := by decide +kernel
theorem dX0_putLetters_54 : decode cX0_putLetters 54 = .ok (.i2l, 1) := by decide +kernel
theorem dX0_putLetters_55 : decode cX0_putLetters 55 = .ok (.goto 11, 3) := by decide +kernel
theorem dX0_putLetters_58 : decode cX0_putLetters 58 = .ok (.aload_n 0, 1) := by decide +kernel
theorem dX0_putLetters_59 : decode cX0_putLetters 59 = .ok (.getfield 110, 3) := by decide +kernel
theorem dX0_putLetters_62 : decode cX0_putLetters 62 = .ok (.bipush 100, 2) := by decide +kernel
theorem dX0_putLetters_64 : decode cX0_putLetters 64 = .ok (.irem, 1) := by decide +kernel
theorem dX0_putLetters_65 : decode cX0_putLetters 65 = .ok (.i2l, 1) := by decide +kernel
theorem dX0_putLetters_66 : decode cX0_putLetters 66 = .ok (.iload_n 3, 1) := by decide +kernel
theorem dX0_putLetters_67 : decode cX0_putLetters 67 = .ok (.iconst 2, 1) := by decide +kernel
theorem dX0_putLetters_68 : decode cX0_putLetters 68 = .ok (.if_icmp .le 7, 3) := by decide +kernel
theorem dX0_putLetters_71 : decode cX0_putLetters 71 = .ok (.iconst 4, 1) := by decide +kernel
theorem dX0_putLetters_72 : decode cX0_putLetters 72 = .ok (.goto 4, 3) := by decide +kernel
theorem dX0_putLetters_75 : decode cX0_putLetters 75 = .ok (.iconst 2, 1) := by decide +kernel
theorem dX0_putLetters_76 : decode cX0_putLetters 76 = .ok (.invokevirtual 128, 3) := by decide +kernel
theorem dX0_putLetters_79 : decode cX0_putLetters 79 = .ok (.goto 70, 3) := by decide +kernel
theorem dX0_putLetters_82 : decode cX0_putLetters 82 = .ok (.aload_n 0, 1) := by decide +kernel
theorem dX0_putLetters_83 : decode cX0_putLetters 83 = .ok (.aload_n 1, 1) := by decide +kernel
theorem dX0_putLetters_84 : decode cX0_putLetters 84 = .ok (.iload_n 3, 1) := by decide +kernel
theorem dX0_putLetters_85 : decode cX0_putLetters 85 = .ok (.invokevirtual 148, 3) := by decide +kernel
theorem dX0_putLetters_88 : decode cX0_putLetters 88 = .ok (.goto 61, 3) := by decide +kernel
theorem dX0_putLetters_91 : decode cX0_putLetters 91 = .ok (.aload_n 0, 1) := by decide +kernel
theorem dX0_putLetters_92 : decode cX0_putLetters 92 = .ok (.aload_n 1, 1) := by decide +kernel
theorem dX0_putLetters_93 : decode cX0_putLetters 93 = .ok (.iload_n 3, 1) := by decide +kernel
theorem dX0_putLetters_94 : decode cX0_putLetters 94 = .ok (.invokevirtual 152, 3) := by decide +kernel
theorem dX0_putLetters_97 : decode cX0_putLetters 97 = .ok (.goto 52, 3) := by decide +kernel
theorem dX0_putLetters_100 : decode cX0_putLetters 100 = .ok (.aload_n 1, 1) := by decide +kernel
theorem dX0_putLetters_101 : decode cX0_putLetters 101 = .ok (.aload_n 0, 1) := by decide +kernel
theorem dX0_putLetters_102 : decode cX0_putLetters 102 = .ok (.getfield 37, 3) := by decide +kernel
theorem dX0_putLetters_105 : decode cX0_putLetters 105 = .ok (.ifCond .eq 19, 3) := by decide +kernel
theorem dX0_putLetters_108 : decode cX0_putLetters 108 = .ok (.aload_n 0, 1) := by decide +kernel
theorem dX0_putLetters_109 : decode cX0_putLetters 109 = .ok (.invokevirtual 135, 3) := by decide +kernel
theorem dX0_putLetters_112 : decode cX0_putLetters 112 = .ok (.bipush 11, 2) := by decide +kernel
theorem dX0_putLetters_114 : decode cX0_putLetters 114 = .ok (.iadd, 1) := by decide +kernel
theorem dX0_putLetters_115 : decode cX0_putLetters 115 = .ok (.bipush 12, 2) := by decide +kernel
theorem dX0_putLetters_117 : decode cX0_putLetters 117 = .ok (.irem, 1) := by decide +kernel
theorem dX0_putLetters_118 : decode cX0_putLetters 118 = .ok (.iconst 1, 1) := by decide +kernel
theorem dX0_putLetters_119 : decode cX0_putLetters 119 = .ok (.iadd, 1) := by decide +kernel
theorem dX0_putLetters_120 : decode cX0_putLetters 120 = .ok (.i2l, 1) := by decide +kernel
theorem dX0_putLetters_121 : decode cX0_putLetters 121 = .ok (.goto 8, 3) := by decide +kernel
theorem dX0_putLetters_124 : decode cX0_putLetters 124 = .ok (.aload_n 0, 1) := by decide +kernel
theorem dX0_putLetters_125 : decode cX0_putLetters 125 = .ok (.invokevirtual 135, 3) := by decide +kernel
theorem dX0_putLetters_128 : decode cX0_putLetters 128 = .ok (.i2l, 1) := by decide +kernel
theorem dX0_putLetters_129 : decode cX0_putLetters 129 = .ok (.iload_n 3, 1) := by decide +kernel
theorem dX0_putLetters_130 : decode cX0_putLetters 130 = .ok (.invokevirtual 128, 3) := by decide +kernel
theorem dX0_putLetters_133 : decode cX0_putLetters 133 = .ok (.goto 16, 3) := by decide +kernel
theorem dX0_putLetters_136 : decode cX0_putLetters 136 = .ok (.aload_n 1, 1) := by decide +kernel
theorem dX0_putLetters_137 : decode cX0_putLetters 137 = .ok (.aload_n 0, 1) := by decide +kernel
theorem dX0_putLetters_138 : decode cX0_putLetters 138 = .ok (.getfield 87, 3) := by decide +kernel
theorem dX0_putLetters_141 : decode cX0_putLetters 141 = .ok (.ldc2_w 126, 3) := by decide +kernel
theorem dX0_putLetters_144 : decode cX0_putLetters 144 = .ok (.lrem, 1) := by decide +kernel
theorem dX0_putLetters_145 : decode cX0_putLetters 145 = .ok (.iload_n 3, 1) := by decide +kernel
theorem dX0_putLetters_146 : decode cX0_putLetters 146 = .ok (.invokevirtual 128, 3) := by decide +kernel
theorem dX0_putLetters_149 : decode cX0_putLetters 149 = .ok (.return_, 1) := by decide +kernel
theorem dX0_putMonth_0 : decode cX0_putMonth 0 = .ok (.iload_n 2, 1) := by decide +kernel
theorem dX0_putMonth_1 : decode cX0_putMonth 1 = .ok (.iconst 2, 1) := by decide +kernel
theorem dX0_putMonth_2 : decode cX0_putMonth 2 = .ok (.if_icmp .gt 16, 3) := by decide +kernel
theorem dX0_putMonth_5 : decode cX0_putMonth 5 = .ok (.aload_n 1, 1) := by decide +kernel
theorem dX0_putMonth_6 : decode cX0_putMonth 6 = .ok (.aload_n 0, 1) := by decide +kernel
theorem dX0_putMonth_7 : decode cX0_putMonth 7 = .ok (.getfield 107, 3) := by decide +kernel
theorem dX0_putMonth_10 : decode cX0_putMonth 10 = .ok (.i2l, 1) := by decide +kernel
theorem dX0_putMonth_11 : decode cX0_putMonth 11 = .ok (.iload_n 2, 1) := by decide +kernel
theorem dX0_putMonth_12 : decode cX0_putMonth 12 = .ok (.invokevirtual 128, 3) := by decide +kernel
theorem dX0_putMonth_15 : decode cX0_putMonth 15 = .ok (.goto 38, 3) := by decide +kernel
theorem dX0_putMonth_18 : decode cX0_putMonth 18 = .ok (.aload_n 1, 1) := by decide +kernel
theorem dX0_putMonth_19 : decode cX0_putMonth 19 = .ok (.ldc 155, 2) := by decide +kernel
theorem dX0_putMonth_21 : decode cX0_putMonth 21 = .ok (.aload_n 0, 1) := by decide +kernel
theorem dX0_putMonth_22 : decode cX0_putMonth 22 = .ok (.getfield 107, 3) := by decide +kernel
theorem dX0_putMonth_25 : decode cX0_putMonth 25 = .ok (.iconst 1, 1) := by decide +kernel
theorem dX0_putMonth_26 : decode cX0_putMonth 26 = .ok (.isub, 1) := by decide +kernel
theorem dX0_putMonth_27 : decode cX0_putMonth 27 = .ok (.iload_n 2, 1) := by decide +kernel
theorem dX0_putMonth_28 : decode cX0_putMonth 28 = .ok (.iconst 3, 1) := by decide +kernel
theorem dX0_putMonth_29 : decode cX0_putMonth 29 = .ok (.if_icmp .ne 7, 3) := by decide +kernel
theorem dX0_putMonth_32 : decode cX0_putMonth 32 = .ok (.iconst 3, 1) := by decide +kernel
theorem dX0_putMonth_33 : decode cX0_putMonth 33 = .ok (.goto 17, 3) := by decide +kernel
theorem dX0_putMonth_36 : decode cX0_putMonth 36 = .ok (.iload_n 2, 1) := by decide +kernel
theorem dX0_putMonth_37 : decode cX0_putMonth 37 = .ok (.iconst 5, 1) := by decide +kernel
theorem dX0_putMonth_38 : decode cX0_putMonth 38 = .ok (.if_icmp .ne 7, 3) := by decide +kernel
theorem dX0_putMonth_41 : decode cX0_putMonth 41 = .ok (.iconst 1, 1) := by decide +kernel
theorem dX0_putMonth_42 : decode cX0_putMonth 42 = .ok (.goto 8, 3) := by decide +kernel
theorem dX0_putMonth_45 : decode cX0_putMonth 45 = .ok (.ldc 155, 2) := by decide +kernel
theorem dX0_putMonth_47 : decode cX0_putMonth 47 = .ok (.invokevirtual 157, 3) := by decide +kernel
theorem dX0_putMonth_50 : decode cX0_putMonth 50 = .ok (.invokestatic 162, 3) := by decide +kernel
theorem dX0_putMonth_53 : decode cX0_putMonth 53 = .ok (.return_, 1) := by decide +kernel
theorem dX0_putDay_0 : decode cX0_putDay 0 = .ok (.iload_n 2, 1) := by decide +kernel
theorem dX0_putDay_1 : decode cX0_putDay 1 = .ok (.iconst 2, 1) := by decide +kernel
theorem dX0_putDay_2 : decode cX0_putDay 2 = .ok (.if_icmp .gt 16, 3) := by decide +kernel
theorem dX0_putDay_5 : decode cX0_putDay 5 = .ok (.aload_n 1, 1) := by decide +kernel
theorem dX0_putDay_6 : decode cX0_putDay 6 = .ok (.aload_n 0, 1) := by decide +kernel
theorem dX0_putDay_7 : decode cX0_putDay 7 = .ok (.getfield 104, 3) := by decide +kernel
theorem dX0_putDay_10 : decode cX0_putDay 10 = .ok (.i2l, 1) := by decide +kernel
theorem dX0_putDay_11 : decode cX0_putDay 11 = .ok (.iload_n 2, 1) := by decide +kernel
theorem dX0_putDay_12 : decode cX0_putDay 12 = .ok (.invokevirtual 128, 3) := by decide +kernel
theorem dX0_putDay_15 : decode cX0_putDay 15 = .ok (.goto 27, 3) := by decide +kernel
theorem dX0_putDay_18 : decode cX0_putDay 18 = .ok (.aload_n 1, 1) := by decide +kernel
theorem dX0_putDay_19 : decode cX0_putDay 19 = .ok (.ldc 166, 2) := by decide +kernel
theorem dX0_putDay_21 : decode cX0_putDay 21 = .ok (.aload_n 0, 1) := by decide +kernel
theorem dX0_putDay_22 : decode cX0_putDay 22 = .ok (.getfield 113, 3) := by decide +kernel
theorem dX0_putDay_25 : decode cX0_putDay 25 = .ok (.iload_n 2, 1) := by decide +kernel
theorem dX0_putDay_26 : decode cX0_putDay 26 = .ok (.iconst 3, 1) := by decide +kernel
theorem dX0_putDay_27 : decode cX0_putDay 27 = .ok (.if_icmp .ne 7, 3) := by decide +kernel
theorem dX0_putDay_30 : decode cX0_putDay 30 = .ok (.iconst 3, 1) := by decide +kernel
theorem dX0_putDay_31 : decode cX0_putDay 31 = .ok (.goto 8, 3) := by decide +kernel
theorem dX0_putDay_34 : decode cX0_putDay 34 = .ok (.ldc 166, 2) := by decide +kernel
theorem dX0_putDay_36 : decode cX0_putDay 36 = .ok (.invokevirtual 157, 3) := by decide +kernel
theorem dX0_putDay_39 : decode cX0_putDay 39 = .ok (.invokestatic 162, 3) := by decide +kernel
theorem dX0_putDay_42 : decode cX0_putDay 42 = .ok (.return_, 1) := by decide +kernel
theorem dX0_putName_0 : decode cX0_putName 0 = .ok (.iconst 0, 1) := by decide +kernel
theorem dX0_putName_1 : decode cX0_putName 1 = .ok (.istore 4, 2) := by decide +kernel
theorem dX0_putName_3 : decode cX0_putName 3 = .ok (.iconst 0, 1) := by decide +kernel
theorem dX0_putName_4 : decode cX0_putName 4 = .ok (.istore 5, 2) := by decide +kernel
theorem dX0_putName_6 : decode cX0_putName 6 = .ok (.iconst 0, 1) := by decide +kernel
theorem dX0_putName_7 : decode cX0_putName 7 = .ok (.istore 6, 2) := by decide +kernel
theorem dX0_putName_9 : decode cX0_putName 9 = .ok (.iload 6, 2) := by decide +kernel
theorem dX0_putName_11 : decode cX0_putName 11 = .ok (.aload_n 1, 1) := by decide +kernel
theorem dX0_putName_12 : decode cX0_putName 12 = .ok (.invokevirtual 157, 3) := by decide +kernel
theorem dX0_putName_15 : decode cX0_putName 15 = .ok (.if_icmp .ge 57, 3) := by decide +kernel
theorem dX0_putName_18 : decode cX0_putName 18 = .ok (.iload 4, 2) := by decide +kernel
theorem dX0_putName_20 : decode cX0_putName 20 = .ok (.iload_n 2, 1) := by decide +kernel
theorem dX0_putName_21 : decode cX0_putName 21 = .ok (.if_icmp .gt 51, 3) := by decide +kernel
theorem dX0_putName_24 : decode cX0_putName 24 = .ok (.aload_n 1, 1) := by decide +kernel
theorem dX0_putName_25 : decode cX0_putName 25 = .ok (.iload 6, 2) := by decide +kernel
theorem dX0_putName_27 : decode cX0_putName 27 = .ok (.invokevirtual 168, 3) := by decide +kernel
theorem dX0_putName_30 : decode cX0_putName 30 = .ok (.istore 7, 2) := by decide +kernel
theorem dX0_putName_32 : decode cX0_putName 32 = .ok (.iload 7, 2) := by decide +kernel
theorem dX0_putName_34 : decode cX0_putName 34 = .ok (.bipush 32, 2) := by decide +kernel
theorem dX0_putName_36 : decode cX0_putName 36 = .ok (.if_icmp .ne 9, 3) := by decide +kernel
theorem dX0_putName_39 : decode cX0_putName 39 = .ok (.iinc 4 1, 3) := by decide +kernel
theorem dX0_putName_42 : decode cX0_putName 42 = .ok (.goto 24, 3) := by decide +kernel
theorem dX0_putName_45 : decode cX0_putName 45 = .ok (.iload 4, 2) := by decide +kernel
theorem dX0_putName_47 : decode cX0_putName 47 = .ok (.iload_n 2, 1) := by decide +kernel
theorem dX0_putName_48 : decode cX0_putName 48 = .ok (.if_icmp .ne 18, 3) := by decide +kernel
theorem dX0_putName_51 : decode cX0_putName 51 = .ok (.iload 5, 2) := by decide +kernel
theorem dX0_putName_53 : decode cX0_putName 53 = .ok (.iload_n 3, 1) := by decide +kernel
theorem dX0_putName_54 : decode cX0_putName 54 = .ok (.if_icmp .ge 12, 3) := by decide +kernel
theorem dX0_putName_57 : decode cX0_putName 57 = .ok (.aload_n 0, 1) := by decide +kernel
theorem dX0_putName_58 : decode cX0_putName 58 = .ok (.iload 7, 2) := by decide +kernel
theorem dX0_putName_60 : decode cX0_putName 60 = .ok (.invokevirtual 139, 3) := by decide +kernel
theorem dX0_putName_63 : decode cX0_putName 63 = .ok (.iinc 5 1, 3) := by decide +kernel
theorem dX0_putName_66 : decode cX0_putName 66 = .ok (.iinc 6 1, 3) := by decide +kernel
theorem dX0_putName_69 : decode cX0_putName 69 = .ok (.goto (-60), 3) := by decide +kernel
theorem dX0_putName_72 : decode cX0_putName 72 = .ok (.return_, 1) := by decide +kernel
theorem dX1_init_0 : decode cX1_init 0 = .ok (.aload_n 0, 1) := by decide +kernel
theorem dX1_init_1 : decode cX1_init 1 = .ok (.invokespecial 1, 3) := by decide +kernel
theorem dX1_init_4 : decode cX1_init 4 = .ok (.aload_n 0, 1) := by decide +kernel
theorem dX1_init_5 : decode cX1_init 5 = .ok (.bipush 100, 2) := by decide +kernel
theorem dX1_init_7 : decode cX1_init 7 = .ok (.newarray .long, 2) := by decide +kernel
theorem dX1_init_9 : decode cX1_init 9 = .ok (.putfield 7, 3) := by decide +kernel
theorem dX1_init_12 : decode cX1_init 12 = .ok (.aload_n 0, 1) := by decide +kernel
theorem dX1_init_13 : decode cX1_init 13 = .ok (.sipush 910, 3) := by decide +kernel
theorem dX1_init_16 : decode cX1_init 16 = .ok (.newarray .int, 2) := by decide +kernel
theorem dX1_init_18 : decode cX1_init 18 = .ok (.putfield 13, 3) := by decide +kernel
theorem dX1_init_21 : decode cX1_init 21 = .ok (.return_, 1) := by decide +kernel
theorem dX1_load_0 : decode cX1_load 0 = .ok (.dload_n 1, 1) := by decide +kernel
theorem dX1_load_1 : decode cX1_load 1 = .ok (.dstore 4, 2) := by decide +kernel
theorem dX1_load_3 : decode cX1_load 3 = .ok (.iconst 0, 1) := by decide +kernel
theorem dX1_load_4 : decode cX1_load 4 = .ok (.istore 6, 2) := by decide +kernel
theorem dX1_load_6 : decode cX1_load 6 = .ok (.iconst 0, 1) := by decide +kernel
theorem dX1_load_7 : decode cX1_load 7 = .ok (.istore 7, 2) := by decide +kernel
theorem dX1_load_9 : decode cX1_load 9 = .ok (.iload 7, 2) := by decide +kernel
theorem dX1_load_11 : decode cX1_load 11 = .ok (.sipush 1100, 3) := by decide +kernel
theorem dX1_load_14 : decode cX1_load 14 = .ok (.if_icmp .ge 29, 3) := by decide +kernel
theorem dX1_load_17 : decode cX1_load 17 = .ok (.dload 4, 2) := by decide +kernel
theorem dX1_load_19 : decode cX1_load 19 = .ok (.ldc2_w 17, 3) := by decide +kernel
theorem dX1_load_22 : decode cX1_load 22 = .ok (.dcmp .l, 1) := by decide +kernel
theorem dX1_load_23 : decode cX1_load 23 = .ok (.ifCond .lt 20, 3) := by decide +kernel
theorem dX1_load_26 : decode cX1_load 26 = .ok (.dload 4, 2) := by decide +kernel
theorem dX1_load_28 : decode cX1_load 28 = .ok (.ldc2_w 19, 3) := by decide +kernel
theorem dX1_load_31 : decode cX1_load 31 = .ok (.dmul, 1) := by decide +kernel
theorem dX1_load_32 : decode cX1_load 32 = .ok (.dstore 4, 2) := by decide +kernel
theorem dX1_load_34 : decode cX1_load 34 = .ok (.iinc 6 1, 3) := by decide +kernel
theorem dX1_load_37 : decode cX1_load 37 = .ok (.iinc 7 1, 3) := by decide +kernel
theorem dX1_load_40 : decode cX1_load 40 = .ok (.goto (-31), 3) := by decide +kernel
theorem dX1_load_43 : decode cX1_load 43 = .ok (.iconst 0, 1) := by decide +kernel
theorem dX1_load_44 : decode cX1_load 44 = .ok (.istore 7, 2) := by decide +kernel
theorem dX1_load_46 : decode cX1_load 46 = .ok (.iload 7, 2) := by decide +kernel
theorem dX1_load_48 : decode cX1_load 48 = .ok (.sipush 1100, 3) := by decide +kernel
theorem dX1_load_51 : decode cX1_load 51 = .ok (.if_icmp .ge 30, 3) := by decide +kernel
theorem dX1_load_54 : decode cX1_load 54 = .ok (.dload 4, 2) := by decide +kernel
theorem dX1_load_56 : decode cX1_load 56 = .ok (.dload 4, 2) := by decide +kernel
theorem dX1_load_58 : decode cX1_load 58 = .ok (.d2l, 1) := by decide +kernel
theorem dX1_load_59 : decode cX1_load 59 = .ok (.l2d, 1) := by decide +kernel
theorem dX1_load_60 : decode cX1_load 60 = .ok (.dcmp .l, 1) := by decide +kernel
theorem dX1_load_61 : decode cX1_load 61 = .ok (.ifCond .eq 20, 3) := by decide +kernel
theorem dX1_load_64 : decode cX1_load 64 = .ok (.dload 4, 2) := by decide +kernel
theorem dX1_load_66 : decode cX1_load 66 = .ok (.ldc2_w 21, 3) := by decide +kernel
theorem dX1_load_69 : decode cX1_load 69 = .ok (.dmul, 1) := by decide +kernel
theorem dX1_load_70 : decode cX1_load 70 = .ok (.dstore 4, 2) := by decide +kernel
theorem dX1_load_72 : decode cX1_load 72 = .ok (.iinc 6 (-1), 3) := by decide +kernel
theorem dX1_load_75 : decode cX1_load 75 = .ok (.iinc 7 1, 3) := by decide +kernel
theorem dX1_load_78 : decode cX1_load 78 = .ok (.goto (-32), 3) := by decide +kernel
theorem dX1_load_81 : decode cX1_load 81 = .ok (.aload_n 0, 1) := by decide +kernel
theorem dX1_load_82 : decode cX1_load 82 = .ok (.iconst 0, 1) := by decide +kernel
theorem dX1_load_83 : decode cX1_load 83 = .ok (.putfield 23, 3) := by decide +kernel
theorem dX1_load_86 : decode cX1_load 86 = .ok (.dload 4, 2) := by decide +kernel
theorem dX1_load_88 : decode cX1_load 88 = .ok (.d2l, 1) := by decide +kernel
theorem dX1_load_89 : decode cX1_load 89 = .ok (.lstore 7, 2) := by decide +kernel
theorem dX1_load_91 : decode cX1_load 91 = .ok (.lload 7, 2) := by decide +kernel
theorem dX1_load_93 : decode cX1_load 93 = .ok (.lconst 0, 1) := by decide +kernel
theorem dX1_load_94 : decode cX1_load 94 = .ok (.lcmp, 1) := by decide +kernel
theorem dX1_load_95 : decode cX1_load 95 = .ok (.ifCond .le 24, 3) := by decide +kernel
theorem dX1_load_98 : decode cX1_load 98 = .ok (.aload_n 0, 1) := by decide +kernel
theorem dX1_load_99 : decode cX1_load 99 = .ok (.lload 7, 2) := by decide +kernel
theorem dX1_load_101 : decode cX1_load 101 = .ok (.ldc2_w 27, 3) := by decide +kernel
theorem dX1_load_104 : decode cX1_load 104 = .ok (.lrem, 1) := by decide +kernel
theorem dX1_load_105 : decode cX1_load 105 = .ok (.invokevirtual 29, 3) := by decide +kernel
theorem dX1_load_108 : decode cX1_load 108 = .ok (.lload 7, 2) := by decide +kernel
theorem dX1_load_110 : decode cX1_load 110 = .ok (.ldc2_w 27, 3) := by decide +kernel
theorem dX1_load_113 : decode cX1_load 113 = .ok (.ldiv, 1) := by decide +kernel
theorem dX1_load_114 : decode cX1_load 114 = .ok (.lstore 7, 2) := by decide +kernel
theorem dX1_load_116 : decode cX1_load 116 = .ok (.goto (-25), 3) := by decide +kernel
theorem dX1_load_119 : decode cX1_load 119 = .ok (.aload_n 0, 1) := by decide +kernel
theorem dX1_load_120 : decode cX1_load 120 = .ok (.iload_n 3, 1) := by decide +kernel
theorem dX1_load_121 : decode cX1_load 121 = .ok (.invokevirtual 33, 3) := by decide +kernel
theorem dX1_load_124 : decode cX1_load 124 = .ok (.aload_n 0, 1) := by decide +kernel
theorem dX1_load_125 : decode cX1_load 125 = .ok (.iload 6, 2) := by decide +kernel
theorem dX1_load_127 : decode cX1_load 127 = .ok (.ifCond .le 7, 3) := by decide +kernel
theorem dX1_load_130 : decode cX1_load 130 = .ok (.iconst 2, 1) := by decide +kernel
theorem dX1_load_131 : decode cX1_load 131 = .ok (.goto 4, 3) := by decide +kernel
theorem dX1_load_134 : decode cX1_load 134 = .ok (.iconst 5, 1) := by decide +kernel
theorem dX1_load_135 : decode cX1_load 135 = .ok (.iload 6, 2) := by decide +kernel
theorem dX1_load_137 : decode cX1_load 137 = .ok (.ifCond .le 8, 3) := by decide +kernel
theorem dX1_load_140 : decode cX1_load 140 = .ok (.iload 6, 2) := by decide +kernel
theorem dX1_load_142 : decode cX1_load 142 = .ok (.goto 6, 3) := by decide +kernel
theorem dX1_load_145 : decode cX1_load 145 = .ok (.iload 6, 2) := by decide +kernel
theorem dX1_load_147 : decode cX1_load 147 = .ok (.ineg, 1) := by decide +kernel
theorem dX1_load_148 : decode cX1_load 148 = .ok (.invokevirtual 37, 3) := by decide +kernel
theorem dX1_load_151 : decode cX1_load 151 = .ok (.aload_n 0, 1) := by decide +kernel
theorem dX1_load_152 : decode cX1_load 152 = .ok (.iload 6, 2) := by decide +kernel
theorem dX1_load_154 : decode cX1_load 154 = .ok (.ifCond .le 7, 3) := by decide +kernel
theorem dX1_load_157 : decode cX1_load 157 = .ok (.iconst 0, 1) := by decide +kernel
theorem dX1_load_158 : decode cX1_load 158 = .ok (.goto 6, 3) := by decide +kernel
theorem dX1_load_161 : decode cX1_load 161 = .ok (.iload 6, 2) := by decide +kernel
theorem dX1_load_163 : decode cX1_load 163 = .ok (.ineg, 1) := by decide +kernel
theorem dX1_load_164 : decode cX1_load 164 = .ok (.putfield 41, 3) := by decide +kernel
theorem dX1_load_167 : decode cX1_load 167 = .ok (.aload_n 0, 1) := by decide +kernel
theorem dX1_load_168 : decode cX1_load 168 = .ok (.invokevirtual 44, 3) := by decide +kernel
theorem dX1_load_171 : decode cX1_load 171 = .ok (.return_, 1) := by decide +kernel
theorem dX1_loadWhole_0 : decode cX1_loadWhole 0 = .ok (.aload_n 0, 1) := by decide +kernel
theorem dX1_loadWhole_1 : decode cX1_loadWhole 1 = .ok (.iconst 0, 1) := by decide +kernel
theorem dX1_loadWhole_2 : decode cX1_loadWhole 2 = .ok (.putfield 41, 3) := by decide +kernel
theorem dX1_loadWhole_5 : decode cX1_loadWhole 5 = .ok (.aload_n 0, 1) := by decide +kernel
theorem dX1_loadWhole_6 : decode cX1_loadWhole 6 = .ok (.iconst 0, 1) := by decide +kernel
theorem dX1_loadWhole_7 : decode cX1_loadWhole 7 = .ok (.putfield 47, 3) := by decide +kernel
theorem dX1_loadWhole_10 : decode cX1_loadWhole 10 = .ok (.lload_n 1, 1) := by decide +kernel
theorem dX1_loadWhole_11 : decode cX1_loadWhole 11 = .ok (.lstore_n 3, 1) := by decide +kernel
theorem dX1_loadWhole_12 : decode cX1_loadWhole 12 = .ok (.lload_n 3, 1) := by decide +kernel
theorem dX1_loadWhole_13 : decode cX1_loadWhole 13 = .ok (.lconst 0, 1) := by decide +kernel
theorem dX1_loadWhole_14 : decode cX1_loadWhole 14 = .ok (.lcmp, 1) := by decide +kernel
theorem dX1_loadWhole_15 : decode cX1_loadWhole 15 = .ok (.ifCond .le 49, 3) := by decide +kernel
theorem dX1_loadWhole_18 : decode cX1_loadWhole 18 = .ok (.aload_n 0, 1) := by decide +kernel
theorem dX1_loadWhole_19 : decode cX1_loadWhole 19 = .ok (.getfield 47, 3) := by decide +kernel
theorem dX1_loadWhole_22 : decode cX1_loadWhole 22 = .ok (.aload_n 0, 1) := by decide +kernel
theorem dX1_loadWhole_23 : decode cX1_loadWhole 23 = .ok (.getfield 13, 3) := by decide +kernel
theorem dX1_loadWhole_26 : decode cX1_loadWhole 26 = .ok (.arraylength, 1) := by decide +kernel
theorem dX1_loadWhole_27 : decode cX1_loadWhole 27 = .ok (.if_icmp .ge 37, 3) := by decide +kernel
theorem dX1_loadWhole_30 : decode cX1_loadWhole 30 = .ok (.aload_n 0, 1) := by decide +kernel
theorem dX1_loadWhole_31 : decode cX1_loadWhole 31 = .ok (.getfield 13, 3) := by decide +kernel
theorem dX1_loadWhole_34 : decode cX1_loadWhole 34 = .ok (.aload_n 0, 1) := by decide +kernel
theorem dX1_loadWhole_35 : decode cX1_loadWhole 35 = .ok (.getfield 47, 3) := by decide +kernel
theorem dX1_loadWhole_38 : decode cX1_loadWhole 38 = .ok (.lload_n 3, 1) := by decide +kernel
theorem dX1_loadWhole_39 : decode cX1_loadWhole 39 = .ok (.ldc2_w 50, 3) := by decide +kernel
theorem dX1_loadWhole_42 : decode cX1_loadWhole 42 = .ok (.lrem, 1) := by decide +kernel
theorem dX1_loadWhole_43 : decode cX1_loadWhole 43 = .ok (.l2i, 1) := by decide +kernel
theorem dX1_loadWhole_44 : decode cX1_loadWhole 44 = .ok (.iastore, 1) := by decide +kernel
theorem dX1_loadWhole_45 : decode cX1_loadWhole 45 = .ok (.aload_n 0, 1) := by decide +kernel
theorem dX1_loadWhole_46 : decode cX1_loadWhole 46 = .ok (.dup, 1) := by decide +kernel
theorem dX1_loadWhole_47 : decode cX1_loadWhole 47 = .ok (.getfield 47, 3) := by decide +kernel
theorem dX1_loadWhole_50 : decode cX1_loadWhole 50 = .ok (.iconst 1, 1) := by decide +kernel
theorem dX1_loadWhole_51 : decode cX1_loadWhole 51 = .ok (.iadd, 1) := by decide +kernel
theorem dX1_loadWhole_52 : decode cX1_loadWhole 52 = .ok (.putfield 47, 3) := by decide +kernel
theorem dX1_loadWhole_55 : decode cX1_loadWhole 55 = .ok (.lload_n 3, 1) := by decide +kernel
theorem dX1_loadWhole_56 : decode cX1_loadWhole 56 = .ok (.ldc2_w 50, 3) := by decide +kernel
theorem dX1_loadWhole_59 : decode cX1_loadWhole 59 = .ok (.ldiv, 1) := by decide +kernel
theorem dX1_loadWhole_60 : decode cX1_loadWhole 60 = .ok (.lstore_n 3, 1) := by decide +kernel
theorem dX1_loadWhole_61 : decode cX1_loadWhole 61 = .ok (.goto (-49), 3) := by decide +kernel
theorem dX1_loadWhole_64 : decode cX1_loadWhole 64 = .ok (.return_, 1) := by decide +kernel
theorem dX1_push_0 : decode cX1_push 0 = .ok (.aload_n 0, 1) := by decide +kernel
theorem dX1_push_1 : decode cX1_push 1 = .ok (.getfield 23, 3) := by decide +kernel
theorem dX1_push_4 : decode cX1_push 4 = .ok (.aload_n 0, 1) := by decide +kernel
theorem dX1_push_5 : decode cX1_push 5 = .ok (.getfield 7, 3) := by decide +kernel
theorem dX1_push_8 : decode cX1_push 8 = .ok (.arraylength, 1) := by decide +kernel
theorem dX1_push_9 : decode cX1_push 9 = .ok (.if_icmp .ge 23, 3) := by decide +kernel
theorem dX1_push_12 : decode cX1_push 12 = .ok (.aload_n 0, 1) := by decide +kernel
theorem dX1_push_13 : decode cX1_push 13 = .ok (.getfield 7, 3) := by decide +kernel
theorem dX1_push_16 : decode cX1_push 16 = .ok (.aload_n 0, 1) := by decide +kernel
theorem dX1_push_17 : decode cX1_push 17 = .ok (.getfield 23, 3) := by decide +kernel
theorem dX1_push_20 : decode cX1_push 20 = .ok (.lload_n 1, 1) := by decide +kernel
theorem dX1_push_21 : decode cX1_push 21 = .ok (.lastore, 1) := by decide +kernel
theorem dX1_push_22 : decode cX1_push 22 = .ok (.aload_n 0, 1) := by decide +kernel
theorem dX1_push_23 : decode cX1_push 23 = .ok (.dup, 1) := by decide +kernel
theorem dX1_push_24 : decode cX1_push 24 = .ok (.getfield 23, 3) := by decide +kernel
theorem dX1_push_27 : decode cX1_push 27 = .ok (.iconst 1, 1) := by decide +kernel
theorem dX1_push_28 : decode cX1_push 28 = .ok (.iadd, 1) := by decide +kernel
theorem dX1_push_29 : decode cX1_push 29 = .ok (.putfield 23, 3) := by decide +kernel
theorem dX1_push_32 : decode cX1_push 32 = .ok (.return_, 1) := by decide +kernel
theorem dX1_multiplyOften_0 : decode cX1_multiplyOften 0 = .ok (.iload_n 2, 1) := by decide +kernel
theorem dX1_multiplyOften_1 : decode cX1_multiplyOften 1 = .ok (.istore_n 3, 1) := by decide +kernel
theorem dX1_multiplyOften_2 : decode cX1_multiplyOften 2 = .ok (.iload_n 3, 1) := by decide +kernel
theorem dX1_multiplyOften_3 : decode cX1_multiplyOften 3 = .ok (.bipush 12, 2) := by decide +kernel
theorem dX1_multiplyOften_5 : decode cX1_multiplyOften 5 = .ok (.if_icmp .lt 26, 3) := by decide +kernel
theorem dX1_multiplyOften_8 : decode cX1_multiplyOften 8 = .ok (.aload_n 0, 1) := by decide +kernel
theorem dX1_multiplyOften_9 : decode cX1_multiplyOften 9 = .ok (.iload_n 1, 1) := by decide +kernel
theorem dX1_multiplyOften_10 : decode cX1_multiplyOften 10 = .ok (.iconst 2, 1) := by decide +kernel
theorem dX1_multiplyOften_11 : decode cX1_multiplyOften 11 = .ok (.if_icmp .ne 9, 3) := by decide +kernel
theorem dX1_multiplyOften_14 : decode cX1_multiplyOften 14 = .ok (.sipush 4096, 3) := by decide +kernel
theorem dX1_multiplyOften_17 : decode cX1_multiplyOften 17 = .ok (.goto 5, 3) := by decide +kernel
theorem dX1_multiplyOften_20 : decode cX1_multiplyOften 20 = .ok (.ldc 52, 2) := by decide +kernel
theorem dX1_multiplyOften_22 : decode cX1_multiplyOften 22 = .ok (.invokevirtual 33, 3) := by decide +kernel
theorem dX1_multiplyOften_25 : decode cX1_multiplyOften 25 = .ok (.iinc 3 (-12), 3) := by decide +kernel
theorem dX1_multiplyOften_28 : decode cX1_multiplyOften 28 = .ok (.goto (-26), 3) := by decide +kernel
theorem dX1_multiplyOften_31 : decode cX1_multiplyOften 31 = .ok (.iload_n 3, 1) := by decide +kernel
theorem dX1_multiplyOften_32 : decode cX1_multiplyOften 32 = .ok (.ifCond .le 14, 3) := by decide +kernel
theorem dX1_multiplyOften_35 : decode cX1_multiplyOften 35 = .ok (.aload_n 0, 1) := by decide +kernel
theorem dX1_multiplyOften_36 : decode cX1_multiplyOften 36 = .ok (.iload_n 1, 1) := by decide +kernel
theorem dX1_multiplyOften_37 : decode cX1_multiplyOften 37 = .ok (.invokevirtual 33, 3) := by decide +kernel
theorem dX1_multiplyOften_40 : decode cX1_multiplyOften 40 = .ok (.iinc 3 (-1), 3) := by decide +kernel
theorem dX1_multiplyOften_43 : decode cX1_multiplyOften 43 = .ok (.goto (-12), 3) := by decide +kernel
theorem dX1_multiplyOften_46 : decode cX1_multiplyOften 46 = .ok (.return_, 1) := by decide +kernel
theorem dX1_multiply_0 : decode cX1_multiply 0 = .ok (.lconst 0, 1) := by decide +kernel
theorem dX1_multiply_1 : decode cX1_multiply 1 = .ok (.lstore_n 2, 1) := by decide +kernel
theorem dX1_multiply_2 : decode cX1_multiply 2 = .ok (.iconst 0, 1) := by decide +kernel
theorem dX1_multiply_3 : decode cX1_multiply 3 = .ok (.istore 4, 2) := by decide +kernel
theorem dX1_multiply_5 : decode cX1_multiply 5 = .ok (.iload 4, 2) := by decide +kernel
theorem dX1_multiply_7 : decode cX1_multiply 7 = .ok (.aload_n 0, 1) := by decide +kernel
theorem dX1_multiply_8 : decode cX1_multiply 8 = .ok (.getfield 23, 3) := by decide +kernel
theorem dX1_multiply_11 : decode cX1_multiply 11 = .ok (.if_icmp .ge 53, 3) := by decide +kernel
theorem dX1_multiply_14 : decode cX1_multiply 14 = .ok (.iload 4, 2) := by decide +kernel
theorem dX1_multiply_16 : decode cX1_multiply 16 = .ok (.aload_n 0, 1) := by decide +kernel
theorem dX1_multiply_17 : decode cX1_multiply 17 = .ok (.getfield 7, 3) := by decide +kernel
theorem dX1_multiply_20 : decode cX1_multiply 20 = .ok (.arraylength, 1) := by decide +kernel
theorem dX1_multiply_21 : decode cX1_multiply 21 = .ok (.if_icmp .ge 43, 3) := by decide +kernel
theorem dX1_multiply_24 : decode cX1_multiply 24 = .ok (.aload_n 0, 1) := by decide +kernel
theorem dX1_multiply_25 : decode cX1_multiply 25 = .ok (.getfield 7, 3) := by decide +kernel
theorem dX1_multiply_28 : decode cX1_multiply 28 = .ok (.iload 4, 2) := by decide +kernel
theorem dX1_multiply_30 : decode cX1_multiply 30 = .ok (.laload, 1) := by decide +kernel
theorem dX1_multiply_31 : decode cX1_multiply 31 = .ok (.iload_n 1, 1) := by decide +kernel
theorem dX1_multiply_32 : decode cX1_multiply 32 = .ok (.i2l, 1) := by decide +kernel
theorem dX1_multiply_33 : decode cX1_multiply 33 = .ok (.lmul, 1) := by decide +kernel
theorem dX1_multiply_34 : decode cX1_multiply 34 = .ok (.lload_n 2, 1) := by decide +kernel
theorem dX1_multiply_35 : decode cX1_multiply 35 = .ok (.ladd, 1) := by decide +kernel
theorem dX1_multiply_36 : decode cX1_multiply 36 = .ok (.lstore 5, 2) := by decide +kernel
theorem dX1_multiply_38 : decode cX1_multiply 38 = .ok (.aload_n 0, 1) := by decide +kernel
theorem dX1_multiply_39 : decode cX1_multiply 39 = .ok (.getfield 7, 3) := by decide +kernel
theorem dX1_multiply_42 : decode cX1_multiply 42 = .ok (.iload 4, 2) := by decide +kernel
theorem dX1_multiply_44 : decode cX1_multiply 44 = .ok (.lload 5, 2) := by decide +kernel
theorem dX1_multiply_46 : decode cX1_multiply 46 = .ok (.ldc2_w 27, 3) := by decide +kernel
theorem dX1_multiply_49 : decode cX1_multiply 49 = .ok (.lrem, 1) := by decide +kernel
theorem dX1_multiply_50 : decode cX1_multiply 50 = .ok (.lastore, 1) := by decide +kernel
theorem dX1_multiply_51 : decode cX1_multiply 51 = .ok (.lload 5, 2) := by decide +kernel
theorem dX1_multiply_53 : decode cX1_multiply 53 = .ok (.ldc2_w 27, 3) := by decide +kernel
theorem dX1_multiply_56 : decode cX1_multiply 56 = .ok (.ldiv, 1) := by decide +kernel
theorem dX1_multiply_57 : decode cX1_multiply 57 = .ok (.lstore_n 2, 1) := by decide +kernel
theorem dX1_multiply_58 : decode cX1_multiply 58 = .ok (.iinc 4 1, 3) := by decide +kernel
theorem dX1_multiply_61 : decode cX1_multiply 61 = .ok (.goto (-56), 3) := by decide +kernel
theorem dX1_multiply_64 : decode cX1_multiply 64 = .ok (.lload_n 2, 1) := by decide +kernel
theorem dX1_multiply_65 : decode cX1_multiply 65 = .ok (.lconst 0, 1) := by decide +kernel
theorem dX1_multiply_66 : decode cX1_multiply 66 = .ok (.lcmp, 1) := by decide +kernel
theorem dX1_multiply_67 : decode cX1_multiply 67 = .ok (.ifCond .le 8, 3) := by decide +kernel
theorem dX1_multiply_70 : decode cX1_multiply 70 = .ok (.aload_n 0, 1) := by decide +kernel
theorem dX1_multiply_71 : decode cX1_multiply 71 = .ok (.lload_n 2, 1) := by decide +kernel
theorem dX1_multiply_72 : decode cX1_multiply 72 = .ok (.invokevirtual 29, 3) := by decide +kernel
theorem dX1_multiply_75 : decode cX1_multiply 75 = .ok (.return_, 1) := by decide +kernel
theorem dX1_spread_0 : decode cX1_spread 0 = .ok (.aload_n 0, 1) := by decide +kernel
theorem dX1_spread_1 : decode cX1_spread 1 = .ok (.iconst 0, 1) := by decide +kernel
theorem dX1_spread_2 : decode cX1_spread 2 = .ok (.putfield 47, 3) := by decide +kernel
theorem dX1_spread_5 : decode cX1_spread 5 = .ok (.iconst 0, 1) := by decide +kernel
theorem dX1_spread_6 : decode cX1_spread 6 = .ok (.istore_n 1, 1) := by decide +kernel
theorem dX1_spread_7 : decode cX1_spread 7 = .ok (.iload_n 1, 1) := by decide +kernel
theorem dX1_spread_8 : decode cX1_spread 8 = .ok (.aload_n 0, 1) := by decide +kernel
theorem dX1_spread_9 : decode cX1_spread 9 = .ok (.getfield 23, 3) := by decide +kernel
theorem dX1_spread_12 : decode cX1_spread 12 = .ok (.if_icmp .ge 84, 3) := by decide +kernel
theorem dX1_spread_15 : decode cX1_spread 15 = .ok (.iload_n 1, 1) := by decide +kernel
theorem dX1_spread_16 : decode cX1_spread 16 = .ok (.aload_n 0, 1) := by decide +kernel
theorem dX1_spread_17 : decode cX1_spread 17 = .ok (.getfield 7, 3) := by decide +kernel
theorem dX1_spread_20 : decode cX1_spread 20 = .ok (.arraylength, 1) := by decide +kernel
theorem dX1_spread_21 : decode cX1_spread 21 = .ok (.if_icmp .ge 75, 3) := by decide +kernel
theorem dX1_spread_24 : decode cX1_spread 24 = .ok (.aload_n 0, 1) := by decide +kernel
theorem dX1_spread_25 : decode cX1_spread 25 = .ok (.getfield 7, 3) := by decide +kernel
theorem dX1_spread_28 : decode cX1_spread 28 = .ok (.iload_n 1, 1) := by decide +kernel
theorem dX1_spread_29 : decode cX1_spread 29 = .ok (.laload, 1) := by decide +kernel
theorem dX1_spread_30 : decode cX1_spread 30 = .ok (.lstore_n 2, 1) := by decide +kernel
theorem dX1_spread_31 : decode cX1_spread 31 = .ok (.iconst 0, 1) := by decide +kernel
theorem dX1_spread_32 : decode cX1_spread 32 = .ok (.istore 4, 2) := by decide +kernel
theorem dX1_spread_34 : decode cX1_spread 34 = .ok (.iload 4, 2) := by decide +kernel
theorem dX1_spread_36 : decode cX1_spread 36 = .ok (.bipush 9, 2) := by decide +kernel
theorem dX1_spread_38 : decode cX1_spread 38 = .ok (.if_icmp .ge 52, 3) := by decide +kernel
theorem dX1_spread_41 : decode cX1_spread 41 = .ok (.aload_n 0, 1) := by decide +kernel
theorem dX1_spread_42 : decode cX1_spread 42 = .ok (.getfield 47, 3) := by decide +kernel
theorem dX1_spread_45 : decode cX1_spread 45 = .ok (.aload_n 0, 1) := by decide +kernel
theorem dX1_spread_46 : decode cX1_spread 46 = .ok (.getfield 13, 3) := by decide +kernel
theorem dX1_spread_49 : decode cX1_spread 49 = .ok (.arraylength, 1) := by decide +kernel
theorem dX1_spread_50 : decode cX1_spread 50 = .ok (.if_icmp .ge 40, 3) := by decide +kernel
theorem dX1_spread_53 : decode cX1_spread 53 = .ok (.aload_n 0, 1) := by decide +kernel
theorem dX1_spread_54 : decode cX1_spread 54 = .ok (.getfield 13, 3) := by decide +kernel
theorem dX1_spread_57 : decode cX1_spread 57 = .ok (.aload_n 0, 1) := by decide +kernel
theorem dX1_spread_58 : decode cX1_spread 58 = .ok (.getfield 47, 3) := by decide +kernel
theorem dX1_spread_61 : decode cX1_spread 61 = .ok (.lload_n 2, 1) := by decide +kernel
theorem dX1_spread_62 : decode cX1_spread 62 = .ok (.ldc2_w 50, 3) := by decide +kernel
theorem dX1_spread_65 : decode cX1_spread 65 = .ok (.lrem, 1) := by decide +kernel
theorem dX1_spread_66 : decode cX1_spread 66 = .ok (.l2i, 1) := by decide +kernel
theorem dX1_spread_67 : decode cX1_spread 67 = .ok (.iastore, 1) := by decide +kernel
theorem dX1_spread_68 : decode cX1_spread 68 = .ok (.lload_n 2, 1) := by decide +kernel
theorem dX1_spread_69 : decode cX1_spread 69 = .ok (.ldc2_w 50, 3) := by decide +kernel
theorem dX1_spread_72 : decode cX1_spread 72 = .ok (.ldiv, 1) := by decide +kernel
theorem dX1_spread_73 : decode cX1_spread 73 = .ok (.lstore_n 2, 1) := by decide +kernel
theorem dX1_spread_74 : decode cX1_spread 74 = .ok (.aload_n 0, 1) := by decide +kernel
theorem dX1_spread_75 : decode cX1_spread 75 = .ok (.dup, 1) := by decide +kernel
theorem dX1_spread_76 : decode cX1_spread 76 = .ok (.getfield 47, 3) := by decide +kernel
theorem dX1_spread_79 : decode cX1_spread 79 = .ok (.iconst 1, 1) := by decide +kernel
theorem dX1_spread_80 : decode cX1_spread 80 = .ok (.iadd, 1) := by decide +kernel
theorem dX1_spread_81 : decode cX1_spread 81 = .ok (.putfield 47, 3) := by decide +kernel
theorem dX1_spread_84 : decode cX1_spread 84 = .ok (.iinc 4 1, 3) := by decide +kernel
theorem dX1_spread_87 : decode cX1_spread 87 = .ok (.goto (-53), 3) := by decide +kernel
theorem dX1_spread_90 : decode cX1_spread 90 = .ok (.iinc 1 1, 3) := by decide +kernel
theorem dX1_spread_93 : decode cX1_spread 93 = .ok (.goto (-86), 3) := by decide +kernel
theorem dX1_spread_96 : decode cX1_spread 96 = .ok (.aload_n 0, 1) := by decide +kernel
theorem dX1_spread_97 : decode cX1_spread 97 = .ok (.invokevirtual 53, 3) := by decide +kernel
theorem dX1_spread_100 : decode cX1_spread 100 = .ok (.return_, 1) := by decide +kernel
theorem dX1_trim_0 : decode cX1_trim 0 = .ok (.aload_n 0, 1) := by decide +kernel
theorem dX1_trim_1 : decode cX1_trim 1 = .ok (.getfield 47, 3) := by decide +kernel
theorem dX1_trim_4 : decode cX1_trim 4 = .ok (.ifCond .le 42, 3) := by decide +kernel
theorem dX1_trim_7 : decode cX1_trim 7 = .ok (.aload_n 0, 1) := by decide +kernel
theorem dX1_trim_8 : decode cX1_trim 8 = .ok (.getfield 47, 3) := by decide +kernel
theorem dX1_trim_11 : decode cX1_trim 11 = .ok (.aload_n 0, 1) := by decide +kernel
theorem dX1_trim_12 : decode cX1_trim 12 = .ok (.getfield 13, 3) := by decide +kernel
theorem dX1_trim_15 : decode cX1_trim 15 = .ok (.arraylength, 1) := by decide +kernel
theorem dX1_trim_16 : decode cX1_trim 16 = .ok (.if_icmp .gt 30, 3) := by decide +kernel
theorem dX1_trim_19 : decode cX1_trim 19 = .ok (.aload_n 0, 1) := by decide +kernel
theorem dX1_trim_20 : decode cX1_trim 20 = .ok (.getfield 13, 3) := by decide +kernel
theorem dX1_trim_23 : decode cX1_trim 23 = .ok (.aload_n 0, 1) := by decide +kernel
theorem dX1_trim_24 : decode cX1_trim 24 = .ok (.getfield 47, 3) := by decide +kernel
theorem dX1_trim_27 : decode cX1_trim 27 = .ok (.iconst 1, 1) := by decide +kernel
theorem dX1_trim_28 : decode cX1_trim 28 = .ok (.isub, 1) := by decide +kernel
theorem dX1_trim_29 : decode cX1_trim 29 = .ok (.iaload, 1) := by decide +kernel
theorem dX1_trim_30 : decode cX1_trim 30 = .ok (.ifCond .ne 16, 3) := by decide +kernel
theorem dX1_trim_33 : decode cX1_trim 33 = .ok (.aload_n 0, 1) := by decide +kernel
theorem dX1_trim_34 : decode cX1_trim 34 = .ok (.dup, 1) := by decide +kernel
theorem dX1_trim_35 : decode cX1_trim 35 = .ok (.getfield 47, 3) := by decide +kernel
theorem dX1_trim_38 : decode cX1_trim 38 = .ok (.iconst 1, 1) := by decide +kernel
theorem dX1_trim_39 : decode cX1_trim 39 = .ok (.isub, 1) := by decide +kernel
theorem dX1_trim_40 : decode cX1_trim 40 = .ok (.putfield 47, 3) := by decide +kernel
theorem dX1_trim_43 : decode cX1_trim 43 = .ok (.goto (-43), 3) := by decide +kernel
theorem dX1_trim_46 : decode cX1_trim 46 = .ok (.return_, 1) := by decide +kernel
theorem dX1_isZero_0 : decode cX1_isZero 0 = .ok (.aload_n 0, 1) := by decide +kernel
theorem dX1_isZero_1 : decode cX1_isZero 1 = .ok (.getfield 47, 3) := by decide +kernel
theorem dX1_isZero_4 : decode cX1_isZero 4 = .ok (.ifCond .ne 7, 3) := by decide +kernel
theorem dX1_isZero_7 : decode cX1_isZero 7 = .ok (.iconst 1, 1) := by decide +kernel
theorem dX1_isZero_8 : decode cX1_isZero 8 = .ok (.goto 4, 3) := by decide +kernel
theorem dX1_isZero_11 : decode cX1_isZero 11 = .ok (.iconst 0, 1) := by decide +kernel
theorem dX1_isZero_12 : decode cX1_isZero 12 = .ok (.ireturn, 1) := by decide +kernel
theorem dX1_shift_0 : decode cX1_shift 0 = .ok (.aload_n 0, 1) := by decide +kernel
theorem dX1_shift_1 : decode cX1_shift 1 = .ok (.dup, 1) := by decide +kernel
theorem dX1_shift_2 : decode cX1_shift 2 = .ok (.getfield 41, 3) := by decide +kernel
theorem dX1_shift_5 : decode cX1_shift 5 = .ok (.iload_n 1, 1) := by decide +kernel
theorem dX1_shift_6 : decode cX1_shift 6 = .ok (.isub, 1) := by decide +kernel
theorem dX1_shift_7 : decode cX1_shift 7 = .ok (.putfield 41, 3) := by decide +kernel
theorem dX1_shift_10 : decode cX1_shift 10 = .ok (.return_, 1) := by decide +kernel
theorem dX1_digit_0 : decode cX1_digit 0 = .ok (.iload_n 1, 1) := by decide +kernel
theorem dX1_digit_1 : decode cX1_digit 1 = .ok (.aload_n 0, 1) := by decide +kernel
theorem dX1_digit_2 : decode cX1_digit 2 = .ok (.getfield 41, 3) := by decide +kernel
theorem dX1_digit_5 : decode cX1_digit 5 = .ok (.iadd, 1) := by decide +kernel
theorem dX1_digit_6 : decode cX1_digit 6 = .ok (.istore_n 2, 1) := by decide +kernel
theorem dX1_digit_7 : decode cX1_digit 7 = .ok (.iload_n 2, 1) := by decide +kernel
theorem dX1_digit_8 : decode cX1_digit 8 = .ok (.ifCond .lt 29, 3) := by decide +kernel
theorem dX1_digit_11 : decode cX1_digit 11 = .ok (.iload_n 2, 1) := by decide +kernel
theorem dX1_digit_12 : decode cX1_digit 12 = .ok (.aload_n 0, 1) := by decide +kernel
theorem dX1_digit_13 : decode cX1_digit 13 = .ok (.getfield 47, 3) := by decide +kernel
theorem dX1_digit_16 : decode cX1_digit 16 = .ok (.if_icmp .ge 21, 3) := by decide +kernel
theorem dX1_digit_19 : decode cX1_digit 19 = .ok (.iload_n 2, 1) := by decide +kernel
theorem dX1_digit_20 : decode cX1_digit 20 = .ok (.aload_n 0, 1) := by decide +kernel
theorem dX1_digit_21 : decode cX1_digit 21 = .ok (.getfield 13, 3) := by decide +kernel
theorem dX1_digit_24 : decode cX1_digit 24 = .ok (.arraylength, 1) := by decide +kernel
theorem dX1_digit_25 : decode cX1_digit 25 = .ok (.if_icmp .ge 12, 3) := by decide +kernel
theorem dX1_digit_28 : decode cX1_digit 28 = .ok (.aload_n 0, 1) := by decide +kernel
theorem dX1_digit_29 : decode cX1_digit 29 = .ok (.getfield 13, 3) := by decide +kernel
theorem dX1_digit_32 : decode cX1_digit 32 = .ok (.iload_n 2, 1) := by decide +kernel
theorem dX1_digit_33 : decode cX1_digit 33 = .ok (.iaload, 1) := by decide +kernel
theorem dX1_digit_34 : decode cX1_digit 34 = .ok (.goto 4, 3) := by decide +kernel
theorem dX1_digit_37 : decode cX1_digit 37 = .ok (.iconst 0, 1) := by decide +kernel
theorem dX1_digit_38 : decode cX1_digit 38 = .ok (.ireturn, 1) := by decide +kernel
theorem dX1_top_0 : decode cX1_top 0 = .ok (.aload_n 0, 1) := by decide +kernel
theorem dX1_top_1 : decode cX1_top 1 = .ok (.getfield 47, 3) := by decide +kernel
theorem dX1_top_4 : decode cX1_top 4 = .ok (.iconst 1, 1) := by decide +kernel
theorem dX1_top_5 : decode cX1_top 5 = .ok (.isub, 1) := by decide +kernel
theorem dX1_top_6 : decode cX1_top 6 = .ok (.aload_n 0, 1) := by decide +kernel
theorem dX1_top_7 : decode cX1_top 7 = .ok (.getfield 41, 3) := by decide +kernel
theorem dX1_top_10 : decode cX1_top 10 = .ok (.isub, 1) := by decide +kernel
theorem dX1_top_11 : decode cX1_top 11 = .ok (.ireturn, 1) := by decide +kernel
theorem dX1_wholeDigits_0 : decode cX1_wholeDigits 0 = .ok (.aload_n 0, 1) := by decide +kernel
theorem dX1_wholeDigits_1 : decode cX1_wholeDigits 1 = .ok (.getfield 47, 3) := by decide +kernel
theorem dX1_wholeDigits_4 : decode cX1_wholeDigits 4 = .ok (.ifCond .le 26, 3) := by decide +kernel
theorem dX1_wholeDigits_7 : decode cX1_wholeDigits 7 = .ok (.aload_n 0, 1) := by decide +kernel
theorem dX1_wholeDigits_8 : decode cX1_wholeDigits 8 = .ok (.getfield 47, 3) := by decide +kernel
theorem dX1_wholeDigits_11 : decode cX1_wholeDigits 11 = .ok (.aload_n 0, 1) := by decide +kernel
theorem dX1_wholeDigits_12 : decode cX1_wholeDigits 12 = .ok (.getfield 41, 3) := by decide +kernel
theorem dX1_wholeDigits_15 : decode cX1_wholeDigits 15 = .ok (.if_icmp .le 15, 3) := by decide +kernel
theorem dX1_wholeDigits_18 : decode cX1_wholeDigits 18 = .ok (.aload_n 0, 1) := by decide +kernel
theorem dX1_wholeDigits_19 : decode cX1_wholeDigits 19 = .ok (.getfield 47, 3) := by decide +kernel
theorem dX1_wholeDigits_22 : decode cX1_wholeDigits 22 = .ok (.aload_n 0, 1) := by decide +kernel
theorem dX1_wholeDigits_23 : decode cX1_wholeDigits 23 = .ok (.getfield 41, 3) := by decide +kernel
theorem dX1_wholeDigits_26 : decode cX1_wholeDigits 26 = .ok (.isub, 1) := by decide +kernel
theorem dX1_wholeDigits_27 : decode cX1_wholeDigits 27 = .ok (.goto 4, 3) := by decide +kernel
theorem dX1_wholeDigits_30 : decode cX1_wholeDigits 30 = .ok (.iconst 0, 1) := by decide +kernel
theorem dX1_wholeDigits_31 : decode cX1_wholeDigits 31 = .ok (.ireturn, 1) := by decide +kernel
theorem dX1_round_0 : decode cX1_round 0 = .ok (.aload_n 0, 1) := by decide +kernel
theorem dX1_round_1 : decode cX1_round 1 = .ok (.getfield 41, 3) := by decide +kernel
theorem dX1_round_4 : decode cX1_round 4 = .ok (.iload_n 1, 1) := by decide +kernel
theorem dX1_round_5 : decode cX1_round 5 = .ok (.isub, 1) := by decide +kernel
theorem dX1_round_6 : decode cX1_round 6 = .ok (.istore_n 2, 1) := by decide +kernel
theorem dX1_round_7 : decode cX1_round 7 = .ok (.iload_n 2, 1) := by decide +kernel
theorem dX1_round_8 : decode cX1_round 8 = .ok (.ifCond .gt 4, 3) := by decide +kernel
theorem dX1_round_11 : decode cX1_round 11 = .ok (.return_, 1) := by decide +kernel
theorem dX1_round_12 : decode cX1_round 12 = .ok (.iload_n 2, 1) := by decide +kernel
theorem dX1_round_13 : decode cX1_round 13 = .ok (.aload_n 0, 1) := by decide +kernel
theorem dX1_round_14 : decode cX1_round 14 = .ok (.getfield 47, 3) := by decide +kernel
theorem dX1_round_17 : decode cX1_round 17 = .ok (.if_icmp .gt 12, 3) := by decide +kernel
theorem dX1_round_20 : decode cX1_round 20 = .ok (.iload_n 2, 1) := by decide +kernel
theorem dX1_round_21 : decode cX1_round 21 = .ok (.aload_n 0, 1) := by decide +kernel
theorem dX1_round_22 : decode cX1_round 22 = .ok (.getfield 13, 3) := by decide +kernel
theorem dX1_round_25 : decode cX1_round 25 = .ok (.arraylength, 1) := by decide +kernel
theorem dX1_round_26 : decode cX1_round 26 = .ok (.if_icmp .le 9, 3) := by decide +kernel
theorem dX1_round_29 : decode cX1_round 29 = .ok (.aload_n 0, 1) := by decide +kernel
theorem dX1_round_30 : decode cX1_round 30 = .ok (.iconst 0, 1) := by decide +kernel
theorem dX1_round_31 : decode cX1_round 31 = .ok (.putfield 47, 3) := by decide +kernel
theorem dX1_round_34 : decode cX1_round 34 = .ok (.return_, 1) := by decide +kernel
theorem dX1_round_35 : decode cX1_round 35 = .ok (.aload_n 0, 1) := by decide +kernel
theorem dX1_round_36 : decode cX1_round 36 = .ok (.getfield 13, 3) := by decide +kernel
theorem dX1_round_39 : decode cX1_round 39 = .ok (.iload_n 2, 1) := by decide +kernel
theorem dX1_round_40 : decode cX1_round 40 = .ok (.iconst 1, 1) := by decide +kernel
theorem dX1_round_41 : decode cX1_round 41 = .ok (.isub, 1) := by decide +kernel
theorem dX1_round_42 : decode cX1_round 42 = .ok (.iaload, 1) := by decide +kernel
theorem dX1_round_43 : decode cX1_round 43 = .ok (.iconst 5, 1) := by decide +kernel
theorem dX1_round_44 : decode cX1_round 44 = .ok (.if_icmp .lt 7, 3) := by decide +kernel
theorem dX1_round_47 : decode cX1_round 47 = .ok (.iconst 1, 1) := by decide +kernel
theorem dX1_round_48 : decode cX1_round 48 = .ok (.goto 4, 3) := by decide +kernel
theorem dX1_round_51 : decode cX1_round 51 = .ok (.iconst 0, 1) := by decide +kernel
theorem dX1_round_52 : decode cX1_round 52 = .ok (.istore_n 3, 1) := by decide +kernel
theorem dX1_round_53 : decode cX1_round 53 = .ok (.iconst 0, 1) := by decide +kernel
theorem dX1_round_54 : decode cX1_round 54 = .ok (.istore 4, 2) := by decide +kernel
theorem dX1_round_56 : decode cX1_round 56 = .ok (.iload 4, 2) := by decide +kernel
theorem dX1_round_58 : decode cX1_round 58 = .ok (.iload_n 2, 1) := by decide +kernel
theorem dX1_round_59 : decode cX1_round 59 = .ok (.if_icmp .ge 17, 3) := by decide +kernel
theorem dX1_round_62 : decode cX1_round 62 = .ok (.aload_n 0, 1) := by decide +kernel
theorem dX1_round_63 : decode cX1_round 63 = .ok (.getfield 13, 3) := by decide +kernel
theorem dX1_round_66 : decode cX1_round 66 = .ok (.iload 4, 2) := by decide +kernel
theorem dX1_round_68 : decode cX1_round 68 = .ok (.iconst 0, 1) := by decide +kernel
theorem dX1_round_69 : decode cX1_round 69 = .ok (.iastore, 1) := by decide +kernel
theorem dX1_round_70 : decode cX1_round 70 = .ok (.iinc 4 1, 3) := by decide +kernel
theorem dX1_round_73 : decode cX1_round 73 = .ok (.goto (-17), 3) := by decide +kernel
theorem dX1_round_76 : decode cX1_round 76 = .ok (.iload_n 3, 1) := by decide +kernel
theorem dX1_round_77 : decode cX1_round 77 = .ok (.ifCond .eq 8, 3) := by decide +kernel
theorem dX1_round_80 : decode cX1_round 80 = .ok (.aload_n 0, 1) := by decide +kernel
theorem dX1_round_81 : decode cX1_round 81 = .ok (.iload_n 2, 1) := by decide +kernel
theorem dX1_round_82 : decode cX1_round 82 = .ok (.invokevirtual 56, 3) := by decide +kernel
theorem dX1_round_85 : decode cX1_round 85 = .ok (.aload_n 0, 1) := by decide +kernel
theorem dX1_round_86 : decode cX1_round 86 = .ok (.invokevirtual 53, 3) := by decide +kernel
theorem dX1_round_89 : decode cX1_round 89 = .ok (.return_, 1) := by decide +kernel
theorem dX1_addOneAt_0 : decode cX1_addOneAt 0 = .ok (.iload_n 1, 1) := by decide +kernel
theorem dX1_addOneAt_1 : decode cX1_addOneAt 1 = .ok (.istore_n 2, 1) := by decide +kernel
theorem dX1_addOneAt_2 : decode cX1_addOneAt 2 = .ok (.iload_n 2, 1) := by decide +kernel
theorem dX1_addOneAt_3 : decode cX1_addOneAt 3 = .ok (.aload_n 0, 1) := by decide +kernel
theorem dX1_addOneAt_4 : decode cX1_addOneAt 4 = .ok (.getfield 47, 3) := by decide +kernel
theorem dX1_addOneAt_7 : decode cX1_addOneAt 7 = .ok (.if_icmp .ge 36, 3) := by decide +kernel
theorem dX1_addOneAt_10 : decode cX1_addOneAt 10 = .ok (.iload_n 2, 1) := by decide +kernel
theorem dX1_addOneAt_11 : decode cX1_addOneAt 11 = .ok (.aload_n 0, 1) := by decide +kernel
theorem dX1_addOneAt_12 : decode cX1_addOneAt 12 = .ok (.getfield 13, 3) := by decide +kernel
theorem dX1_addOneAt_15 : decode cX1_addOneAt 15 = .ok (.arraylength, 1) := by decide +kernel
theorem dX1_addOneAt_16 : decode cX1_addOneAt 16 = .ok (.if_icmp .ge 27, 3) := by decide +kernel
theorem dX1_addOneAt_19 : decode cX1_addOneAt 19 = .ok (.aload_n 0, 1) := by decide +kernel
theorem dX1_addOneAt_20 : decode cX1_addOneAt 20 = .ok (.getfield 13, 3) := by decide +kernel
theorem dX1_addOneAt_23 : decode cX1_addOneAt 23 = .ok (.iload_n 2, 1) := by decide +kernel
theorem dX1_addOneAt_24 : decode cX1_addOneAt 24 = .ok (.iaload, 1) := by decide +kernel
theorem dX1_addOneAt_25 : decode cX1_addOneAt 25 = .ok (.bipush 9, 2) := by decide +kernel
theorem dX1_addOneAt_27 : decode cX1_addOneAt 27 = .ok (.if_icmp .ne 16, 3) := by decide +kernel
theorem dX1_addOneAt_30 : decode cX1_addOneAt 30 = .ok (.aload_n 0, 1) := by decide +kernel
theorem dX1_addOneAt_31 : decode cX1_addOneAt 31 = .ok (.getfield 13, 3) := by decide +kernel
theorem dX1_addOneAt_34 : decode cX1_addOneAt 34 = .ok (.iload_n 2, 1) := by decide +kernel
theorem dX1_addOneAt_35 : decode cX1_addOneAt 35 = .ok (.iconst 0, 1) := by decide +kernel
theorem dX1_addOneAt_36 : decode cX1_addOneAt 36 = .ok (.iastore, 1) := by decide +kernel
theorem dX1_addOneAt_37 : decode cX1_addOneAt 37 = .ok (.iinc 2 1, 3) := by decide +kernel
theorem dX1_addOneAt_40 : decode cX1_addOneAt 40 = .ok (.goto (-38), 3) := by decide +kernel
theorem dX1_addOneAt_43 : decode cX1_addOneAt 43 = .ok (.iload_n 2, 1) := by decide +kernel
theorem dX1_addOneAt_44 : decode cX1_addOneAt 44 = .ok (.aload_n 0, 1) := by decide +kernel
theorem dX1_addOneAt_45 : decode cX1_addOneAt 45 = .ok (.getfield 13, 3) := by decide +kernel
theorem dX1_addOneAt_48 : decode cX1_addOneAt 48 = .ok (.arraylength, 1) := by decide +kernel
theorem dX1_addOneAt_49 : decode cX1_addOneAt 49 = .ok (.if_icmp .lt 4, 3) := by decide +kernel
theorem dX1_addOneAt_52 : decode cX1_addOneAt 52 = .ok (.return_, 1) := by decide +kernel
theorem dX1_addOneAt_53 : decode cX1_addOneAt 53 = .ok (.iload_n 2, 1) := by decide +kernel
theorem dX1_addOneAt_54 : decode cX1_addOneAt 54 = .ok (.aload_n 0, 1) := by decide +kernel
theorem dX1_addOneAt_55 : decode cX1_addOneAt 55 = .ok (.getfield 47, 3) := by decide +kernel
theorem dX1_addOneAt_58 : decode cX1_addOneAt 58 = .ok (.if_icmp .ge 16, 3) := by decide +kernel
theorem dX1_addOneAt_61 : decode cX1_addOneAt 61 = .ok (.aload_n 0, 1) := by decide +kernel
theorem dX1_addOneAt_62 : decode cX1_addOneAt 62 = .ok (.getfield 13, 3) := by decide +kernel
theorem dX1_addOneAt_65 : decode cX1_addOneAt 65 = .ok (.iload_n 2, 1) := by decide +kernel
theorem dX1_addOneAt_66 : decode cX1_addOneAt 66 = .ok (.dup2, 1) := by decide +kernel
theorem dX1_addOneAt_67 : decode cX1_addOneAt 67 = .ok (.iaload, 1) := by decide +kernel
theorem dX1_addOneAt_68 : decode cX1_addOneAt 68 = .ok (.iconst 1, 1) := by decide +kernel
theorem dX1_addOneAt_69 : decode cX1_addOneAt 69 = .ok (.iadd, 1) := by decide +kernel
theorem dX1_addOneAt_70 : decode cX1_addOneAt 70 = .ok (.iastore, 1) := by decide +kernel
theorem dX1_addOneAt_71 : decode cX1_addOneAt 71 = .ok (.goto 17, 3) := by decide +kernel
theorem dX1_addOneAt_74 : decode cX1_addOneAt 74 = .ok (.aload_n 0, 1) := by decide +kernel
theorem dX1_addOneAt_75 : decode cX1_addOneAt 75 = .ok (.getfield 13, 3) := by decide +kernel
theorem dX1_addOneAt_78 : decode cX1_addOneAt 78 = .ok (.iload_n 2, 1) := by decide +kernel
theorem dX1_addOneAt_79 : decode cX1_addOneAt 79 = .ok (.iconst 1, 1) := by decide +kernel
theorem dX1_addOneAt_80 : decode cX1_addOneAt 80 = .ok (.iastore, 1) := by decide +kernel
theorem dX1_addOneAt_81 : decode cX1_addOneAt 81 = .ok (.aload_n 0, 1) := by decide +kernel
theorem dX1_addOneAt_82 : decode cX1_addOneAt 82 = .ok (.iload_n 2, 1) := by decide +kernel
theorem dX1_addOneAt_83 : decode cX1_addOneAt 83 = .ok (.iconst 1, 1) := by decide +kernel
theorem dX1_addOneAt_84 : decode cX1_addOneAt 84 = .ok (.iadd, 1) := by decide +kernel
theorem dX1_addOneAt_85 : decode cX1_addOneAt 85 = .ok (.putfield 47, 3) := by decide +kernel
theorem dX1_addOneAt_88 : decode cX1_addOneAt 88 = .ok (.return_, 1) := by decide +kernel
theorem dX1_whole_0 : decode cX1_whole 0 = .ok (.lconst 0, 1) := by decide +kernel
theorem dX1_whole_1 : decode cX1_whole 1 = .ok (.lstore_n 1, 1) := by decide +kernel
theorem dX1_whole_2 : decode cX1_whole 2 = .ok (.aload_n 0, 1) := by decide +kernel
theorem dX1_whole_3 : decode cX1_whole 3 = .ok (.invokevirtual 59, 3) := by decide +kernel
theorem dX1_whole_6 : decode cX1_whole 6 = .ok (.iconst 1, 1) := by decide +kernel
theorem dX1_whole_7 : decode cX1_whole 7 = .ok (.isub, 1) := by decide +kernel
theorem dX1_whole_8 : decode cX1_whole 8 = .ok (.istore_n 3, 1) := by decide +kernel
theorem dX1_whole_9 : decode cX1_whole 9 = .ok (.iload_n 3, 1) := by decide +kernel
theorem dX1_whole_10 : decode cX1_whole 10 = .ok (.ifCond .lt 22, 3) := by decide +kernel
theorem dX1_whole_13 : decode cX1_whole 13 = .ok (.lload_n 1, 1) := by decide +kernel
theorem dX1_whole_14 : decode cX1_whole 14 = .ok (.ldc2_w 50, 3) := by decide +kernel
theorem dX1_whole_17 : decode cX1_whole 17 = .ok (.lmul, 1) := by decide +kernel
theorem dX1_whole_18 : decode cX1_whole 18 = .ok (.aload_n 0, 1) := by decide +kernel
theorem dX1_whole_19 : decode cX1_whole 19 = .ok (.iload_n 3, 1) := by decide +kernel
theorem dX1_whole_20 : decode cX1_whole 20 = .ok (.invokevirtual 63, 3) := by decide +kernel
theorem dX1_whole_23 : decode cX1_whole 23 = .ok (.i2l, 1) := by decide +kernel
theorem dX1_whole_24 : decode cX1_whole 24 = .ok (.ladd, 1) := by decide +kernel
theorem dX1_whole_25 : decode cX1_whole 25 = .ok (.lstore_n 1, 1) := by decide +kernel
theorem dX1_whole_26 : decode cX1_whole 26 = .ok (.iinc 3 (-1), 3) := by decide +kernel
theorem dX1_whole_29 : decode cX1_whole 29 = .ok (.goto (-20), 3) := by decide +kernel
theorem dX1_whole_32 : decode cX1_whole 32 = .ok (.lload_n 1, 1) := by decide +kernel
theorem dX1_whole_33 : decode cX1_whole 33 = .ok (.lreturn, 1) := by decide +kernel
theorem dX2_init_0 : decode cX2_init 0 = .ok (.aload_n 0, 1) := by decide +kernel
theorem dX2_init_1 : decode cX2_init 1 = .ok (.invokespecial 3, 3) := by decide +kernel
theorem dX2_init_4 : decode cX2_init 4 = .ok (.aload_n 0, 1) := by decide +kernel
theorem dX2_init_5 : decode cX2_init 5 = .ok (.sipush 255, 3) := by decide +kernel
theorem dX2_init_8 : decode cX2_init 8 = .ok (.newarray .int, 2) := by decide +kernel
theorem dX2_init_10 : decode cX2_init 10 = .ok (.putfield 9, 3) := by decide +kernel
theorem dX2_init_13 : decode cX2_init 13 = .ok (.aload_n 0, 1) := by decide +kernel
theorem dX2_init_14 : decode cX2_init 14 = .ok (.sipush 255, 3) := by decide +kernel
theorem dX2_init_17 : decode cX2_init 17 = .ok (.newarray .int, 2) := by decide +kernel
theorem dX2_init_19 : decode cX2_init 19 = .ok (.putfield 15, 3) := by decide +kernel
theorem dX2_init_22 : decode cX2_init 22 = .ok (.aload_n 0, 1) := by decide +kernel
theorem dX2_init_23 : decode cX2_init 23 = .ok (.sipush 255, 3) := by decide +kernel
theorem dX2_init_26 : decode cX2_init 26 = .ok (.newarray .int, 2) := by decide +kernel
theorem dX2_init_28 : decode cX2_init 28 = .ok (.putfield 18, 3) := by decide +kernel
theorem dX2_init_31 : decode cX2_init 31 = .ok (.aload_n 0, 1) := by decide +kernel
theorem dX2_init_32 : decode cX2_init 32 = .ok (.sipush 255, 3) := by decide +kernel
theorem dX2_init_35 : decode cX2_init 35 = .ok (.newarray .int, 2) := by decide +kernel
theorem dX2_init_37 : decode cX2_init 37 = .ok (.putfield 21, 3) := by decide +kernel
theorem dX2_init_40 : decode cX2_init 40 = .ok (.aload_n 0, 1) := by decide +kernel
theorem dX2_init_41 : decode cX2_init 41 = .ok (.sipush 255, 3) := by decide +kernel
theorem dX2_init_44 : decode cX2_init 44 = .ok (.newarray .double, 2) := by decide +kernel
theorem dX2_init_46 : decode cX2_init 46 = .ok (.putfield 24, 3) := by decide +kernel
theorem dX2_init_49 : decode cX2_init 49 = .ok (.aload_n 0, 1) := by decide +kernel
theorem dX2_init_50 : decode cX2_init 50 = .ok (.iconst 4, 1) := by decide +kernel
theorem dX2_init_51 : decode cX2_init 51 = .ok (.newarray .int, 2) := by decide +kernel
theorem dX2_init_53 : decode cX2_init 53 = .ok (.putfield 28, 3) := by decide +kernel
theorem dX2_init_56 : decode cX2_init 56 = .ok (.aload_n 0, 1) := by decide +kernel
theorem dX2_init_57 : decode cX2_init 57 = .ok (.iconst 4, 1) := by decide +kernel
theorem dX2_init_58 : decode cX2_init 58 = .ok (.newarray .int, 2) := by decide +kernel
theorem dX2_init_60 : decode cX2_init 60 = .ok (.putfield 31, 3) := by decide +kernel
theorem dX2_init_63 : decode cX2_init 63 = .ok (.return_, 1) := by decide +kernel
theorem dX2_clear_0 : decode cX2_clear 0 = .ok (.aload_n 0, 1) := by decide +kernel
theorem dX2_clear_1 : decode cX2_clear 1 = .ok (.iconst 0, 1) := by decide +kernel
theorem dX2_clear_2 : decode cX2_clear 2 = .ok (.putfield 34, 3) := by decide +kernel
theorem dX2_clear_5 : decode cX2_clear 5 = .ok (.aload_n 0, 1) := by decide +kernel
theorem dX2_clear_6 : decode cX2_clear 6 = .ok (.iconst 0, 1) := by decide +kernel
theorem dX2_clear_7 : decode cX2_clear 7 = .ok (.putfield 38, 3) := by decide +kernel
theorem dX2_clear_10 : decode cX2_clear 10 = .ok (.aload_n 0, 1) := by decide +kernel
theorem dX2_clear_11 : decode cX2_clear 11 = .ok (.iconst (-1), 1) := by decide +kernel
theorem dX2_clear_12 : decode cX2_clear 12 = .ok (.putfield 41, 3) := by decide +kernel
theorem dX2_clear_15 : decode cX2_clear 15 = .ok (.aload_n 0, 1) := by decide +kernel
theorem dX2_clear_16 : decode cX2_clear 16 = .ok (.iconst (-1), 1) := by decide +kernel
theorem dX2_clear_17 : decode cX2_clear 17 = .ok (.invokevirtual 44, 3) := by decide +kernel
theorem dX2_clear_20 : decode cX2_clear 20 = .ok (.return_, 1) := by decide +kernel
theorem dX2_divide_0 : decode cX2_divide 0 = .ok (.aload_n 0, 1) := by decide +kernel
theorem dX2_divide_1 : decode cX2_divide 1 = .ok (.getfield 38, 3) := by decide +kernel
theorem dX2_divide_4 : decode cX2_divide 4 = .ok (.aload_n 0, 1) := by decide +kernel
theorem dX2_divide_5 : decode cX2_divide 5 = .ok (.getfield 28, 3) := by decide +kernel
theorem dX2_divide_8 : decode cX2_divide 8 = .ok (.arraylength, 1) := by decide +kernel
theorem dX2_divide_9 : decode cX2_divide 9 = .ok (.if_icmp .ge 29, 3) := by decide +kernel
theorem dX2_divide_12 : decode cX2_divide 12 = .ok (.aload_n 0, 1) := by decide +kernel
theorem dX2_divide_13 : decode cX2_divide 13 = .ok (.getfield 28, 3) := by decide +kernel
theorem dX2_divide_16 : decode cX2_divide 16 = .ok (.aload_n 0, 1) := by decide +kernel
theorem dX2_divide_17 : decode cX2_divide 17 = .ok (.getfield 38, 3) := by decide +kernel
theorem dX2_divide_20 : decode cX2_divide 20 = .ok (.aload_n 0, 1) := by decide +kernel
theorem dX2_divide_21 : decode cX2_divide 21 = .ok (.getfield 34, 3) := by decide +kernel
theorem dX2_divide_24 : decode cX2_divide 24 = .ok (.iastore, 1) := by decide +kernel
theorem dX2_divide_25 : decode cX2_divide 25 = .ok (.aload_n 0, 1) := by decide +kernel
theorem dX2_divide_26 : decode cX2_divide 26 = .ok (.dup, 1) := by decide +kernel
theorem dX2_divide_27 : decode cX2_divide 27 = .ok (.getfield 38, 3) := by decide +kernel
theorem dX2_divide_30 : decode cX2_divide 30 = .ok (.iconst 1, 1) := by decide +kernel
theorem dX2_divide_31 : decode cX2_divide 31 = .ok (.iadd, 1) := by decide +kernel
theorem dX2_divide_32 : decode cX2_divide 32 = .ok (.putfield 38, 3) := by decide +kernel
theorem dX2_divide_35 : decode cX2_divide 35 = .ok (.goto 16, 3) := by decide +kernel
theorem dX2_divide_38 : decode cX2_divide 38 = .ok (.aload_n 0, 1) := by decide +kernel
theorem dX2_divide_39 : decode cX2_divide 39 = .ok (.getfield 41, 3) := by decide +kernel
theorem dX2_divide_42 : decode cX2_divide 42 = .ok (.iconst (-1), 1) := by decide +kernel
theorem dX2_divide_43 : decode cX2_divide 43 = .ok (.if_icmp .ne 8, 3) := by decide +kernel
theorem dX2_divide_46 : decode cX2_divide 46 = .ok (.aload_n 0, 1) := by decide +kernel
theorem dX2_divide_47 : decode cX2_divide 47 = .ok (.iload_n 1, 1) := by decide +kernel
theorem dX2_divide_48 : decode cX2_divide 48 = .ok (.putfield 41, 3) := by decide +kernel
theorem dX2_divide_51 : decode cX2_divide 51 = .ok (.return_, 1) := by decide +kernel
theorem dX2_add_0 : decode cX2_add 0 = .ok (.aload_n 0, 1) := by decide +kernel
theorem dX2_add_1 : decode cX2_add 1 = .ok (.getfield 34, 3) := by decide +kernel
theorem dX2_add_4 : decode cX2_add 4 = .ok (.aload_n 0, 1) := by decide +kernel
theorem dX2_add_5 : decode cX2_add 5 = .ok (.getfield 9, 3) := by decide +kernel
theorem dX2_add_8 : decode cX2_add 8 = .ok (.arraylength, 1) := by decide +kernel
theorem dX2_add_9 : decode cX2_add 9 = .ok (.if_icmp .ge 64, 3) := by decide +kernel
theorem dX2_add_12 : decode cX2_add 12 = .ok (.aload_n 0, 1) := by decide +kernel
theorem dX2_add_13 : decode cX2_add 13 = .ok (.getfield 9, 3) := by decide +kernel
theorem dX2_add_16 : decode cX2_add 16 = .ok (.aload_n 0, 1) := by decide +kernel
theorem dX2_add_17 : decode cX2_add 17 = .ok (.getfield 34, 3) := by decide +kernel
theorem dX2_add_20 : decode cX2_add 20 = .ok (.iload_n 1, 1) := by decide +kernel
theorem dX2_add_21 : decode cX2_add 21 = .ok (.iastore, 1) := by decide +kernel
theorem dX2_add_22 : decode cX2_add 22 = .ok (.aload_n 0, 1) := by decide +kernel
theorem dX2_add_23 : decode cX2_add 23 = .ok (.getfield 15, 3) := by decide +kernel
theorem dX2_add_26 : decode cX2_add 26 = .ok (.aload_n 0, 1) := by decide +kernel
theorem dX2_add_27 : decode cX2_add 27 = .ok (.getfield 34, 3) := by decide +kernel
theorem dX2_add_30 : decode cX2_add 30 = .ok (.iload_n 2, 1) := by decide +kernel
theorem dX2_add_31 : decode cX2_add 31 = .ok (.iastore, 1) := by decide +kernel
theorem dX2_add_32 : decode cX2_add 32 = .ok (.aload_n 0, 1) := by decide +kernel
theorem dX2_add_33 : decode cX2_add 33 = .ok (.getfield 18, 3) := by decide +kernel
theorem dX2_add_36 : decode cX2_add 36 = .ok (.aload_n 0, 1) := by decide +kernel
theorem dX2_add_37 : decode cX2_add 37 = .ok (.getfield 34, 3) := by decide +kernel
theorem dX2_add_40 : decode cX2_add 40 = .ok (.iload_n 3, 1) := by decide +kernel
theorem dX2_add_41 : decode cX2_add 41 = .ok (.iastore, 1) := by decide +kernel
theorem dX2_add_42 : decode cX2_add 42 = .ok (.aload_n 0, 1) := by decide +kernel
theorem dX2_add_43 : decode cX2_add 43 = .ok (.getfield 21, 3) := by decide +kernel
theorem dX2_add_46 : decode cX2_add 46 = .ok (.aload_n 0, 1) := by decide +kernel
theorem dX2_add_47 : decode cX2_add 47 = .ok (.getfield 34, 3) := by decide +kernel
theorem dX2_add_50 : decode cX2_add 50 = .ok (.iload 4, 2) := by decide +kernel
theorem dX2_add_52 : decode cX2_add 52 = .ok (.iastore, 1) := by decide +kernel
theorem dX2_add_53 : decode cX2_add 53 = .ok (.aload_n 0, 1) := by decide +kernel
theorem dX2_add_54 : decode cX2_add 54 = .ok (.getfield 24, 3) := by decide +kernel
theorem dX2_add_57 : decode cX2_add 57 = .ok (.aload_n 0, 1) := by decide +kernel
theorem dX2_add_58 : decode cX2_add 58 = .ok (.getfield 34, 3) := by decide +kernel
theorem dX2_add_61 : decode cX2_add 61 = .ok (.dconst 0, 1) := by decide +kernel
theorem dX2_add_62 : decode cX2_add 62 = .ok (.dastore, 1) := by decide +kernel
theorem dX2_add_63 : decode cX2_add 63 = .ok (.aload_n 0, 1) := by decide +kernel
theorem dX2_add_64 : decode cX2_add 64 = .ok (.dup, 1) := by decide +kernel
theorem dX2_add_65 : decode cX2_add 65 = .ok (.getfield 34, 3) := by decide +kernel
theorem dX2_add_68 : decode cX2_add 68 = .ok (.iconst 1, 1) := by decide +kernel
theorem dX2_add_69 : decode cX2_add 69 = .ok (.iadd, 1) := by decide +kernel
theorem dX2_add_70 : decode cX2_add 70 = .ok (.putfield 34, 3) := by decide +kernel
theorem dX2_add_73 : decode cX2_add 73 = .ok (.return_, 1) := by decide +kernel
theorem dX2_addCondition_0 : decode cX2_addCondition 0 = .ok (.aload_n 0, 1) := by decide +kernel
theorem dX2_addCondition_1 : decode cX2_addCondition 1 = .ok (.getfield 34, 3) := by decide +kernel
theorem dX2_addCondition_4 : decode cX2_addCondition 4 = .ok (.istore 5, 2) := by decide +kernel
theorem dX2_addCondition_6 : decode cX2_addCondition 6 = .ok (.aload_n 0, 1) := by decide +kernel
theorem dX2_addCondition_7 : decode cX2_addCondition 7 = .ok (.iconst 2, 1) := by decide +kernel
theorem dX2_addCondition_8 : decode cX2_addCondition 8 = .ok (.bipush 91, 2) := by decide +kernel
theorem dX2_addCondition_10 : decode cX2_addCondition 10 = .ok (.iload_n 1, 1) := by decide +kernel
theorem dX2_addCondition_11 : decode cX2_addCondition 11 = .ok (.iload 4, 2) := by decide +kernel
theorem dX2_addCondition_13 : decode cX2_addCondition 13 = .ok (.invokevirtual 48, 3) := by decide +kernel
theorem dX2_addCondition_16 : decode cX2_addCondition 16 = .ok (.iload 5, 2) := by decide +kernel
theorem dX2_addCondition_18 : decode cX2_addCondition 18 = .ok (.ifCond .lt 21, 3) := by decide +kernel
theorem dX2_addCondition_21 : decode cX2_addCondition 21 = .ok (.iload 5, 2) := by decide +kernel
theorem dX2_addCondition_23 : decode cX2_addCondition 23 = .ok (.aload_n 0, 1) := by decide +kernel
theorem dX2_addCondition_24 : decode cX2_addCondition 24 = .ok (.getfield 24, 3) := by decide +kernel
theorem dX2_addCondition_27 : decode cX2_addCondition 27 = .ok (.arraylength, 1) := by decide +kernel
theorem dX2_addCondition_28 : decode cX2_addCondition 28 = .ok (.if_icmp .ge 11, 3) := by decide +kernel
theorem dX2_addCondition_31 : decode cX2_addCondition 31 = .ok (.aload_n 0, 1) := by decide +kernel
theorem dX2_addCondition_32 : decode cX2_addCondition 32 = .ok (.getfield 24, 3) := by decide +kernel
theorem dX2_addCondition_35 : decode cX2_addCondition 35 = .ok (.iload 5, 2) := by decide +kernel
theorem dX2_addCondition_37 : decode cX2_addCondition 37 = .ok (.dload_n 2, 1) := by decide +kernel
theorem dX2_addCondition_38 : decode cX2_addCondition 38 = .ok (.dastore, 1) := by decide +kernel
theorem dX2_addCondition_39 : decode cX2_addCondition 39 = .ok (.return_, 1) := by decide +kernel
theorem dX2_sections_0 : decode cX2_sections 0 = .ok (.aload_n 0, 1) := by decide +kernel
theorem dX2_sections_1 : decode cX2_sections 1 = .ok (.getfield 38, 3) := by decide +kernel
theorem dX2_sections_4 : decode cX2_sections 4 = .ok (.ireturn, 1) := by decide +kernel
theorem dX2_fifthPlace_0 : decode cX2_fifthPlace 0 = .ok (.aload_n 0, 1) := by decide +kernel
theorem dX2_fifthPlace_1 : decode cX2_fifthPlace 1 = .ok (.getfield 41, 3) := by decide +kernel
theorem dX2_fifthPlace_4 : decode cX2_fifthPlace 4 = .ok (.ireturn, 1) := by decide +kernel
theorem dX2_from_0 : decode cX2_from 0 = .ok (.iload_n 1, 1) := by decide +kernel
theorem dX2_from_1 : decode cX2_from 1 = .ok (.ifCond .lt 29, 3) := by decide +kernel
theorem dX2_from_4 : decode cX2_from 4 = .ok (.iload_n 1, 1) := by decide +kernel
theorem dX2_from_5 : decode cX2_from 5 = .ok (.aload_n 0, 1) := by decide +kernel
theorem dX2_from_6 : decode cX2_from 6 = .ok (.getfield 38, 3) := by decide +kernel
theorem dX2_from_9 : decode cX2_from 9 = .ok (.if_icmp .ge 21, 3) := by decide +kernel
theorem dX2_from_12 : decode cX2_from 12 = .ok (.iload_n 1, 1) := by decide +kernel
theorem dX2_from_13 : decode cX2_from 13 = .ok (.aload_n 0, 1) := by decide +kernel
theorem dX2_from_14 : decode cX2_from 14 = .ok (.getfield 28, 3) := by decide +kernel
theorem dX2_from_17 : decode cX2_from 17 = .ok (.arraylength, 1) := by decide +kernel
theorem dX2_from_18 : decode cX2_from 18 = .ok (.if_icmp .ge 12, 3) := by decide +kernel
theorem dX2_from_21 : decode cX2_from 21 = .ok (.aload_n 0, 1) := by decide +kernel
theorem dX2_from_22 : decode cX2_from 22 = .ok (.getfield 28, 3) := by decide +kernel
theorem dX2_from_25 : decode cX2_from 25 = .ok (.iload_n 1, 1) := by decide +kernel
theorem dX2_from_26 : decode cX2_from 26 = .ok (.iaload, 1) := by decide +kernel
theorem dX2_from_27 : decode cX2_from 27 = .ok (.goto 7, 3) := by decide +kernel
theorem dX2_from_30 : decode cX2_from 30 = .ok (.aload_n 0, 1) := by decide +kernel
theorem dX2_from_31 : decode cX2_from 31 = .ok (.getfield 34, 3) := by decide +kernel
theorem dX2_from_34 : decode cX2_from 34 = .ok (.ireturn, 1) := by decide +kernel
theorem dX2_to_0 : decode cX2_to 0 = .ok (.iload_n 1, 1) := by decide +kernel
theorem dX2_to_1 : decode cX2_to 1 = .ok (.iconst (-1), 1) := by decide +kernel
theorem dX2_to_2 : decode cX2_to 2 = .ok (.if_icmp .lt 35, 3) := by decide +kernel
theorem dX2_to_5 : decode cX2_to 5 = .ok (.iload_n 1, 1) := by decide +kernel
theorem dX2_to_6 : decode cX2_to 6 = .ok (.iconst 1, 1) := by decide +kernel
theorem dX2_to_7 : decode cX2_to 7 = .ok (.iadd, 1) := by decide +kernel
theorem dX2_to_8 : decode cX2_to 8 = .ok (.aload_n 0, 1) := by decide +kernel
theorem dX2_to_9 : decode cX2_to 9 = .ok (.getfield 38, 3) := by decide +kernel
theorem dX2_to_12 : decode cX2_to 12 = .ok (.if_icmp .ge 25, 3) := by decide +kernel
theorem dX2_to_15 : decode cX2_to 15 = .ok (.iload_n 1, 1) := by decide +kernel
theorem dX2_to_16 : decode cX2_to 16 = .ok (.iconst 1, 1) := by decide +kernel
theorem dX2_to_17 : decode cX2_to 17 = .ok (.iadd, 1) := by decide +kernel
theorem dX2_to_18 : decode cX2_to 18 = .ok (.aload_n 0, 1) := by decide +kernel
theorem dX2_to_19 : decode cX2_to 19 = .ok (.getfield 28, 3) := by decide +kernel
theorem dX2_to_22 : decode cX2_to 22 = .ok (.arraylength, 1) := by decide +kernel
theorem dX2_to_23 : decode cX2_to 23 = .ok (.if_icmp .ge 14, 3) := by decide +kernel
theorem dX2_to_26 : decode cX2_to 26 = .ok (.aload_n 0, 1) := by decide +kernel
theorem dX2_to_27 : decode cX2_to 27 = .ok (.getfield 28, 3) := by decide +kernel
theorem dX2_to_30 : decode cX2_to 30 = .ok (.iload_n 1, 1) := by decide +kernel
theorem dX2_to_31 : decode cX2_to 31 = .ok (.iconst 1, 1) := by decide +kernel
theorem dX2_to_32 : decode cX2_to 32 = .ok (.iadd, 1) := by decide +kernel
theorem dX2_to_33 : decode cX2_to 33 = .ok (.iaload, 1) := by decide +kernel
theorem dX2_to_34 : decode cX2_to 34 = .ok (.goto 7, 3) := by decide +kernel
theorem dX2_to_37 : decode cX2_to 37 = .ok (.aload_n 0, 1) := by decide +kernel
theorem dX2_to_38 : decode cX2_to 38 = .ok (.getfield 34, 3) := by decide +kernel
theorem dX2_to_41 : decode cX2_to 41 = .ok (.ireturn, 1) := by decide +kernel
theorem dX2_sort_0 : decode cX2_sort 0 = .ok (.iload_n 1, 1) := by decide +kernel
theorem dX2_sort_1 : decode cX2_sort 1 = .ok (.ifCond .lt 21, 3) := by decide +kernel
theorem dX2_sort_4 : decode cX2_sort 4 = .ok (.iload_n 1, 1) := by decide +kernel
theorem dX2_sort_5 : decode cX2_sort 5 = .ok (.aload_n 0, 1) := by decide +kernel
theorem dX2_sort_6 : decode cX2_sort 6 = .ok (.getfield 31, 3) := by decide +kernel
theorem dX2_sort_9 : decode cX2_sort 9 = .ok (.arraylength, 1) := by decide +kernel
theorem dX2_sort_10 : decode cX2_sort 10 = .ok (.if_icmp .ge 12, 3) := by decide +kernel
theorem dX2_sort_13 : decode cX2_sort 13 = .ok (.aload_n 0, 1) := by decide +kernel
theorem dX2_sort_14 : decode cX2_sort 14 = .ok (.getfield 31, 3) := by decide +kernel
theorem dX2_sort_17 : decode cX2_sort 17 = .ok (.iload_n 1, 1) := by decide +kernel
theorem dX2_sort_18 : decode cX2_sort 18 = .ok (.iaload, 1) := by decide +kernel
theorem dX2_sort_19 : decode cX2_sort 19 = .ok (.goto 4, 3) := by decide +kernel
theorem dX2_sort_22 : decode cX2_sort 22 = .ok (.iconst 0, 1) := by decide +kernel
theorem dX2_sort_23 : decode cX2_sort 23 = .ok (.ireturn, 1) := by decide +kernel
theorem dX2_setSort_0 : decode cX2_setSort 0 = .ok (.iload_n 1, 1) := by decide +kernel
theorem dX2_setSort_1 : decode cX2_setSort 1 = .ok (.ifCond .lt 19, 3) := by decide +kernel
theorem dX2_setSort_4 : decode cX2_setSort 4 = .ok (.iload_n 1, 1) := by decide +kernel
theorem dX2_setSort_5 : decode cX2_setSort 5 = .ok (.aload_n 0, 1) := by decide +kernel
theorem dX2_setSort_6 : decode cX2_setSort 6 = .ok (.getfield 31, 3) := by decide +kernel
theorem dX2_setSort_9 : decode cX2_setSort 9 = .ok (.arraylength, 1) := by decide +kernel
theorem dX2_setSort_10 : decode cX2_setSort 10 = .ok (.if_icmp .ge 10, 3) := by decide +kernel
theorem dX2_setSort_13 : decode cX2_setSort 13 = .ok (.aload_n 0, 1) := by decide +kernel
theorem dX2_setSort_14 : decode cX2_setSort 14 = .ok (.getfield 31, 3) := by decide +kernel
theorem dX2_setSort_17 : decode cX2_setSort 17 = .ok (.iload_n 1, 1) := by decide +kernel
theorem dX2_setSort_18 : decode cX2_setSort 18 = .ok (.iload_n 2, 1) := by decide +kernel
theorem dX2_setSort_19 : decode cX2_setSort 19 = .ok (.iastore, 1) := by decide +kernel
theorem dX2_setSort_20 : decode cX2_setSort 20 = .ok (.return_, 1) := by decide +kernel
theorem dX2_kind_0 : decode cX2_kind 0 = .ok (.iload_n 1, 1) := by decide +kernel
theorem dX2_kind_1 : decode cX2_kind 1 = .ok (.ifCond .lt 29, 3) := by decide +kernel
theorem dX2_kind_4 : decode cX2_kind 4 = .ok (.iload_n 1, 1) := by decide +kernel
theorem dX2_kind_5 : decode cX2_kind 5 = .ok (.aload_n 0, 1) := by decide +kernel
theorem dX2_kind_6 : decode cX2_kind 6 = .ok (.getfield 34, 3) := by decide +kernel
theorem dX2_kind_9 : decode cX2_kind 9 = .ok (.if_icmp .ge 21, 3) := by decide +kernel
theorem dX2_kind_12 : decode cX2_kind 12 = .ok (.iload_n 1, 1) := by decide +kernel
theorem dX2_kind_13 : decode cX2_kind 13 = .ok (.aload_n 0, 1) := by decide +kernel
theorem dX2_kind_14 : decode cX2_kind 14 = .ok (.getfield 9, 3) := by decide +kernel
theorem dX2_kind_17 : decode cX2_kind 17 = .ok (.arraylength, 1) := by decide +kernel
theorem dX2_kind_18 : decode cX2_kind 18 = .ok (.if_icmp .ge 12, 3) := by decide +kernel
theorem dX2_kind_21 : decode cX2_kind 21 = .ok (.aload_n 0, 1) := by decide +kernel
theorem dX2_kind_22 : decode cX2_kind 22 = .ok (.getfield 9, 3) := by decide +kernel
theorem dX2_kind_25 : decode cX2_kind 25 = .ok (.iload_n 1, 1) := by decide +kernel
theorem dX2_kind_26 : decode cX2_kind 26 = .ok (.iaload, 1) := by decide +kernel
theorem dX2_kind_27 : decode cX2_kind 27 = .ok (.goto 4, 3) := by decide +kernel
theorem dX2_kind_30 : decode cX2_kind 30 = .ok (.iconst (-1), 1) := by decide +kernel
theorem dX2_kind_31 : decode cX2_kind 31 = .ok (.ireturn, 1) := by decide +kernel
theorem dX2_setKind_0 : decode cX2_setKind 0 = .ok (.iload_n 1, 1) := by decide +kernel
theorem dX2_setKind_1 : decode cX2_setKind 1 = .ok (.ifCond .lt 27, 3) := by decide +kernel
theorem dX2_setKind_4 : decode cX2_setKind 4 = .ok (.iload_n 1, 1) := by decide +kernel
theorem dX2_setKind_5 : decode cX2_setKind 5 = .ok (.aload_n 0, 1) := by decide +kernel
theorem dX2_setKind_6 : decode cX2_setKind 6 = .ok (.getfield 34, 3) := by decide +kernel
theorem dX2_setKind_9 : decode cX2_setKind 9 = .ok (.if_icmp .ge 19, 3) := by decide +kernel
theorem dX2_setKind_12 : decode cX2_setKind 12 = .ok (.iload_n 1, 1) := by decide +kernel
theorem dX2_setKind_13 : decode cX2_setKind 13 = .ok (.aload_n 0, 1) := by decide +kernel
theorem dX2_setKind_14 : decode cX2_setKind 14 = .ok (.getfield 9, 3) := by decide +kernel
theorem dX2_setKind_17 : decode cX2_setKind 17 = .ok (.arraylength, 1) := by decide +kernel
theorem dX2_setKind_18 : decode cX2_setKind 18 = .ok (.if_icmp .ge 10, 3) := by decide +kernel
theorem dX2_setKind_21 : decode cX2_setKind 21 = .ok (.aload_n 0, 1) := by decide +kernel
theorem dX2_setKind_22 : decode cX2_setKind 22 = .ok (.getfield 9, 3) := by decide +kernel
theorem dX2_setKind_25 : decode cX2_setKind 25 = .ok (.iload_n 1, 1) := by decide +kernel
theorem dX2_setKind_26 : decode cX2_setKind 26 = .ok (.iload_n 2, 1) := by decide +kernel
theorem dX2_setKind_27 : decode cX2_setKind 27 = .ok (.iastore, 1) := by decide +kernel
theorem dX2_setKind_28 : decode cX2_setKind 28 = .ok (.return_, 1) := by decide +kernel
theorem dX2_sign_0 : decode cX2_sign 0 = .ok (.iload_n 1, 1) := by decide +kernel
theorem dX2_sign_1 : decode cX2_sign 1 = .ok (.ifCond .lt 29, 3) := by decide +kernel
theorem dX2_sign_4 : decode cX2_sign 4 = .ok (.iload_n 1, 1) := by decide +kernel
theorem dX2_sign_5 : decode cX2_sign 5 = .ok (.aload_n 0, 1) := by decide +kernel
theorem dX2_sign_6 : decode cX2_sign 6 = .ok (.getfield 34, 3) := by decide +kernel
theorem dX2_sign_9 : decode cX2_sign 9 = .ok (.if_icmp .ge 21, 3) := by decide +kernel
theorem dX2_sign_12 : decode cX2_sign 12 = .ok (.iload_n 1, 1) := by decide +kernel
theorem dX2_sign_13 : decode cX2_sign 13 = .ok (.aload_n 0, 1) := by decide +kernel
theorem dX2_sign_14 : decode cX2_sign 14 = .ok (.getfield 15, 3) := by decide +kernel
theorem dX2_sign_17 : decode cX2_sign 17 = .ok (.arraylength, 1) := by decide +kernel
theorem dX2_sign_18 : decode cX2_sign 18 = .ok (.if_icmp .ge 12, 3) := by decide +kernel
theorem dX2_sign_21 : decode cX2_sign 21 = .ok (.aload_n 0, 1) := by decide +kernel
theorem dX2_sign_22 : decode cX2_sign 22 = .ok (.getfield 15, 3) := by decide +kernel
theorem dX2_sign_25 : decode cX2_sign 25 = .ok (.iload_n 1, 1) := by decide +kernel
theorem dX2_sign_26 : decode cX2_sign 26 = .ok (.iaload, 1) := by decide +kernel
theorem dX2_sign_27 : decode cX2_sign 27 = .ok (.goto 4, 3) := by decide +kernel
theorem dX2_sign_30 : decode cX2_sign 30 = .ok (.iconst (-1), 1) := by decide +kernel
theorem dX2_sign_31 : decode cX2_sign 31 = .ok (.ireturn, 1) := by decide +kernel
theorem dX2_size_0 : decode cX2_size 0 = .ok (.iload_n 1, 1) := by decide +kernel
theorem dX2_size_1 : decode cX2_size 1 = .ok (.ifCond .lt 29, 3) := by decide +kernel
theorem dX2_size_4 : decode cX2_size 4 = .ok (.iload_n 1, 1) := by decide +kernel
theorem dX2_size_5 : decode cX2_size 5 = .ok (.aload_n 0, 1) := by decide +kernel
theorem dX2_size_6 : decode cX2_size 6 = .ok (.getfield 34, 3) := by decide +kernel
theorem dX2_size_9 : decode cX2_size 9 = .ok (.if_icmp .ge 21, 3) := by decide +kernel
theorem dX2_size_12 : decode cX2_size 12 = .ok (.iload_n 1, 1) := by decide +kernel
theorem dX2_size_13 : decode cX2_size 13 = .ok (.aload_n 0, 1) := by decide +kernel
theorem dX2_size_14 : decode cX2_size 14 = .ok (.getfield 18, 3) := by decide +kernel
theorem dX2_size_17 : decode cX2_size 17 = .ok (.arraylength, 1) := by decide +kernel
theorem dX2_size_18 : decode cX2_size 18 = .ok (.if_icmp .ge 12, 3) := by decide +kernel
theorem dX2_size_21 : decode cX2_size 21 = .ok (.aload_n 0, 1) := by decide +kernel
theorem dX2_size_22 : decode cX2_size 22 = .ok (.getfield 18, 3) := by decide +kernel
theorem dX2_size_25 : decode cX2_size 25 = .ok (.iload_n 1, 1) := by decide +kernel
theorem dX2_size_26 : decode cX2_size 26 = .ok (.iaload, 1) := by decide +kernel
theorem dX2_size_27 : decode cX2_size 27 = .ok (.goto 4, 3) := by decide +kernel
theorem dX2_size_30 : decode cX2_size 30 = .ok (.iconst 0, 1) := by decide +kernel
theorem dX2_size_31 : decode cX2_size 31 = .ok (.ireturn, 1) := by decide +kernel
theorem dX2_place_0 : decode cX2_place 0 = .ok (.iload_n 1, 1) := by decide +kernel
theorem dX2_place_1 : decode cX2_place 1 = .ok (.ifCond .lt 29, 3) := by decide +kernel
theorem dX2_place_4 : decode cX2_place 4 = .ok (.iload_n 1, 1) := by decide +kernel
theorem dX2_place_5 : decode cX2_place 5 = .ok (.aload_n 0, 1) := by decide +kernel
theorem dX2_place_6 : decode cX2_place 6 = .ok (.getfield 34, 3) := by decide +kernel
theorem dX2_place_9 : decode cX2_place 9 = .ok (.if_icmp .ge 21, 3) := by decide +kernel
theorem dX2_place_12 : decode cX2_place 12 = .ok (.iload_n 1, 1) := by decide +kernel
theorem dX2_place_13 : decode cX2_place 13 = .ok (.aload_n 0, 1) := by decide +kernel
theorem dX2_place_14 : decode cX2_place 14 = .ok (.getfield 21, 3) := by decide +kernel
theorem dX2_place_17 : decode cX2_place 17 = .ok (.arraylength, 1) := by decide +kernel
theorem dX2_place_18 : decode cX2_place 18 = .ok (.if_icmp .ge 12, 3) := by decide +kernel
theorem dX2_place_21 : decode cX2_place 21 = .ok (.aload_n 0, 1) := by decide +kernel
theorem dX2_place_22 : decode cX2_place 22 = .ok (.getfield 21, 3) := by decide +kernel
theorem dX2_place_25 : decode cX2_place 25 = .ok (.iload_n 1, 1) := by decide +kernel
theorem dX2_place_26 : decode cX2_place 26 = .ok (.iaload, 1) := by decide +kernel
theorem dX2_place_27 : decode cX2_place 27 = .ok (.goto 4, 3) := by decide +kernel
theorem dX2_place_30 : decode cX2_place 30 = .ok (.iconst (-1), 1) := by decide +kernel
theorem dX2_place_31 : decode cX2_place 31 = .ok (.ireturn, 1) := by decide +kernel
theorem dX2_limit_0 : decode cX2_limit 0 = .ok (.iload_n 1, 1) := by decide +kernel
theorem dX2_limit_1 : decode cX2_limit 1 = .ok (.ifCond .lt 29, 3) := by decide +kernel
theorem dX2_limit_4 : decode cX2_limit 4 = .ok (.iload_n 1, 1) := by decide +kernel
theorem dX2_limit_5 : decode cX2_limit 5 = .ok (.aload_n 0, 1) := by decide +kernel
theorem dX2_limit_6 : decode cX2_limit 6 = .ok (.getfield 34, 3) := by decide +kernel
theorem dX2_limit_9 : decode cX2_limit 9 = .ok (.if_icmp .ge 21, 3) := by decide +kernel
theorem dX2_limit_12 : decode cX2_limit 12 = .ok (.iload_n 1, 1) := by decide +kernel
theorem dX2_limit_13 : decode cX2_limit 13 = .ok (.aload_n 0, 1) := by decide +kernel
theorem dX2_limit_14 : decode cX2_limit 14 = .ok (.getfield 24, 3) := by decide +kernel
theorem dX2_limit_17 : decode cX2_limit 17 = .ok (.arraylength, 1) := by decide +kernel
theorem dX2_limit_18 : decode cX2_limit 18 = .ok (.if_icmp .ge 12, 3) := by decide +kernel
theorem dX2_limit_21 : decode cX2_limit 21 = .ok (.aload_n 0, 1) := by decide +kernel
theorem dX2_limit_22 : decode cX2_limit 22 = .ok (.getfield 24, 3) := by decide +kernel
theorem dX2_limit_25 : decode cX2_limit 25 = .ok (.iload_n 1, 1) := by decide +kernel
theorem dX2_limit_26 : decode cX2_limit 26 = .ok (.daload, 1) := by decide +kernel
theorem dX2_limit_27 : decode cX2_limit 27 = .ok (.goto 4, 3) := by decide +kernel
theorem dX2_limit_30 : decode cX2_limit 30 = .ok (.dconst 0, 1) := by decide +kernel
theorem dX2_limit_31 : decode cX2_limit 31 = .ok (.dreturn, 1) := by decide +kernel
theorem dX2_kindIn_0 : decode cX2_kindIn 0 = .ok (.iload_n 2, 1) := by decide +kernel
theorem dX2_kindIn_1 : decode cX2_kindIn 1 = .ok (.aload_n 0, 1) := by decide +kernel
theorem dX2_kindIn_2 : decode cX2_kindIn 2 = .ok (.iload_n 1, 1) := by decide +kernel
theorem dX2_kindIn_3 : decode cX2_kindIn 3 = .ok (.invokevirtual 52, 3) := by decide +kernel
theorem dX2_kindIn_6 : decode cX2_kindIn 6 = .ok (.if_icmp .lt 20, 3) := by decide +kernel
theorem dX2_kindIn_9 : decode cX2_kindIn 9 = .ok (.iload_n 2, 1) := by decide +kernel
theorem dX2_kindIn_10 : decode cX2_kindIn 10 = .ok (.aload_n 0, 1) := by decide +kernel
theorem dX2_kindIn_11 : decode cX2_kindIn 11 = .ok (.iload_n 1, 1) := by decide +kernel
theorem dX2_kindIn_12 : decode cX2_kindIn 12 = .ok (.invokevirtual 56, 3) := by decide +kernel
theorem dX2_kindIn_15 : decode cX2_kindIn 15 = .ok (.if_icmp .ge 11, 3) := by decide +kernel
theorem dX2_kindIn_18 : decode cX2_kindIn 18 = .ok (.aload_n 0, 1) := by decide +kernel
theorem dX2_kindIn_19 : decode cX2_kindIn 19 = .ok (.iload_n 2, 1) := by decide +kernel
theorem dX2_kindIn_20 : decode cX2_kindIn 20 = .ok (.invokevirtual 59, 3) := by decide +kernel
theorem dX2_kindIn_23 : decode cX2_kindIn 23 = .ok (.goto 4, 3) := by decide +kernel
theorem dX2_kindIn_26 : decode cX2_kindIn 26 = .ok (.iconst (-1), 1) := by decide +kernel
theorem dX2_kindIn_27 : decode cX2_kindIn 27 = .ok (.ireturn, 1) := by decide +kernel
theorem dX2_find_0 : decode cX2_find 0 = .ok (.iload_n 2, 1) := by decide +kernel
theorem dX2_find_1 : decode cX2_find 1 = .ok (.istore 4, 2) := by decide +kernel
theorem dX2_find_3 : decode cX2_find 3 = .ok (.iload 4, 2) := by decide +kernel
theorem dX2_find_5 : decode cX2_find 5 = .ok (.iload_n 3, 1) := by decide +kernel
theorem dX2_find_6 : decode cX2_find 6 = .ok (.if_icmp .ge 22, 3) := by decide +kernel
theorem dX2_find_9 : decode cX2_find 9 = .ok (.aload_n 0, 1) := by decide +kernel
theorem dX2_find_10 : decode cX2_find 10 = .ok (.iload 4, 2) := by decide +kernel
theorem dX2_find_12 : decode cX2_find 12 = .ok (.invokevirtual 59, 3) := by decide +kernel
theorem dX2_find_15 : decode cX2_find 15 = .ok (.iload_n 1, 1) := by decide +kernel
theorem dX2_find_16 : decode cX2_find 16 = .ok (.if_icmp .ne 6, 3) := by decide +kernel
theorem dX2_find_19 : decode cX2_find 19 = .ok (.iload 4, 2) := by decide +kernel
theorem dX2_find_21 : decode cX2_find 21 = .ok (.ireturn, 1) := by decide +kernel
theorem dX2_find_22 : decode cX2_find 22 = .ok (.iinc 4 1, 3) := by decide +kernel
theorem dX2_find_25 : decode cX2_find 25 = .ok (.goto (-22), 3) := by decide +kernel
theorem dX2_find_28 : decode cX2_find 28 = .ok (.iconst (-1), 1) := by decide +kernel
theorem dX2_find_29 : decode cX2_find 29 = .ok (.ireturn, 1) := by decide +kernel
theorem dX2_findIn_0 : decode cX2_findIn 0 = .ok (.aload_n 0, 1) := by decide +kernel
theorem dX2_findIn_1 : decode cX2_findIn 1 = .ok (.iload_n 2, 1) := by decide +kernel
theorem dX2_findIn_2 : decode cX2_findIn 2 = .ok (.aload_n 0, 1) := by decide +kernel
theorem dX2_findIn_3 : decode cX2_findIn 3 = .ok (.iload_n 1, 1) := by decide +kernel
theorem dX2_findIn_4 : decode cX2_findIn 4 = .ok (.invokevirtual 52, 3) := by decide +kernel
theorem dX2_findIn_7 : decode cX2_findIn 7 = .ok (.aload_n 0, 1) := by decide +kernel
theorem dX2_findIn_8 : decode cX2_findIn 8 = .ok (.iload_n 1, 1) := by decide +kernel
theorem dX2_findIn_9 : decode cX2_findIn 9 = .ok (.invokevirtual 56, 3) := by decide +kernel
theorem dX2_findIn_12 : decode cX2_findIn 12 = .ok (.invokevirtual 62, 3) := by decide +kernel
theorem dX2_findIn_15 : decode cX2_findIn 15 = .ok (.ireturn, 1) := by decide +kernel
theorem dX2_findLast_0 : decode cX2_findLast 0 = .ok (.iload_n 3, 1) := by decide +kernel
theorem dX2_findLast_1 : decode cX2_findLast 1 = .ok (.iconst 1, 1) := by decide +kernel
theorem dX2_findLast_2 : decode cX2_findLast 2 = .ok (.isub, 1) := by decide +kernel
theorem dX2_findLast_3 : decode cX2_findLast 3 = .ok (.istore 4, 2) := by decide +kernel
theorem dX2_findLast_5 : decode cX2_findLast 5 = .ok (.iload 4, 2) := by decide +kernel
theorem dX2_findLast_7 : decode cX2_findLast 7 = .ok (.iload_n 2, 1) := by decide +kernel
theorem dX2_findLast_8 : decode cX2_findLast 8 = .ok (.if_icmp .lt 22, 3) := by decide +kernel
theorem dX2_findLast_11 : decode cX2_findLast 11 = .ok (.aload_n 0, 1) := by decide +kernel
theorem dX2_findLast_12 : decode cX2_findLast 12 = .ok (.iload 4, 2) := by decide +kernel
theorem dX2_findLast_14 : decode cX2_findLast 14 = .ok (.invokevirtual 59, 3) := by decide +kernel
theorem dX2_findLast_17 : decode cX2_findLast 17 = .ok (.iload_n 1, 1) := by decide +kernel
theorem dX2_findLast_18 : decode cX2_findLast 18 = .ok (.if_icmp .ne 6, 3) := by decide +kernel
theorem dX2_findLast_21 : decode cX2_findLast 21 = .ok (.iload 4, 2) := by decide +kernel
theorem dX2_findLast_23 : decode cX2_findLast 23 = .ok (.ireturn, 1) := by decide +kernel
theorem dX2_findLast_24 : decode cX2_findLast 24 = .ok (.iinc 4 (-1), 3) := by decide +kernel
theorem dX2_findLast_27 : decode cX2_findLast 27 = .ok (.goto (-22), 3) := by decide +kernel
theorem dX2_findLast_30 : decode cX2_findLast 30 = .ok (.iconst (-1), 1) := by decide +kernel
theorem dX2_findLast_31 : decode cX2_findLast 31 = .ok (.ireturn, 1) := by decide +kernel
theorem dX2_tally_0 : decode cX2_tally 0 = .ok (.iconst 0, 1) := by decide +kernel
theorem dX2_tally_1 : decode cX2_tally 1 = .ok (.istore 4, 2) := by decide +kernel
theorem dX2_tally_3 : decode cX2_tally 3 = .ok (.iload_n 2, 1) := by decide +kernel
theorem dX2_tally_4 : decode cX2_tally 4 = .ok (.istore 5, 2) := by decide +kernel
theorem dX2_tally_6 : decode cX2_tally 6 = .ok (.iload 5, 2) := by decide +kernel
theorem dX2_tally_8 : decode cX2_tally 8 = .ok (.iload_n 3, 1) := by decide +kernel
theorem dX2_tally_9 : decode cX2_tally 9 = .ok (.if_icmp .ge 22, 3) := by decide +kernel
theorem dX2_tally_12 : decode cX2_tally 12 = .ok (.aload_n 0, 1) := by decide +kernel
theorem dX2_tally_13 : decode cX2_tally 13 = .ok (.iload 5, 2) := by decide +kernel
theorem dX2_tally_15 : decode cX2_tally 15 = .ok (.invokevirtual 59, 3) := by decide +kernel
theorem dX2_tally_18 : decode cX2_tally 18 = .ok (.iload_n 1, 1) := by decide +kernel
theorem dX2_tally_19 : decode cX2_tally 19 = .ok (.if_icmp .ne 6, 3) := by decide +kernel
theorem dX2_tally_22 : decode cX2_tally 22 = .ok (.iinc 4 1, 3) := by decide +kernel
theorem dX2_tally_25 : decode cX2_tally 25 = .ok (.iinc 5 1, 3) := by decide +kernel
theorem dX2_tally_28 : decode cX2_tally 28 = .ok (.goto (-22), 3) := by decide +kernel
theorem dX2_tally_31 : decode cX2_tally 31 = .ok (.iload 4, 2) := by decide +kernel
theorem dX2_tally_33 : decode cX2_tally 33 = .ok (.ireturn, 1) := by decide +kernel
theorem dX2_hasCondition_0 : decode cX2_hasCondition 0 = .ok (.aload_n 0, 1) := by decide +kernel
theorem dX2_hasCondition_1 : decode cX2_hasCondition 1 = .ok (.iload_n 1, 1) := by decide +kernel
theorem dX2_hasCondition_2 : decode cX2_hasCondition 2 = .ok (.invokevirtual 52, 3) := by decide +kernel
theorem dX2_hasCondition_5 : decode cX2_hasCondition 5 = .ok (.aload_n 0, 1) := by decide +kernel
theorem dX2_hasCondition_6 : decode cX2_hasCondition 6 = .ok (.iload_n 1, 1) := by decide +kernel
theorem dX2_hasCondition_7 : decode cX2_hasCondition 7 = .ok (.invokevirtual 56, 3) := by decide +kernel
theorem dX2_hasCondition_10 : decode cX2_hasCondition 10 = .ok (.if_icmp .ge 20, 3) := by decide +kernel
theorem dX2_hasCondition_13 : decode cX2_hasCondition 13 = .ok (.aload_n 0, 1) := by decide +kernel
theorem dX2_hasCondition_14 : decode cX2_hasCondition 14 = .ok (.aload_n 0, 1) := by decide +kernel
theorem dX2_hasCondition_15 : decode cX2_hasCondition 15 = .ok (.iload_n 1, 1) := by decide +kernel
theorem dX2_hasCondition_16 : decode cX2_hasCondition 16 = .ok (.invokevirtual 52, 3) := by decide +kernel
theorem dX2_hasCondition_19 : decode cX2_hasCondition 19 = .ok (.invokevirtual 59, 3) := by decide +kernel
theorem dX2_hasCondition_22 : decode cX2_hasCondition 22 = .ok (.iconst 2, 1) := by decide +kernel
theorem dX2_hasCondition_23 : decode cX2_hasCondition 23 = .ok (.if_icmp .ne 7, 3) := by decide +kernel
theorem dX2_hasCondition_26 : decode cX2_hasCondition 26 = .ok (.iconst 1, 1) := by decide +kernel
theorem dX2_hasCondition_27 : decode cX2_hasCondition 27 = .ok (.goto 4, 3) := by decide +kernel
theorem dX2_hasCondition_30 : decode cX2_hasCondition 30 = .ok (.iconst 0, 1) := by decide +kernel
theorem dX2_hasCondition_31 : decode cX2_hasCondition 31 = .ok (.ireturn, 1) := by decide +kernel
theorem dX2_rowFrom_0 : decode cX2_rowFrom 0 = .ok (.iconst 0, 1) := by decide +kernel
theorem dX2_rowFrom_1 : decode cX2_rowFrom 1 = .ok (.istore 4, 2) := by decide +kernel
theorem dX2_rowFrom_3 : decode cX2_rowFrom 3 = .ok (.iload_n 2, 1) := by decide +kernel
theorem dX2_rowFrom_4 : decode cX2_rowFrom 4 = .ok (.iload 4, 2) := by decide +kernel
theorem dX2_rowFrom_6 : decode cX2_rowFrom 6 = .ok (.iadd, 1) := by decide +kernel
theorem dX2_rowFrom_7 : decode cX2_rowFrom 7 = .ok (.iload_n 3, 1) := by decide +kernel
theorem dX2_rowFrom_8 : decode cX2_rowFrom 8 = .ok (.if_icmp .ge 21, 3) := by decide +kernel
theorem dX2_rowFrom_11 : decode cX2_rowFrom 11 = .ok (.aload_n 0, 1) := by decide +kernel
theorem dX2_rowFrom_12 : decode cX2_rowFrom 12 = .ok (.iload_n 2, 1) := by decide +kernel
theorem dX2_rowFrom_13 : decode cX2_rowFrom 13 = .ok (.iload 4, 2) := by decide +kernel
theorem dX2_rowFrom_15 : decode cX2_rowFrom 15 = .ok (.iadd, 1) := by decide +kernel
theorem dX2_rowFrom_16 : decode cX2_rowFrom 16 = .ok (.invokevirtual 59, 3) := by decide +kernel
theorem dX2_rowFrom_19 : decode cX2_rowFrom 19 = .ok (.iload_n 1, 1) := by decide +kernel
theorem dX2_rowFrom_20 : decode cX2_rowFrom 20 = .ok (.if_icmp .ne 9, 3) := by decide +kernel
theorem dX2_rowFrom_23 : decode cX2_rowFrom 23 = .ok (.iinc 4 1, 3) := by decide +kernel
theorem dX2_rowFrom_26 : decode cX2_rowFrom 26 = .ok (.goto (-23), 3) := by decide +kernel
theorem dX2_rowFrom_29 : decode cX2_rowFrom 29 = .ok (.iload 4, 2) := by decide +kernel
theorem dX2_rowFrom_31 : decode cX2_rowFrom 31 = .ok (.ireturn, 1) := by decide +kernel
theorem dX3_init_0 : decode cX3_init 0 = .ok (.aload_n 0, 1) := by decide +kernel
theorem dX3_init_1 : decode cX3_init 1 = .ok (.invokespecial 3, 3) := by decide +kernel
theorem dX3_init_4 : decode cX3_init 4 = .ok (.return_, 1) := by decide +kernel
theorem dX3_put_0 : decode cX3_put 0 = .ok (.aload_n 0, 1) := by decide +kernel
theorem dX3_put_1 : decode cX3_put 1 = .ok (.aload_n 2, 1) := by decide +kernel
theorem dX3_put_2 : decode cX3_put 2 = .ok (.iload_n 3, 1) := by decide +kernel
theorem dX3_put_3 : decode cX3_put 3 = .ok (.invokevirtual 9, 3) := by decide +kernel
theorem dX3_put_6 : decode cX3_put 6 = .ok (.aload_n 2, 1) := by decide +kernel
theorem dX3_put_7 : decode cX3_put 7 = .ok (.iconst 4, 1) := by decide +kernel
theorem dX3_put_8 : decode cX3_put 8 = .ok (.aload_n 2, 1) := by decide +kernel
theorem dX3_put_9 : decode cX3_put 9 = .ok (.iload_n 3, 1) := by decide +kernel
theorem dX3_put_10 : decode cX3_put 10 = .ok (.invokevirtual 15, 3) := by decide +kernel
theorem dX3_put_13 : decode cX3_put 13 = .ok (.aload_n 0, 1) := by decide +kernel
theorem dX3_put_14 : decode cX3_put 14 = .ok (.getfield 21, 3) := by decide +kernel
theorem dX3_put_17 : decode cX3_put 17 = .ok (.invokevirtual 25, 3) := by decide +kernel
theorem dX3_put_20 : decode cX3_put 20 = .ok (.iconst (-1), 1) := by decide +kernel
theorem dX3_put_21 : decode cX3_put 21 = .ok (.if_icmp .eq 7, 3) := by decide +kernel
theorem dX3_put_24 : decode cX3_put 24 = .ok (.iconst 1, 1) := by decide +kernel
theorem dX3_put_25 : decode cX3_put 25 = .ok (.goto 4, 3) := by decide +kernel
theorem dX3_put_28 : decode cX3_put 28 = .ok (.iconst 0, 1) := by decide +kernel
theorem dX3_put_29 : decode cX3_put 29 = .ok (.istore 7, 2) := by decide +kernel
theorem dX3_put_31 : decode cX3_put 31 = .ok (.aload_n 0, 1) := by decide +kernel
theorem dX3_put_32 : decode cX3_put 32 = .ok (.aload_n 2, 1) := by decide +kernel
theorem dX3_put_33 : decode cX3_put 33 = .ok (.iload_n 3, 1) := by decide +kernel
theorem dX3_put_34 : decode cX3_put 34 = .ok (.dload 4, 2) := by decide +kernel
theorem dX3_put_36 : decode cX3_put 36 = .ok (.invokevirtual 29, 3) := by decide +kernel
theorem dX3_put_39 : decode cX3_put 39 = .ok (.aload_n 0, 1) := by decide +kernel
theorem dX3_put_40 : decode cX3_put 40 = .ok (.iload 7, 2) := by decide +kernel
theorem dX3_put_42 : decode cX3_put 42 = .ok (.invokevirtual 33, 3) := by decide +kernel
theorem dX3_put_45 : decode cX3_put 45 = .ok (.iload 6, 2) := by decide +kernel
theorem dX3_put_47 : decode cX3_put 47 = .ok (.ifCond .eq 27, 3) := by decide +kernel
theorem dX3_put_50 : decode cX3_put 50 = .ok (.aload_n 0, 1) := by decide +kernel
theorem dX3_put_51 : decode cX3_put 51 = .ok (.getfield 37, 3) := by decide +kernel
theorem dX3_put_54 : decode cX3_put 54 = .ok (.lconst 0, 1) := by decide +kernel
theorem dX3_put_55 : decode cX3_put 55 = .ok (.lcmp, 1) := by decide +kernel
theorem dX3_put_56 : decode cX3_put 56 = .ok (.ifCond .gt 12, 3) := by decide +kernel
theorem dX3_put_59 : decode cX3_put 59 = .ok (.aload_n 0, 1) := by decide +kernel
theorem dX3_put_60 : decode cX3_put 60 = .ok (.getfield 41, 3) := by decide +kernel
theorem dX3_put_63 : decode cX3_put 63 = .ok (.lconst 0, 1) := by decide +kernel
theorem dX3_put_64 : decode cX3_put 64 = .ok (.lcmp, 1) := by decide +kernel
theorem dX3_put_65 : decode cX3_put 65 = .ok (.ifCond .le 9, 3) := by decide +kernel
theorem dX3_put_68 : decode cX3_put 68 = .ok (.aload_n 1, 1) := by decide +kernel
theorem dX3_put_69 : decode cX3_put 69 = .ok (.bipush 45, 2) := by decide +kernel
theorem dX3_put_71 : decode cX3_put 71 = .ok (.invokevirtual 44, 3) := by decide +kernel
theorem dX3_put_74 : decode cX3_put 74 = .ok (.aload_n 0, 1) := by decide +kernel
theorem dX3_put_75 : decode cX3_put 75 = .ok (.iload 7, 2) := by decide +kernel
theorem dX3_put_77 : decode cX3_put 77 = .ok (.ifCond .eq 16, 3) := by decide +kernel
theorem dX3_put_80 : decode cX3_put 80 = .ok (.aload_n 0, 1) := by decide +kernel
theorem dX3_put_81 : decode cX3_put 81 = .ok (.getfield 41, 3) := by decide +kernel
theorem dX3_put_84 : decode cX3_put 84 = .ok (.lconst 0, 1) := by decide +kernel
theorem dX3_put_85 : decode cX3_put 85 = .ok (.lcmp, 1) := by decide +kernel
theorem dX3_put_86 : decode cX3_put 86 = .ok (.ifCond .ne 7, 3) := by decide +kernel
theorem dX3_put_89 : decode cX3_put 89 = .ok (.iconst 1, 1) := by decide +kernel
theorem dX3_put_90 : decode cX3_put 90 = .ok (.goto 4, 3) := by decide +kernel
theorem dX3_put_93 : decode cX3_put 93 = .ok (.iconst 0, 1) := by decide +kernel
theorem dX3_put_94 : decode cX3_put 94 = .ok (.putfield 50, 3) := by decide +kernel
theorem dX3_put_97 : decode cX3_put 97 = .ok (.aload_n 1, 1) := by decide +kernel
theorem dX3_put_98 : decode cX3_put 98 = .ok (.invokevirtual 54, 3) := by decide +kernel
theorem dX3_put_101 : decode cX3_put 101 = .ok (.aload_n 0, 1) := by decide +kernel
theorem dX3_put_102 : decode cX3_put 102 = .ok (.getfield 37, 3) := by decide +kernel
theorem dX3_put_105 : decode cX3_put 105 = .ok (.invokevirtual 58, 3) := by decide +kernel
theorem dX3_put_108 : decode cX3_put 108 = .ok (.aload_n 1, 1) := by decide +kernel
theorem dX3_put_109 : decode cX3_put 109 = .ok (.aload_n 2, 1) := by decide +kernel
theorem dX3_put_110 : decode cX3_put 110 = .ok (.aload_n 2, 1) := by decide +kernel
theorem dX3_put_111 : decode cX3_put 111 = .ok (.iload_n 3, 1) := by decide +kernel
theorem dX3_put_112 : decode cX3_put 112 = .ok (.invokevirtual 15, 3) := by decide +kernel
theorem dX3_put_115 : decode cX3_put 115 = .ok (.aload_n 0, 1) := by decide +kernel
theorem dX3_put_116 : decode cX3_put 116 = .ok (.getfield 21, 3) := by decide +kernel
theorem dX3_put_119 : decode cX3_put 119 = .ok (.iconst 0, 1) := by decide +kernel
theorem dX3_put_120 : decode cX3_put 120 = .ok (.invokevirtual 64, 3) := by decide +kernel
theorem dX3_put_123 : decode cX3_put 123 = .ok (.aload_n 2, 1) := by decide +kernel
theorem dX3_put_124 : decode cX3_put 124 = .ok (.iload_n 3, 1) := by decide +kernel
theorem dX3_put_125 : decode cX3_put 125 = .ok (.invokevirtual 15, 3) := by decide +kernel
theorem dX3_put_128 : decode cX3_put 128 = .ok (.istore 8, 2) := by decide +kernel
theorem dX3_put_130 : decode cX3_put 130 = .ok (.iload 8, 2) := by decide +kernel
theorem dX3_put_132 : decode cX3_put 132 = .ok (.aload_n 2, 1) := by decide +kernel
theorem dX3_put_133 : decode cX3_put 133 = .ok (.iload_n 3, 1) := by decide +kernel
theorem dX3_put_134 : decode cX3_put 134 = .ok (.invokevirtual 68, 3) := by decide +kernel
theorem dX3_put_137 : decode cX3_put 137 = .ok (.if_icmp .ge 17, 3) := by decide +kernel
theorem dX3_put_140 : decode cX3_put 140 = .ok (.aload_n 0, 1) := by decide +kernel
theorem dX3_put_141 : decode cX3_put 141 = .ok (.aload_n 1, 1) := by decide +kernel
theorem dX3_put_142 : decode cX3_put 142 = .ok (.aload_n 2, 1) := by decide +kernel
theorem dX3_put_143 : decode cX3_put 143 = .ok (.iload 8, 2) := by decide +kernel
theorem dX3_put_145 : decode cX3_put 145 = .ok (.invokevirtual 71, 3) := by decide +kernel
theorem dX3_put_148 : decode cX3_put 148 = .ok (.iinc 8 1, 3) := by decide +kernel
theorem dX3_put_151 : decode cX3_put 151 = .ok (.goto (-21), 3) := by decide +kernel
theorem dX3_put_154 : decode cX3_put 154 = .ok (.return_, 1) := by decide +kernel
theorem dX3_survey_0 : decode cX3_survey 0 = .ok (.aload_n 0, 1) := by decide +kernel
theorem dX3_survey_1 : decode cX3_survey 1 = .ok (.aload_n 1, 1) := by decide +kernel
theorem dX3_survey_2 : decode cX3_survey 2 = .ok (.iload_n 2, 1) := by decide +kernel
theorem dX3_survey_3 : decode cX3_survey 3 = .ok (.bipush 8, 2) := by decide +kernel
theorem dX3_survey_5 : decode cX3_survey 5 = .ok (.invokevirtual 75, 3) := by decide +kernel
theorem dX3_survey_8 : decode cX3_survey 8 = .ok (.putfield 79, 3) := by decide +kernel
theorem dX3_survey_11 : decode cX3_survey 11 = .ok (.aload_n 0, 1) := by decide +kernel
theorem dX3_survey_12 : decode cX3_survey 12 = .ok (.aload_n 0, 1) := by decide +kernel
theorem dX3_survey_13 : decode cX3_survey 13 = .ok (.getfield 79, 3) := by decide +kernel
theorem dX3_survey_16 : decode cX3_survey 16 = .ok (.putfield 21, 3) := by decide +kernel
theorem dX3_survey_19 : decode cX3_survey 19 = .ok (.aload_n 0, 1) := by decide +kernel
theorem dX3_survey_20 : decode cX3_survey 20 = .ok (.getfield 21, 3) := by decide +kernel
theorem dX3_survey_23 : decode cX3_survey 23 = .ok (.aload_n 1, 1) := by decide +kernel
theorem dX3_survey_24 : decode cX3_survey 24 = .ok (.iload_n 2, 1) := by decide +kernel
theorem dX3_survey_25 : decode cX3_survey 25 = .ok (.invokevirtual 15, 3) := by decide +kernel
theorem dX3_survey_28 : decode cX3_survey 28 = .ok (.if_icmp .le 30, 3) := by decide +kernel
theorem dX3_survey_31 : decode cX3_survey 31 = .ok (.aload_n 1, 1) := by decide +kernel
theorem dX3_survey_32 : decode cX3_survey 32 = .ok (.aload_n 0, 1) := by decide +kernel
theorem dX3_survey_33 : decode cX3_survey 33 = .ok (.getfield 21, 3) := by decide +kernel
theorem dX3_survey_36 : decode cX3_survey 36 = .ok (.iconst 1, 1) := by decide +kernel
theorem dX3_survey_37 : decode cX3_survey 37 = .ok (.isub, 1) := by decide +kernel
theorem dX3_survey_38 : decode cX3_survey 38 = .ok (.invokevirtual 82, 3) := by decide +kernel
theorem dX3_survey_41 : decode cX3_survey 41 = .ok (.iconst 4, 1) := by decide +kernel
theorem dX3_survey_42 : decode cX3_survey 42 = .ok (.if_icmp .ne 16, 3) := by decide +kernel
theorem dX3_survey_45 : decode cX3_survey 45 = .ok (.aload_n 0, 1) := by decide +kernel
theorem dX3_survey_46 : decode cX3_survey 46 = .ok (.dup, 1) := by decide +kernel
theorem dX3_survey_47 : decode cX3_survey 47 = .ok (.getfield 21, 3) := by decide +kernel
theorem dX3_survey_50 : decode cX3_survey 50 = .ok (.iconst 1, 1) := by decide +kernel
theorem dX3_survey_51 : decode cX3_survey 51 = .ok (.isub, 1) := by decide +kernel
theorem dX3_survey_52 : decode cX3_survey 52 = .ok (.putfield 21, 3) := by decide +kernel
theorem dX3_survey_55 : decode cX3_survey 55 = .ok (.goto (-36), 3) := by decide +kernel
theorem dX3_survey_58 : decode cX3_survey 58 = .ok (.return_, 1) := by decide +kernel
theorem dX3_seek_0 : decode cX3_seek 0 = .ok (.aload_n 0, 1) := by decide +kernel
theorem dX3_seek_1 : decode cX3_seek 1 = .ok (.dload_n 3, 1) := by decide +kernel
theorem dX3_seek_2 : decode cX3_seek 2 = .ok (.d2l, 1) := by decide +kernel
theorem dX3_seek_3 : decode cX3_seek 3 = .ok (.putfield 37, 3) := by decide +kernel
theorem dX3_seek_6 : decode cX3_seek 6 = .ok (.dload_n 3, 1) := by decide +kernel
theorem dX3_seek_7 : decode cX3_seek 7 = .ok (.aload_n 0, 1) := by decide +kernel
theorem dX3_seek_8 : decode cX3_seek 8 = .ok (.getfield 37, 3) := by decide +kernel
theorem dX3_seek_11 : decode cX3_seek 11 = .ok (.l2d, 1) := by decide +kernel
theorem dX3_seek_12 : decode cX3_seek 12 = .ok (.dsub, 1) := by decide +kernel
theorem dX3_seek_13 : decode cX3_seek 13 = .ok (.dstore 5, 2) := by decide +kernel
theorem dX3_seek_15 : decode cX3_seek 15 = .ok (.aload_n 1, 1) := by decide +kernel
theorem dX3_seek_16 : decode cX3_seek 16 = .ok (.aload_n 0, 1) := by decide +kernel
theorem dX3_seek_17 : decode cX3_seek 17 = .ok (.getfield 79, 3) := by decide +kernel
theorem dX3_seek_20 : decode cX3_seek 20 = .ok (.iconst 1, 1) := by decide +kernel
theorem dX3_seek_21 : decode cX3_seek 21 = .ok (.iadd, 1) := by decide +kernel
theorem dX3_seek_22 : decode cX3_seek 22 = .ok (.invokevirtual 82, 3) := by decide +kernel
theorem dX3_seek_25 : decode cX3_seek 25 = .ok (.bipush 14, 2) := by decide +kernel
theorem dX3_seek_27 : decode cX3_seek 27 = .ok (.if_icmp .ne 30, 3) := by decide +kernel
theorem dX3_seek_30 : decode cX3_seek 30 = .ok (.aload_n 0, 1) := by decide +kernel
theorem dX3_seek_31 : decode cX3_seek 31 = .ok (.dload 5, 2) := by decide +kernel
theorem dX3_seek_33 : decode cX3_seek 33 = .ok (.aload_n 1, 1) := by decide +kernel
theorem dX3_seek_34 : decode cX3_seek 34 = .ok (.aload_n 0, 1) := by decide +kernel
theorem dX3_seek_35 : decode cX3_seek 35 = .ok (.getfield 79, 3) := by decide +kernel
theorem dX3_seek_38 : decode cX3_seek 38 = .ok (.iconst 1, 1) := by decide +kernel
theorem dX3_seek_39 : decode cX3_seek 39 = .ok (.iadd, 1) := by decide +kernel
theorem dX3_seek_40 : decode cX3_seek 40 = .ok (.invokevirtual 85, 3) := by decide +kernel
theorem dX3_seek_43 : decode cX3_seek 43 = .ok (.aload_n 1, 1) := by decide +kernel
theorem dX3_seek_44 : decode cX3_seek 44 = .ok (.aload_n 0, 1) := by decide +kernel
theorem dX3_seek_45 : decode cX3_seek 45 = .ok (.getfield 79, 3) := by decide +kernel
theorem dX3_seek_48 : decode cX3_seek 48 = .ok (.iconst 1, 1) := by decide +kernel
theorem dX3_seek_49 : decode cX3_seek 49 = .ok (.iadd, 1) := by decide +kernel
theorem dX3_seek_50 : decode cX3_seek 50 = .ok (.invokevirtual 85, 3) := by decide +kernel
theorem dX3_seek_53 : decode cX3_seek 53 = .ok (.invokevirtual 88, 3) := by decide +kernel
theorem dX3_seek_56 : decode cX3_seek 56 = .ok (.return_, 1) := by decide +kernel
theorem dX3_seek_57 : decode cX3_seek 57 = .ok (.aload_n 1, 1) := by decide +kernel
theorem dX3_seek_58 : decode cX3_seek 58 = .ok (.iconst 4, 1) := by decide +kernel
theorem dX3_seek_59 : decode cX3_seek 59 = .ok (.aload_n 0, 1) := by decide +kernel
theorem dX3_seek_60 : decode cX3_seek 60 = .ok (.getfield 79, 3) := by decide +kernel
theorem dX3_seek_63 : decode cX3_seek 63 = .ok (.iconst 1, 1) := by decide +kernel
theorem dX3_seek_64 : decode cX3_seek 64 = .ok (.iadd, 1) := by decide +kernel
theorem dX3_seek_65 : decode cX3_seek 65 = .ok (.aload_n 1, 1) := by decide +kernel
theorem dX3_seek_66 : decode cX3_seek 66 = .ok (.iload_n 2, 1) := by decide +kernel
theorem dX3_seek_67 : decode cX3_seek 67 = .ok (.invokevirtual 68, 3) := by decide +kernel
theorem dX3_seek_70 : decode cX3_seek 70 = .ok (.invokevirtual 92, 3) := by decide +kernel
theorem dX3_seek_73 : decode cX3_seek 73 = .ok (.istore 7, 2) := by decide +kernel
theorem dX3_seek_75 : decode cX3_seek 75 = .ok (.aload_n 0, 1) := by decide +kernel
theorem dX3_seek_76 : decode cX3_seek 76 = .ok (.dload 5, 2) := by decide +kernel
theorem dX3_seek_78 : decode cX3_seek 78 = .ok (.iconst 1, 1) := by decide +kernel
theorem dX3_seek_79 : decode cX3_seek 79 = .ok (.iload 7, 2) := by decide +kernel
theorem dX3_seek_81 : decode cX3_seek 81 = .ok (.iconst 1, 1) := by decide +kernel
theorem dX3_seek_82 : decode cX3_seek 82 = .ok (.if_icmp .ne 8, 3) := by decide +kernel
theorem dX3_seek_85 : decode cX3_seek 85 = .ok (.bipush 9, 2) := by decide +kernel
theorem dX3_seek_87 : decode cX3_seek 87 = .ok (.goto 17, 3) := by decide +kernel
theorem dX3_seek_90 : decode cX3_seek 90 = .ok (.iload 7, 2) := by decide +kernel
theorem dX3_seek_92 : decode cX3_seek 92 = .ok (.iconst 2, 1) := by decide +kernel
theorem dX3_seek_93 : decode cX3_seek 93 = .ok (.if_icmp .ne 8, 3) := by decide +kernel
theorem dX3_seek_96 : decode cX3_seek 96 = .ok (.bipush 99, 2) := by decide +kernel
theorem dX3_seek_98 : decode cX3_seek 98 = .ok (.goto 6, 3) := by decide +kernel
theorem dX3_seek_101 : decode cX3_seek 101 = .ok (.sipush 999, 3) := by decide +kernel
theorem dX3_seek_104 : decode cX3_seek 104 = .ok (.invokevirtual 88, 3) := by decide +kernel
theorem dX3_seek_107 : decode cX3_seek 107 = .ok (.return_, 1) := by decide +kernel
theorem dX3_settle_0 : decode cX3_settle 0 = .ok (.iload_n 1, 1) := by decide +kernel
theorem dX3_settle_1 : decode cX3_settle 1 = .ok (.ifCond .ne 30, 3) := by decide +kernel
theorem dX3_settle_4 : decode cX3_settle 4 = .ok (.aload_n 0, 1) := by decide +kernel
theorem dX3_settle_5 : decode cX3_settle 5 = .ok (.dup, 1) := by decide +kernel
theorem dX3_settle_6 : decode cX3_settle 6 = .ok (.getfield 41, 3) := by decide +kernel
theorem dX3_settle_9 : decode cX3_settle 9 = .ok (.aload_n 0, 1) := by decide +kernel
theorem dX3_settle_10 : decode cX3_settle 10 = .ok (.getfield 37, 3) := by decide +kernel
theorem dX3_settle_13 : decode cX3_settle 13 = .ok (.aload_n 0, 1) := by decide +kernel
theorem dX3_settle_14 : decode cX3_settle 14 = .ok (.getfield 95, 3) := by decide +kernel
theorem dX3_settle_17 : decode cX3_settle 17 = .ok (.i2l, 1) := by decide +kernel
theorem dX3_settle_18 : decode cX3_settle 18 = .ok (.lmul, 1) := by decide +kernel
theorem dX3_settle_19 : decode cX3_settle 19 = .ok (.ladd, 1) := by decide +kernel
theorem dX3_settle_20 : decode cX3_settle 20 = .ok (.putfield 41, 3) := by decide +kernel
theorem dX3_settle_23 : decode cX3_settle 23 = .ok (.aload_n 0, 1) := by decide +kernel
theorem dX3_settle_24 : decode cX3_settle 24 = .ok (.lconst 0, 1) := by decide +kernel
theorem dX3_settle_25 : decode cX3_settle 25 = .ok (.putfield 37, 3) := by decide +kernel
theorem dX3_settle_28 : decode cX3_settle 28 = .ok (.goto 31, 3) := by decide +kernel
theorem dX3_settle_31 : decode cX3_settle 31 = .ok (.aload_n 0, 1) := by decide +kernel
theorem dX3_settle_32 : decode cX3_settle 32 = .ok (.getfield 41, 3) := by decide +kernel
theorem dX3_settle_35 : decode cX3_settle 35 = .ok (.aload_n 0, 1) := by decide +kernel
theorem dX3_settle_36 : decode cX3_settle 36 = .ok (.getfield 95, 3) := by decide +kernel
theorem dX3_settle_39 : decode cX3_settle 39 = .ok (.i2l, 1) := by decide +kernel
theorem dX3_settle_40 : decode cX3_settle 40 = .ok (.lcmp, 1) := by decide +kernel
theorem dX3_settle_41 : decode cX3_settle 41 = .ok (.ifCond .ne 18, 3) := by decide +kernel
theorem dX3_settle_44 : decode cX3_settle 44 = .ok (.aload_n 0, 1) := by decide +kernel
theorem dX3_settle_45 : decode cX3_settle 45 = .ok (.dup, 1) := by decide +kernel
theorem dX3_settle_46 : decode cX3_settle 46 = .ok (.getfield 37, 3) := by decide +kernel
theorem dX3_settle_49 : decode cX3_settle 49 = .ok (.lconst 1, 1) := by decide +kernel
theorem dX3_settle_50 : decode cX3_settle 50 = .ok (.ladd, 1) := by decide +kernel
theorem dX3_settle_51 : decode cX3_settle 51 = .ok (.putfield 37, 3) := by decide +kernel
theorem dX3_settle_54 : decode cX3_settle 54 = .ok (.aload_n 0, 1) := by decide +kernel
theorem dX3_settle_55 : decode cX3_settle 55 = .ok (.lconst 0, 1) := by decide +kernel
theorem dX3_settle_56 : decode cX3_settle 56 = .ok (.putfield 41, 3) := by decide +kernel
theorem dX3_settle_59 : decode cX3_settle 59 = .ok (.return_, 1) := by decide +kernel
theorem dX3_nearest_0 : decode cX3_nearest 0 = .ok (.aload_n 0, 1) := by decide +kernel
theorem dX3_nearest_1 : decode cX3_nearest 1 = .ok (.lconst 0, 1) := by decide +kernel
theorem dX3_nearest_2 : decode cX3_nearest 2 = .ok (.putfield 41, 3) := by decide +kernel
theorem dX3_nearest_5 : decode cX3_nearest 5 = .ok (.aload_n 0, 1) := by decide +kernel
theorem dX3_nearest_6 : decode cX3_nearest 6 = .ok (.iload_n 3, 1) := by decide +kernel
theorem dX3_nearest_7 : decode cX3_nearest 7 = .ok (.putfield 95, 3) := by decide +kernel
theorem dX3_nearest_10 : decode cX3_nearest 10 = .ok (.dload_n 1, 1) := by decide +kernel
theorem dX3_nearest_11 : decode cX3_nearest 11 = .ok (.ldc2_w 98, 3) := by decide +kernel
theorem dX3_nearest_14 : decode cX3_nearest 14 = .ok (.dcmp .g, 1) := by decide +kernel
theorem dX3_nearest_15 : decode cX3_nearest 15 = .ok (.ifCond .ge 4, 3) := by decide +kernel
theorem dX3_nearest_18 : decode cX3_nearest 18 = .ok (.return_, 1) := by decide +kernel
theorem dX3_nearest_19 : decode cX3_nearest 19 = .ok (.dload_n 1, 1) := by decide +kernel
theorem dX3_nearest_20 : decode cX3_nearest 20 = .ok (.ldc2_w 100, 3) := by decide +kernel
theorem dX3_nearest_23 : decode cX3_nearest 23 = .ok (.dmul, 1) := by decide +kernel
theorem dX3_nearest_24 : decode cX3_nearest 24 = .ok (.d2l, 1) := by decide +kernel
theorem dX3_nearest_25 : decode cX3_nearest 25 = .ok (.lstore 5, 2) := by decide +kernel
theorem dX3_nearest_27 : decode cX3_nearest 27 = .ok (.ldc2_w 102, 3) := by decide +kernel
theorem dX3_nearest_30 : decode cX3_nearest 30 = .ok (.lstore 7, 2) := by decide +kernel
theorem dX3_nearest_32 : decode cX3_nearest 32 = .ok (.iload_n 3, 1) := by decide +kernel
theorem dX3_nearest_33 : decode cX3_nearest 33 = .ok (.istore 9, 2) := by decide +kernel
theorem dX3_nearest_35 : decode cX3_nearest 35 = .ok (.iload 9, 2) := by decide +kernel
theorem dX3_nearest_37 : decode cX3_nearest 37 = .ok (.iload 4, 2) := by decide +kernel
theorem dX3_nearest_39 : decode cX3_nearest 39 = .ok (.if_icmp .gt 112, 3) := by decide +kernel
theorem dX3_nearest_42 : decode cX3_nearest 42 = .ok (.lload 5, 2) := by decide +kernel
theorem dX3_nearest_44 : decode cX3_nearest 44 = .ok (.bipush 32, 2) := by decide +kernel
