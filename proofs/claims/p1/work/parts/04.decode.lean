theorem dX0_init_0 : decode cX0_init 0 = .ok (.aload_n 0, 1) := by decide +kernel
theorem dX0_init_1 : decode cX0_init 1 = .ok (.invokespecial 3, 3) := by decide +kernel
theorem dX0_init_4 : decode cX0_init 4 = .ok (.return_, 1) := by decide +kernel
theorem dX1_init_0 : decode cX1_init 0 = .ok (.aload_n 0, 1) := by decide +kernel
theorem dX1_init_1 : decode cX1_init 1 = .ok (.invokespecial 1, 3) := by decide +kernel
theorem dX1_init_4 : decode cX1_init 4 = .ok (.aload_n 0, 1) := by decide +kernel
theorem dX1_init_5 : decode cX1_init 5 = .ok (.bipush 100, 2) := by decide +kernel
theorem dX1_init_7 : decode cX1_init 7 = .ok (.newarray .long, 2) := by decide +kernel
theorem dX1_init_9 : decode cX1_init 9 = .ok (.putfield 7, 3) := by decide +kernel
theorem dX1_init_12 : decode cX1_init 12 = .ok (.aload_n 0, 1) := by decide +kernel
theorem dX1_init_13 : decode cX1_init 13 = .ok (.sipush 910, 3) := by decide +kernel
theorem dX1_init_16 : decode cX1_init 16 = .ok (.newarray .int, 2) := by decide +kernel
theorem dX1_init_18 : decode cX1_init 18 = .ok (.putfield 13, 3) := by decide +kernel
theorem dX1_init_21 : decode cX1_init 21 = .ok (.return_, 1) := by decide +kernel
theorem dX2_init_0 : decode cX2_init 0 = .ok (.aload_n 0, 1) := by decide +kernel
theorem dX2_init_1 : decode cX2_init 1 = .ok (.invokespecial 3, 3) := by decide +kernel
theorem dX2_init_4 : decode cX2_init 4 = .ok (.aload_n 0, 1) := by decide +kernel
theorem dX2_init_5 : decode cX2_init 5 = .ok (.sipush 255, 3) := by decide +kernel
theorem dX2_init_8 : decode cX2_init 8 = .ok (.newarray .int, 2) := by decide +kernel
theorem dX2_init_10 : decode cX2_init 10 = .ok (.putfield 9, 3) := by decide +kernel
theorem dX2_init_13 : decode cX2_init 13 = .ok (.aload_n 0, 1) := by decide +kernel
theorem dX2_init_14 : decode cX2_init 14 = .ok (.sipush 255, 3) := by decide +kernel
theorem dX2_init_17 : decode cX2_init 17 = .ok (.newarray .int, 2) := by decide +kernel
theorem dX2_init_19 : decode cX2_init 19 = .ok (.putfield 15, 3) := by decide +kernel
theorem dX2_init_22 : decode cX2_init 22 = .ok (.aload_n 0, 1) := by decide +kernel
theorem dX2_init_23 : decode cX2_init 23 = .ok (.sipush 255, 3) := by decide +kernel
theorem dX2_init_26 : decode cX2_init 26 = .ok (.newarray .int, 2) := by decide +kernel
theorem dX2_init_28 : decode cX2_init 28 = .ok (.putfield 18, 3) := by decide +kernel
theorem dX2_init_31 : decode cX2_init 31 = .ok (.aload_n 0, 1) := by decide +kernel
theorem dX2_init_32 : decode cX2_init 32 = .ok (.sipush 255, 3) := by decide +kernel
theorem dX2_init_35 : decode cX2_init 35 = .ok (.newarray .int, 2) := by decide +kernel
theorem dX2_init_37 : decode cX2_init 37 = .ok (.putfield 21, 3) := by decide +kernel
theorem dX2_init_40 : decode cX2_init 40 = .ok (.aload_n 0, 1) := by decide +kernel
theorem dX2_init_41 : decode cX2_init 41 = .ok (.sipush 255, 3) := by decide +kernel
theorem dX2_init_44 : decode cX2_init 44 = .ok (.newarray .double, 2) := by decide +kernel
theorem dX2_init_46 : decode cX2_init 46 = .ok (.putfield 24, 3) := by decide +kernel
theorem dX2_init_49 : decode cX2_init 49 = .ok (.aload_n 0, 1) := by decide +kernel
theorem dX2_init_50 : decode cX2_init 50 = .ok (.iconst 4, 1) := by decide +kernel
theorem dX2_init_51 : decode cX2_init 51 = .ok (.newarray .int, 2) := by decide +kernel
theorem dX2_init_53 : decode cX2_init 53 = .ok (.putfield 28, 3) := by decide +kernel
theorem dX2_init_56 : decode cX2_init 56 = .ok (.aload_n 0, 1) := by decide +kernel
theorem dX2_init_57 : decode cX2_init 57 = .ok (.iconst 4, 1) := by decide +kernel
theorem dX2_init_58 : decode cX2_init 58 = .ok (.newarray .int, 2) := by decide +kernel
theorem dX2_init_60 : decode cX2_init 60 = .ok (.putfield 31, 3) := by decide +kernel
theorem dX2_init_63 : decode cX2_init 63 = .ok (.return_, 1) := by decide +kernel
theorem dX2_clear_0 : decode cX2_clear 0 = .ok (.aload_n 0, 1) := by decide +kernel
theorem dX2_clear_1 : decode cX2_clear 1 = .ok (.iconst 0, 1) := by decide +kernel
theorem dX2_clear_2 : decode cX2_clear 2 = .ok (.putfield 34, 3) := by decide +kernel
theorem dX2_clear_5 : decode cX2_clear 5 = .ok (.aload_n 0, 1) := by decide +kernel
theorem dX2_clear_6 : decode cX2_clear 6 = .ok (.iconst 0, 1) := by decide +kernel
theorem dX2_clear_7 : decode cX2_clear 7 = .ok (.putfield 38, 3) := by decide +kernel
theorem dX2_clear_10 : decode cX2_clear 10 = .ok (.aload_n 0, 1) := by decide +kernel
theorem dX2_clear_11 : decode cX2_clear 11 = .ok (.iconst (-1), 1) := by decide +kernel
theorem dX2_clear_12 : decode cX2_clear 12 = .ok (.putfield 41, 3) := by decide +kernel
theorem dX2_clear_15 : decode cX2_clear 15 = .ok (.aload_n 0, 1) := by decide +kernel
theorem dX2_clear_16 : decode cX2_clear 16 = .ok (.iconst (-1), 1) := by decide +kernel
theorem dX2_clear_17 : decode cX2_clear 17 = .ok (.invokevirtual 44, 3) := by decide +kernel
theorem dX2_clear_20 : decode cX2_clear 20 = .ok (.return_, 1) := by decide +kernel
theorem dX2_divide_0 : decode cX2_divide 0 = .ok (.aload_n 0, 1) := by decide +kernel
theorem dX2_divide_1 : decode cX2_divide 1 = .ok (.getfield 38, 3) := by decide +kernel
theorem dX2_divide_4 : decode cX2_divide 4 = .ok (.aload_n 0, 1) := by decide +kernel
theorem dX2_divide_5 : decode cX2_divide 5 = .ok (.getfield 28, 3) := by decide +kernel
theorem dX2_divide_8 : decode cX2_divide 8 = .ok (.arraylength, 1) := by decide +kernel
theorem dX2_divide_9 : decode cX2_divide 9 = .ok (.if_icmp .ge 29, 3) := by decide +kernel
theorem dX2_divide_12 : decode cX2_divide 12 = .ok (.aload_n 0, 1) := by decide +kernel
theorem dX2_divide_13 : decode cX2_divide 13 = .ok (.getfield 28, 3) := by decide +kernel
theorem dX2_divide_16 : decode cX2_divide 16 = .ok (.aload_n 0, 1) := by decide +kernel
theorem dX2_divide_17 : decode cX2_divide 17 = .ok (.getfield 38, 3) := by decide +kernel
theorem dX2_divide_20 : decode cX2_divide 20 = .ok (.aload_n 0, 1) := by decide +kernel
theorem dX2_divide_21 : decode cX2_divide 21 = .ok (.getfield 34, 3) := by decide +kernel
theorem dX2_divide_24 : decode cX2_divide 24 = .ok (.iastore, 1) := by decide +kernel
theorem dX2_divide_25 : decode cX2_divide 25 = .ok (.aload_n 0, 1) := by decide +kernel
theorem dX2_divide_26 : decode cX2_divide 26 = .ok (.dup, 1) := by decide +kernel
theorem dX2_divide_27 : decode cX2_divide 27 = .ok (.getfield 38, 3) := by decide +kernel
theorem dX2_divide_30 : decode cX2_divide 30 = .ok (.iconst 1, 1) := by decide +kernel
theorem dX2_divide_31 : decode cX2_divide 31 = .ok (.iadd, 1) := by decide +kernel
theorem dX2_divide_32 : decode cX2_divide 32 = .ok (.putfield 38, 3) := by decide +kernel
theorem dX2_divide_35 : decode cX2_divide 35 = .ok (.goto 16, 3) := by decide +kernel
theorem dX2_divide_38 : decode cX2_divide 38 = .ok (.aload_n 0, 1) := by decide +kernel
theorem dX2_divide_39 : decode cX2_divide 39 = .ok (.getfield 41, 3) := by decide +kernel
theorem dX2_divide_42 : decode cX2_divide 42 = .ok (.iconst (-1), 1) := by decide +kernel
theorem dX2_divide_43 : decode cX2_divide 43 = .ok (.if_icmp .ne 8, 3) := by decide +kernel
theorem dX2_divide_46 : decode cX2_divide 46 = .ok (.aload_n 0, 1) := by decide +kernel
theorem dX2_divide_47 : decode cX2_divide 47 = .ok (.iload_n 1, 1) := by decide +kernel
theorem dX2_divide_48 : decode cX2_divide 48 = .ok (.putfield 41, 3) := by decide +kernel
theorem dX2_divide_51 : decode cX2_divide 51 = .ok (.return_, 1) := by decide +kernel
theorem dX2_sections_0 : decode cX2_sections 0 = .ok (.aload_n 0, 1) := by decide +kernel
theorem dX2_sections_1 : decode cX2_sections 1 = .ok (.getfield 38, 3) := by decide +kernel
theorem dX2_sections_4 : decode cX2_sections 4 = .ok (.ireturn, 1) := by decide +kernel
theorem dX2_fifthPlace_0 : decode cX2_fifthPlace 0 = .ok (.aload_n 0, 1) := by decide +kernel
theorem dX2_fifthPlace_1 : decode cX2_fifthPlace 1 = .ok (.getfield 41, 3) := by decide +kernel
theorem dX2_fifthPlace_4 : decode cX2_fifthPlace 4 = .ok (.ireturn, 1) := by decide +kernel
theorem dX2_from_0 : decode cX2_from 0 = .ok (.iload_n 1, 1) := by decide +kernel
theorem dX2_from_1 : decode cX2_from 1 = .ok (.ifCond .lt 29, 3) := by decide +kernel
theorem dX2_from_4 : decode cX2_from 4 = .ok (.iload_n 1, 1) := by decide +kernel
theorem dX2_from_5 : decode cX2_from 5 = .ok (.aload_n 0, 1) := by decide +kernel
theorem dX2_from_6 : decode cX2_from 6 = .ok (.getfield 38, 3) := by decide +kernel
theorem dX2_from_9 : decode cX2_from 9 = .ok (.if_icmp .ge 21, 3) := by decide +kernel
theorem dX2_from_12 : decode cX2_from 12 = .ok (.iload_n 1, 1) := by decide +kernel
theorem dX2_from_13 : decode cX2_from 13 = .ok (.aload_n 0, 1) := by decide +kernel
theorem dX2_from_14 : decode cX2_from 14 = .ok (.getfield 28, 3) := by decide +kernel
theorem dX2_from_17 : decode cX2_from 17 = .ok (.arraylength, 1) := by decide +kernel
theorem dX2_from_18 : decode cX2_from 18 = .ok (.if_icmp .ge 12, 3) := by decide +kernel
theorem dX2_from_21 : decode cX2_from 21 = .ok (.aload_n 0, 1) := by decide +kernel
theorem dX2_from_22 : decode cX2_from 22 = .ok (.getfield 28, 3) := by decide +kernel
theorem dX2_from_25 : decode cX2_from 25 = .ok (.iload_n 1, 1) := by decide +kernel
theorem dX2_from_26 : decode cX2_from 26 = .ok (.iaload, 1) := by decide +kernel
theorem dX2_from_27 : decode cX2_from 27 = .ok (.goto 7, 3) := by decide +kernel
theorem dX2_from_30 : decode cX2_from 30 = .ok (.aload_n 0, 1) := by decide +kernel
theorem dX2_from_31 : decode cX2_from 31 = .ok (.getfield 34, 3) := by decide +kernel
theorem dX2_from_34 : decode cX2_from 34 = .ok (.ireturn, 1) := by decide +kernel
theorem dX2_to_0 : decode cX2_to 0 = .ok (.iload_n 1, 1) := by decide +kernel
theorem dX2_to_1 : decode cX2_to 1 = .ok (.iconst (-1), 1) := by decide +kernel
theorem dX2_to_2 : decode cX2_to 2 = .ok (.if_icmp .lt 35, 3) := by decide +kernel
theorem dX2_to_5 : decode cX2_to 5 = .ok (.iload_n 1, 1) := by decide +kernel
theorem dX2_to_6 : decode cX2_to 6 = .ok (.iconst 1, 1) := by decide +kernel
theorem dX2_to_7 : decode cX2_to 7 = .ok (.iadd, 1) := by decide +kernel
theorem dX2_to_8 : decode cX2_to 8 = .ok (.aload_n 0, 1) := by decide +kernel
theorem dX2_to_9 : decode cX2_to 9 = .ok (.getfield 38, 3) := by decide +kernel
theorem dX2_to_12 : decode cX2_to 12 = .ok (.if_icmp .ge 25, 3) := by decide +kernel
theorem dX2_to_15 : decode cX2_to 15 = .ok (.iload_n 1, 1) := by decide +kernel
theorem dX2_to_16 : decode cX2_to 16 = .ok (.iconst 1, 1) := by decide +kernel
theorem dX2_to_17 : decode cX2_to 17 = .ok (.iadd, 1) := by decide +kernel
theorem dX2_to_18 : decode cX2_to 18 = .ok (.aload_n 0, 1) := by decide +kernel
theorem dX2_to_19 : decode cX2_to 19 = .ok (.getfield 28, 3) := by decide +kernel
theorem dX2_to_22 : decode cX2_to 22 = .ok (.arraylength, 1) := by decide +kernel
theorem dX2_to_23 : decode cX2_to 23 = .ok (.if_icmp .ge 14, 3) := by decide +kernel
theorem dX2_to_26 : decode cX2_to 26 = .ok (.aload_n 0, 1) := by decide +kernel
theorem dX2_to_27 : decode cX2_to 27 = .ok (.getfield 28, 3) := by decide +kernel
theorem dX2_to_30 : decode cX2_to 30 = .ok (.iload_n 1, 1) := by decide +kernel
theorem dX2_to_31 : decode cX2_to 31 = .ok (.iconst 1, 1) := by decide +kernel
theorem dX2_to_32 : decode cX2_to 32 = .ok (.iadd, 1) := by decide +kernel
theorem dX2_to_33 : decode cX2_to 33 = .ok (.iaload, 1) := by decide +kernel
theorem dX2_to_34 : decode cX2_to 34 = .ok (.goto 7, 3) := by decide +kernel
theorem dX2_to_37 : decode cX2_to 37 = .ok (.aload_n 0, 1) := by decide +kernel
theorem dX2_to_38 : decode cX2_to 38 = .ok (.getfield 34, 3) := by decide +kernel
theorem dX2_to_41 : decode cX2_to 41 = .ok (.ireturn, 1) := by decide +kernel
theorem dX2_sort_0 : decode cX2_sort 0 = .ok (.iload_n 1, 1) := by decide +kernel
theorem dX2_sort_1 : decode cX2_sort 1 = .ok (.ifCond .lt 21, 3) := by decide +kernel
theorem dX2_sort_4 : decode cX2_sort 4 = .ok (.iload_n 1, 1) := by decide +kernel
theorem dX2_sort_5 : decode cX2_sort 5 = .ok (.aload_n 0, 1) := by decide +kernel
theorem dX2_sort_6 : decode cX2_sort 6 = .ok (.getfield 31, 3) := by decide +kernel
theorem dX2_sort_9 : decode cX2_sort 9 = .ok (.arraylength, 1) := by decide +kernel
theorem dX2_sort_10 : decode cX2_sort 10 = .ok (.if_icmp .ge 12, 3) := by decide +kernel
theorem dX2_sort_13 : decode cX2_sort 13 = .ok (.aload_n 0, 1) := by decide +kernel
theorem dX2_sort_14 : decode cX2_sort 14 = .ok (.getfield 31, 3) := by decide +kernel
theorem dX2_sort_17 : decode cX2_sort 17 = .ok (.iload_n 1, 1) := by decide +kernel
theorem dX2_sort_18 : decode cX2_sort 18 = .ok (.iaload, 1) := by decide +kernel
theorem dX2_sort_19 : decode cX2_sort 19 = .ok (.goto 4, 3) := by decide +kernel
theorem dX2_sort_22 : decode cX2_sort 22 = .ok (.iconst 0, 1) := by decide +kernel
theorem dX2_sort_23 : decode cX2_sort 23 = .ok (.ireturn, 1) := by decide +kernel
theorem dX2_setSort_0 : decode cX2_setSort 0 = .ok (.iload_n 1, 1) := by decide +kernel
theorem dX2_setSort_1 : decode cX2_setSort 1 = .ok (.ifCond .lt 19, 3) := by decide +kernel
theorem dX2_setSort_4 : decode cX2_setSort 4 = .ok (.iload_n 1, 1) := by decide +kernel
theorem dX2_setSort_5 : decode cX2_setSort 5 = .ok (.aload_n 0, 1) := by decide +kernel
theorem dX2_setSort_6 : decode cX2_setSort 6 = .ok (.getfield 31, 3) := by decide +kernel
theorem dX2_setSort_9 : decode cX2_setSort 9 = .ok (.arraylength, 1) := by decide +kernel
theorem dX2_setSort_10 : decode cX2_setSort 10 = .ok (.if_icmp .ge 10, 3) := by decide +kernel
theorem dX2_setSort_13 : decode cX2_setSort 13 = .ok (.aload_n 0, 1) := by decide +kernel
theorem dX2_setSort_14 : decode cX2_setSort 14 = .ok (.getfield 31, 3) := by decide +kernel
theorem dX2_setSort_17 : decode cX2_setSort 17 = .ok (.iload_n 1, 1) := by decide +kernel
theorem dX2_setSort_18 : decode cX2_setSort 18 = .ok (.iload_n 2, 1) := by decide +kernel
theorem dX2_setSort_19 : decode cX2_setSort 19 = .ok (.iastore, 1) := by decide +kernel
theorem dX2_setSort_20 : decode cX2_setSort 20 = .ok (.return_, 1) := by decide +kernel
theorem dX2_kind_0 : decode cX2_kind 0 = .ok (.iload_n 1, 1) := by decide +kernel
theorem dX2_kind_1 : decode cX2_kind 1 = .ok (.ifCond .lt 29, 3) := by decide +kernel
theorem dX2_kind_4 : decode cX2_kind 4 = .ok (.iload_n 1, 1) := by decide +kernel
theorem dX2_kind_5 : decode cX2_kind 5 = .ok (.aload_n 0, 1) := by decide +kernel
theorem dX2_kind_6 : decode cX2_kind 6 = .ok (.getfield 34, 3) := by decide +kernel
theorem dX2_kind_9 : decode cX2_kind 9 = .ok (.if_icmp .ge 21, 3) := by decide +kernel
theorem dX2_kind_12 : decode cX2_kind 12 = .ok (.iload_n 1, 1) := by decide +kernel
theorem dX2_kind_13 : decode cX2_kind 13 = .ok (.aload_n 0, 1) := by decide +kernel
theorem dX2_kind_14 : decode cX2_kind 14 = .ok (.getfield 9, 3) := by decide +kernel
theorem dX2_kind_17 : decode cX2_kind 17 = .ok (.arraylength, 1) := by decide +kernel
theorem dX2_kind_18 : decode cX2_kind 18 = .ok (.if_icmp .ge 12, 3) := by decide +kernel
theorem dX2_kind_21 : decode cX2_kind 21 = .ok (.aload_n 0, 1) := by decide +kernel
theorem dX2_kind_22 : decode cX2_kind 22 = .ok (.getfield 9, 3) := by decide +kernel
theorem dX2_kind_25 : decode cX2_kind 25 = .ok (.iload_n 1, 1) := by decide +kernel
theorem dX2_kind_26 : decode cX2_kind 26 = .ok (.iaload, 1) := by decide +kernel
theorem dX2_kind_27 : decode cX2_kind 27 = .ok (.goto 4, 3) := by decide +kernel
theorem dX2_kind_30 : decode cX2_kind 30 = .ok (.iconst (-1), 1) := by decide +kernel
theorem dX2_kind_31 : decode cX2_kind 31 = .ok (.ireturn, 1) := by decide +kernel
theorem dX2_find_0 : decode cX2_find 0 = .ok (.iload_n 2, 1) := by decide +kernel
theorem dX2_find_1 : decode cX2_find 1 = .ok (.istore 4, 2) := by decide +kernel
theorem dX2_find_3 : decode cX2_find 3 = .ok (.iload 4, 2) := by decide +kernel
theorem dX2_find_5 : decode cX2_find 5 = .ok (.iload_n 3, 1) := by decide +kernel
theorem dX2_find_6 : decode cX2_find 6 = .ok (.if_icmp .ge 22, 3) := by decide +kernel
theorem dX2_find_9 : decode cX2_find 9 = .ok (.aload_n 0, 1) := by decide +kernel
theorem dX2_find_10 : decode cX2_find 10 = .ok (.iload 4, 2) := by decide +kernel
theorem dX2_find_12 : decode cX2_find 12 = .ok (.invokevirtual 59, 3) := by decide +kernel
theorem dX2_find_15 : decode cX2_find 15 = .ok (.iload_n 1, 1) := by decide +kernel
theorem dX2_find_16 : decode cX2_find 16 = .ok (.if_icmp .ne 6, 3) := by decide +kernel
theorem dX2_find_19 : decode cX2_find 19 = .ok (.iload 4, 2) := by decide +kernel
theorem dX2_find_21 : decode cX2_find 21 = .ok (.ireturn, 1) := by decide +kernel
theorem dX2_find_22 : decode cX2_find 22 = .ok (.iinc 4 1, 3) := by decide +kernel
theorem dX2_find_25 : decode cX2_find 25 = .ok (.goto (-22), 3) := by decide +kernel
theorem dX2_find_28 : decode cX2_find 28 = .ok (.iconst (-1), 1) := by decide +kernel
theorem dX2_find_29 : decode cX2_find 29 = .ok (.ireturn, 1) := by decide +kernel
theorem dX2_findIn_0 : decode cX2_findIn 0 = .ok (.aload_n 0, 1) := by decide +kernel
theorem dX2_findIn_1 : decode cX2_findIn 1 = .ok (.iload_n 2, 1) := by decide +kernel
theorem dX2_findIn_2 : decode cX2_findIn 2 = .ok (.aload_n 0, 1) := by decide +kernel
theorem dX2_findIn_3 : decode cX2_findIn 3 = .ok (.iload_n 1, 1) := by decide +kernel
theorem dX2_findIn_4 : decode cX2_findIn 4 = .ok (.invokevirtual 52, 3) := by decide +kernel
theorem dX2_findIn_7 : decode cX2_findIn 7 = .ok (.aload_n 0, 1) := by decide +kernel
theorem dX2_findIn_8 : decode cX2_findIn 8 = .ok (.iload_n 1, 1) := by decide +kernel
theorem dX2_findIn_9 : decode cX2_findIn 9 = .ok (.invokevirtual 56, 3) := by decide +kernel
theorem dX2_findIn_12 : decode cX2_findIn 12 = .ok (.invokevirtual 62, 3) := by decide +kernel
theorem dX2_findIn_15 : decode cX2_findIn 15 = .ok (.ireturn, 1) := by decide +kernel
theorem dX3_init_0 : decode cX3_init 0 = .ok (.aload_n 0, 1) := by decide +kernel
theorem dX3_init_1 : decode cX3_init 1 = .ok (.invokespecial 3, 3) := by decide +kernel
theorem dX3_init_4 : decode cX3_init 4 = .ok (.return_, 1) := by decide +kernel
theorem dX5_firstIll_0 : decode cX5_firstIll 0 = .ok (.iconst 0, 1) := by decide +kernel
theorem dX5_firstIll_1 : decode cX5_firstIll 1 = .ok (.istore_n 1, 1) := by decide +kernel
theorem dX5_firstIll_2 : decode cX5_firstIll 2 = .ok (.iload_n 1, 1) := by decide +kernel
theorem dX5_firstIll_3 : decode cX5_firstIll 3 = .ok (.aload_n 0, 1) := by decide +kernel
theorem dX5_firstIll_4 : decode cX5_firstIll 4 = .ok (.invokevirtual 9, 3) := by decide +kernel
theorem dX5_firstIll_7 : decode cX5_firstIll 7 = .ok (.if_icmp .ge 55, 3) := by decide +kernel
theorem dX5_firstIll_10 : decode cX5_firstIll 10 = .ok (.aload_n 0, 1) := by decide +kernel
theorem dX5_firstIll_11 : decode cX5_firstIll 11 = .ok (.iload_n 1, 1) := by decide +kernel
theorem dX5_firstIll_12 : decode cX5_firstIll 12 = .ok (.aload_n 0, 1) := by decide +kernel
theorem dX5_firstIll_13 : decode cX5_firstIll 13 = .ok (.iload_n 1, 1) := by decide +kernel
theorem dX5_firstIll_14 : decode cX5_firstIll 14 = .ok (.invokestatic 15, 3) := by decide +kernel
theorem dX5_firstIll_17 : decode cX5_firstIll 17 = .ok (.invokevirtual 21, 3) := by decide +kernel
theorem dX5_firstIll_20 : decode cX5_firstIll 20 = .ok (.aload_n 0, 1) := by decide +kernel
theorem dX5_firstIll_21 : decode cX5_firstIll 21 = .ok (.iload_n 1, 1) := by decide +kernel
theorem dX5_firstIll_22 : decode cX5_firstIll 22 = .ok (.invokevirtual 25, 3) := by decide +kernel
theorem dX5_firstIll_25 : decode cX5_firstIll 25 = .ok (.iconst 1, 1) := by decide +kernel
theorem dX5_firstIll_26 : decode cX5_firstIll 26 = .ok (.if_icmp .ne 13, 3) := by decide +kernel
theorem dX5_firstIll_29 : decode cX5_firstIll 29 = .ok (.aload_n 0, 1) := by decide +kernel
theorem dX5_firstIll_30 : decode cX5_firstIll 30 = .ok (.iload_n 1, 1) := by decide +kernel
theorem dX5_firstIll_31 : decode cX5_firstIll 31 = .ok (.invokestatic 29, 3) := by decide +kernel
theorem dX5_firstIll_34 : decode cX5_firstIll 34 = .ok (.aload_n 0, 1) := by decide +kernel
theorem dX5_firstIll_35 : decode cX5_firstIll 35 = .ok (.iload_n 1, 1) := by decide +kernel
theorem dX5_firstIll_36 : decode cX5_firstIll 36 = .ok (.invokestatic 33, 3) := by decide +kernel
theorem dX5_firstIll_39 : decode cX5_firstIll 39 = .ok (.aload_n 0, 1) := by decide +kernel
theorem dX5_firstIll_40 : decode cX5_firstIll 40 = .ok (.iload_n 1, 1) := by decide +kernel
theorem dX5_firstIll_41 : decode cX5_firstIll 41 = .ok (.invokestatic 36, 3) := by decide +kernel
theorem dX5_firstIll_44 : decode cX5_firstIll 44 = .ok (.istore_n 2, 1) := by decide +kernel
theorem dX5_firstIll_45 : decode cX5_firstIll 45 = .ok (.iload_n 2, 1) := by decide +kernel
theorem dX5_firstIll_46 : decode cX5_firstIll 46 = .ok (.iconst (-1), 1) := by decide +kernel
theorem dX5_firstIll_47 : decode cX5_firstIll 47 = .ok (.if_icmp .eq 9, 3) := by decide +kernel
theorem dX5_firstIll_50 : decode cX5_firstIll 50 = .ok (.aload_n 0, 1) := by decide +kernel
theorem dX5_firstIll_51 : decode cX5_firstIll 51 = .ok (.iload_n 2, 1) := by decide +kernel
theorem dX5_firstIll_52 : decode cX5_firstIll 52 = .ok (.invokevirtual 39, 3) := by decide +kernel
theorem dX5_firstIll_55 : decode cX5_firstIll 55 = .ok (.ireturn, 1) := by decide +kernel
theorem dX5_firstIll_56 : decode cX5_firstIll 56 = .ok (.iinc 1 1, 3) := by decide +kernel
theorem dX5_firstIll_59 : decode cX5_firstIll 59 = .ok (.goto (-57), 3) := by decide +kernel
theorem dX5_firstIll_62 : decode cX5_firstIll 62 = .ok (.aload_n 0, 1) := by decide +kernel
theorem dX5_firstIll_63 : decode cX5_firstIll 63 = .ok (.invokevirtual 42, 3) := by decide +kernel
theorem dX5_firstIll_66 : decode cX5_firstIll 66 = .ok (.ireturn, 1) := by decide +kernel
theorem dX5_sortOf_0 : decode cX5_sortOf 0 = .ok (.aload_n 0, 1) := by decide +kernel
theorem dX5_sortOf_1 : decode cX5_sortOf 1 = .ok (.iload_n 1, 1) := by decide +kernel
theorem dX5_sortOf_2 : decode cX5_sortOf 2 = .ok (.bipush 13, 2) := by decide +kernel
theorem dX5_sortOf_4 : decode cX5_sortOf 4 = .ok (.invokevirtual 45, 3) := by decide +kernel
theorem dX5_sortOf_7 : decode cX5_sortOf 7 = .ok (.iconst (-1), 1) := by decide +kernel
theorem dX5_sortOf_8 : decode cX5_sortOf 8 = .ok (.if_icmp .ne 24, 3) := by decide +kernel
theorem dX5_sortOf_11 : decode cX5_sortOf 11 = .ok (.aload_n 0, 1) := by decide +kernel
theorem dX5_sortOf_12 : decode cX5_sortOf 12 = .ok (.iload_n 1, 1) := by decide +kernel
theorem dX5_sortOf_13 : decode cX5_sortOf 13 = .ok (.iconst 3, 1) := by decide +kernel
theorem dX5_sortOf_14 : decode cX5_sortOf 14 = .ok (.invokevirtual 45, 3) := by decide +kernel
theorem dX5_sortOf_17 : decode cX5_sortOf 17 = .ok (.iconst (-1), 1) := by decide +kernel
theorem dX5_sortOf_18 : decode cX5_sortOf 18 = .ok (.if_icmp .ne 14, 3) := by decide +kernel
theorem dX5_sortOf_21 : decode cX5_sortOf 21 = .ok (.aload_n 0, 1) := by decide +kernel
theorem dX5_sortOf_22 : decode cX5_sortOf 22 = .ok (.iload_n 1, 1) := by decide +kernel
theorem dX5_sortOf_23 : decode cX5_sortOf 23 = .ok (.bipush 12, 2) := by decide +kernel
theorem dX5_sortOf_25 : decode cX5_sortOf 25 = .ok (.invokevirtual 45, 3) := by decide +kernel
theorem dX5_sortOf_28 : decode cX5_sortOf 28 = .ok (.iconst (-1), 1) := by decide +kernel
theorem dX5_sortOf_29 : decode cX5_sortOf 29 = .ok (.if_icmp .eq 5, 3) := by decide +kernel
theorem dX5_sortOf_32 : decode cX5_sortOf 32 = .ok (.iconst 1, 1) := by decide +kernel
theorem dX5_sortOf_33 : decode cX5_sortOf 33 = .ok (.ireturn, 1) := by decide +kernel
theorem dX5_sortOf_34 : decode cX5_sortOf 34 = .ok (.aload_n 0, 1) := by decide +kernel
theorem dX5_sortOf_35 : decode cX5_sortOf 35 = .ok (.iload_n 1, 1) := by decide +kernel
theorem dX5_sortOf_36 : decode cX5_sortOf 36 = .ok (.bipush 9, 2) := by decide +kernel
theorem dX5_sortOf_38 : decode cX5_sortOf 38 = .ok (.invokevirtual 45, 3) := by decide +kernel
theorem dX5_sortOf_41 : decode cX5_sortOf 41 = .ok (.iconst (-1), 1) := by decide +kernel
theorem dX5_sortOf_42 : decode cX5_sortOf 42 = .ok (.if_icmp .eq 5, 3) := by decide +kernel
theorem dX5_sortOf_45 : decode cX5_sortOf 45 = .ok (.iconst 2, 1) := by decide +kernel
theorem dX5_sortOf_46 : decode cX5_sortOf 46 = .ok (.ireturn, 1) := by decide +kernel
theorem dX5_sortOf_47 : decode cX5_sortOf 47 = .ok (.aload_n 0, 1) := by decide +kernel
theorem dX5_sortOf_48 : decode cX5_sortOf 48 = .ok (.iload_n 1, 1) := by decide +kernel
theorem dX5_sortOf_49 : decode cX5_sortOf 49 = .ok (.bipush 11, 2) := by decide +kernel
theorem dX5_sortOf_51 : decode cX5_sortOf 51 = .ok (.invokevirtual 45, 3) := by decide +kernel
theorem dX5_sortOf_54 : decode cX5_sortOf 54 = .ok (.iconst (-1), 1) := by decide +kernel
theorem dX5_sortOf_55 : decode cX5_sortOf 55 = .ok (.if_icmp .eq 5, 3) := by decide +kernel
theorem dX5_sortOf_58 : decode cX5_sortOf 58 = .ok (.iconst 3, 1) := by decide +kernel
theorem dX5_sortOf_59 : decode cX5_sortOf 59 = .ok (.ireturn, 1) := by decide +kernel
theorem dX5_sortOf_60 : decode cX5_sortOf 60 = .ok (.aload_n 0, 1) := by decide +kernel
theorem dX5_sortOf_61 : decode cX5_sortOf 61 = .ok (.iload_n 1, 1) := by decide +kernel
theorem dX5_sortOf_62 : decode cX5_sortOf 62 = .ok (.iconst 4, 1) := by decide +kernel
theorem dX5_sortOf_63 : decode cX5_sortOf 63 = .ok (.invokevirtual 45, 3) := by decide +kernel
theorem dX5_sortOf_66 : decode cX5_sortOf 66 = .ok (.iconst (-1), 1) := by decide +kernel
theorem dX5_sortOf_67 : decode cX5_sortOf 67 = .ok (.if_icmp .ne 5, 3) := by decide +kernel
theorem dX5_sortOf_70 : decode cX5_sortOf 70 = .ok (.iconst 0, 1) := by decide +kernel
theorem dX5_sortOf_71 : decode cX5_sortOf 71 = .ok (.ireturn, 1) := by decide +kernel
theorem dX5_sortOf_72 : decode cX5_sortOf 72 = .ok (.aload_n 0, 1) := by decide +kernel
theorem dX5_sortOf_73 : decode cX5_sortOf 73 = .ok (.iload_n 1, 1) := by decide +kernel
theorem dX5_sortOf_74 : decode cX5_sortOf 74 = .ok (.invokestatic 49, 3) := by decide +kernel
theorem dX5_sortOf_77 : decode cX5_sortOf 77 = .ok (.ifCond .eq 7, 3) := by decide +kernel
theorem dX5_sortOf_80 : decode cX5_sortOf 80 = .ok (.iconst 5, 1) := by decide +kernel
theorem dX5_sortOf_81 : decode cX5_sortOf 81 = .ok (.goto 4, 3) := by decide +kernel
theorem dX5_sortOf_84 : decode cX5_sortOf 84 = .ok (.iconst 4, 1) := by decide +kernel
theorem dX5_sortOf_85 : decode cX5_sortOf 85 = .ok (.ireturn, 1) := by decide +kernel
theorem dX5_firstIllIn_0 : decode cX5_firstIllIn 0 = .ok (.aload_n 0, 1) := by decide +kernel
theorem dX5_firstIllIn_1 : decode cX5_firstIllIn 1 = .ok (.iload_n 1, 1) := by decide +kernel
theorem dX5_firstIllIn_2 : decode cX5_firstIllIn 2 = .ok (.invokevirtual 25, 3) := by decide +kernel
theorem dX5_firstIllIn_5 : decode cX5_firstIllIn 5 = .ok (.istore_n 2, 1) := by decide +kernel
theorem dX5_firstIllIn_6 : decode cX5_firstIllIn 6 = .ok (.iload_n 1, 1) := by decide +kernel
theorem dX5_firstIllIn_7 : decode cX5_firstIllIn 7 = .ok (.iconst 3, 1) := by decide +kernel
theorem dX5_firstIllIn_8 : decode cX5_firstIllIn 8 = .ok (.if_icmp .ne 18, 3) := by decide +kernel
theorem dX5_firstIllIn_11 : decode cX5_firstIllIn 11 = .ok (.iload_n 2, 1) := by decide +kernel
theorem dX5_firstIllIn_12 : decode cX5_firstIllIn 12 = .ok (.iconst 2, 1) := by decide +kernel
theorem dX5_firstIllIn_13 : decode cX5_firstIllIn 13 = .ok (.if_icmp .eq 13, 3) := by decide +kernel
theorem dX5_firstIllIn_16 : decode cX5_firstIllIn 16 = .ok (.iload_n 2, 1) := by decide +kernel
theorem dX5_firstIllIn_17 : decode cX5_firstIllIn 17 = .ok (.ifCond .eq 9, 3) := by decide +kernel
theorem dX5_firstIllIn_20 : decode cX5_firstIllIn 20 = .ok (.aload_n 0, 1) := by decide +kernel
theorem dX5_firstIllIn_21 : decode cX5_firstIllIn 21 = .ok (.iload_n 1, 1) := by decide +kernel
theorem dX5_firstIllIn_22 : decode cX5_firstIllIn 22 = .ok (.invokevirtual 56, 3) := by decide +kernel
theorem dX5_firstIllIn_25 : decode cX5_firstIllIn 25 = .ok (.ireturn, 1) := by decide +kernel
theorem dX5_firstIllIn_26 : decode cX5_firstIllIn 26 = .ok (.aload_n 0, 1) := by decide +kernel
theorem dX5_firstIllIn_27 : decode cX5_firstIllIn 27 = .ok (.iload_n 1, 1) := by decide +kernel
theorem dX5_firstIllIn_28 : decode cX5_firstIllIn 28 = .ok (.invokevirtual 56, 3) := by decide +kernel
theorem dX5_firstIllIn_31 : decode cX5_firstIllIn 31 = .ok (.istore_n 3, 1) := by decide +kernel
theorem dX5_firstIllIn_32 : decode cX5_firstIllIn 32 = .ok (.iload_n 3, 1) := by decide +kernel
theorem dX5_firstIllIn_33 : decode cX5_firstIllIn 33 = .ok (.aload_n 0, 1) := by decide +kernel
theorem dX5_firstIllIn_34 : decode cX5_firstIllIn 34 = .ok (.iload_n 1, 1) := by decide +kernel
theorem dX5_firstIllIn_35 : decode cX5_firstIllIn 35 = .ok (.invokevirtual 59, 3) := by decide +kernel
theorem dX5_firstIllIn_38 : decode cX5_firstIllIn 38 = .ok (.if_icmp .ge 20, 3) := by decide +kernel
theorem dX5_firstIllIn_41 : decode cX5_firstIllIn 41 = .ok (.aload_n 0, 1) := by decide +kernel
theorem dX5_firstIllIn_42 : decode cX5_firstIllIn 42 = .ok (.iload_n 1, 1) := by decide +kernel
theorem dX5_firstIllIn_43 : decode cX5_firstIllIn 43 = .ok (.iload_n 3, 1) := by decide +kernel
theorem dX5_firstIllIn_44 : decode cX5_firstIllIn 44 = .ok (.invokestatic 78, 3) := by decide +kernel
theorem dX5_firstIllIn_47 : decode cX5_firstIllIn 47 = .ok (.ifCond .eq 5, 3) := by decide +kernel
theorem dX5_firstIllIn_50 : decode cX5_firstIllIn 50 = .ok (.iload_n 3, 1) := by decide +kernel
theorem dX5_firstIllIn_51 : decode cX5_firstIllIn 51 = .ok (.ireturn, 1) := by decide +kernel
theorem dX5_firstIllIn_52 : decode cX5_firstIllIn 52 = .ok (.iinc 3 1, 3) := by decide +kernel
theorem dX5_firstIllIn_55 : decode cX5_firstIllIn 55 = .ok (.goto (-23), 3) := by decide +kernel
theorem dX5_firstIllIn_58 : decode cX5_firstIllIn 58 = .ok (.iconst (-1), 1) := by decide +kernel
theorem dX5_firstIllIn_59 : decode cX5_firstIllIn 59 = .ok (.ireturn, 1) := by decide +kernel
theorem dX6_init_0 : decode cX6_init 0 = .ok (.aload_n 0, 1) := by decide +kernel
theorem dX6_init_1 : decode cX6_init 1 = .ok (.invokespecial 3, 3) := by decide +kernel
theorem dX6_init_4 : decode cX6_init 4 = .ok (.return_, 1) := by decide +kernel
theorem dX7_init_0 : decode cX7_init 0 = .ok (.aload_n 0, 1) := by decide +kernel
theorem dX7_init_1 : decode cX7_init 1 = .ok (.invokespecial 3, 3) := by decide +kernel
theorem dX7_init_4 : decode cX7_init 4 = .ok (.aload_n 0, 1) := by decide +kernel
theorem dX7_init_5 : decode cX7_init 5 = .ok (.new 9, 3) := by decide +kernel
theorem dX7_init_8 : decode cX7_init 8 = .ok (.dup, 1) := by decide +kernel
theorem dX7_init_9 : decode cX7_init 9 = .ok (.invokespecial 11, 3) := by decide +kernel
theorem dX7_init_12 : decode cX7_init 12 = .ok (.putfield 12, 3) := by decide +kernel
theorem dX7_init_15 : decode cX7_init 15 = .ok (.aload_n 0, 1) := by decide +kernel
theorem dX7_init_16 : decode cX7_init 16 = .ok (.sipush 1024, 3) := by decide +kernel
theorem dX7_init_19 : decode cX7_init 19 = .ok (.newarray .int, 2) := by decide +kernel
theorem dX7_init_21 : decode cX7_init 21 = .ok (.putfield 18, 3) := by decide +kernel
theorem dX7_init_24 : decode cX7_init 24 = .ok (.aload_n 0, 1) := by decide +kernel
theorem dX7_init_25 : decode cX7_init 25 = .ok (.bipush 20, 2) := by decide +kernel
theorem dX7_init_27 : decode cX7_init 27 = .ok (.newarray .int, 2) := by decide +kernel
theorem dX7_init_29 : decode cX7_init 29 = .ok (.putfield 22, 3) := by decide +kernel
theorem dX7_init_32 : decode cX7_init 32 = .ok (.return_, 1) := by decide +kernel
theorem dX7_at_0 : decode cX7_at 0 = .ok (.iload_n 1, 1) := by decide +kernel
theorem dX7_at_1 : decode cX7_at 1 = .ok (.ifCond .lt 29, 3) := by decide +kernel
theorem dX7_at_4 : decode cX7_at 4 = .ok (.iload_n 1, 1) := by decide +kernel
theorem dX7_at_5 : decode cX7_at 5 = .ok (.aload_n 0, 1) := by decide +kernel
theorem dX7_at_6 : decode cX7_at 6 = .ok (.getfield 25, 3) := by decide +kernel
theorem dX7_at_9 : decode cX7_at 9 = .ok (.if_icmp .ge 21, 3) := by decide +kernel
theorem dX7_at_12 : decode cX7_at 12 = .ok (.iload_n 1, 1) := by decide +kernel
theorem dX7_at_13 : decode cX7_at 13 = .ok (.aload_n 0, 1) := by decide +kernel
theorem dX7_at_14 : decode cX7_at 14 = .ok (.getfield 18, 3) := by decide +kernel
theorem dX7_at_17 : decode cX7_at 17 = .ok (.arraylength, 1) := by decide +kernel
theorem dX7_at_18 : decode cX7_at 18 = .ok (.if_icmp .ge 12, 3) := by decide +kernel
theorem dX7_at_21 : decode cX7_at 21 = .ok (.aload_n 0, 1) := by decide +kernel
theorem dX7_at_22 : decode cX7_at 22 = .ok (.getfield 18, 3) := by decide +kernel
theorem dX7_at_25 : decode cX7_at 25 = .ok (.iload_n 1, 1) := by decide +kernel
theorem dX7_at_26 : decode cX7_at 26 = .ok (.iaload, 1) := by decide +kernel
theorem dX7_at_27 : decode cX7_at 27 = .ok (.goto 4, 3) := by decide +kernel
theorem dX7_at_30 : decode cX7_at 30 = .ok (.iconst (-1), 1) := by decide +kernel
theorem dX7_at_31 : decode cX7_at 31 = .ok (.ireturn, 1) := by decide +kernel
theorem dX8_read_0 : decode cX8_read 0 = .ok (.aload_n 1, 1) := by decide +kernel
theorem dX8_read_1 : decode cX8_read 1 = .ok (.invokevirtual 9, 3) := by decide +kernel
theorem dX8_read_4 : decode cX8_read 4 = .ok (.iconst 0, 1) := by decide +kernel
theorem dX8_read_5 : decode cX8_read 5 = .ok (.istore_n 2, 1) := by decide +kernel
theorem dX8_read_6 : decode cX8_read 6 = .ok (.iconst 0, 1) := by decide +kernel
theorem dX8_read_7 : decode cX8_read 7 = .ok (.istore_n 3, 1) := by decide +kernel
theorem dX8_read_8 : decode cX8_read 8 = .ok (.iload_n 3, 1) := by decide +kernel
theorem dX8_read_9 : decode cX8_read 9 = .ok (.sipush 255, 3) := by decide +kernel
theorem dX8_read_12 : decode cX8_read 12 = .ok (.if_icmp .ge 33, 3) := by decide +kernel
theorem dX8_read_15 : decode cX8_read 15 = .ok (.iload_n 2, 1) := by decide +kernel
theorem dX8_read_16 : decode cX8_read 16 = .ok (.aload_n 0, 1) := by decide +kernel
theorem dX8_read_17 : decode cX8_read 17 = .ok (.invokevirtual 14, 3) := by decide +kernel
theorem dX8_read_20 : decode cX8_read 20 = .ok (.if_icmp .ge 25, 3) := by decide +kernel
theorem dX8_read_23 : decode cX8_read 23 = .ok (.aload_n 1, 1) := by decide +kernel
theorem dX8_read_24 : decode cX8_read 24 = .ok (.invokevirtual 20, 3) := by decide +kernel
theorem dX8_read_27 : decode cX8_read 27 = .ok (.iconst (-1), 1) := by decide +kernel
theorem dX8_read_28 : decode cX8_read 28 = .ok (.if_icmp .eq 4, 3) := by decide +kernel
theorem dX8_read_31 : decode cX8_read 31 = .ok (.return_, 1) := by decide +kernel
theorem dX8_read_32 : decode cX8_read 32 = .ok (.aload_n 0, 1) := by decide +kernel
theorem dX8_read_33 : decode cX8_read 33 = .ok (.aload_n 1, 1) := by decide +kernel
theorem dX8_read_34 : decode cX8_read 34 = .ok (.iload_n 2, 1) := by decide +kernel
theorem dX8_read_35 : decode cX8_read 35 = .ok (.invokestatic 23, 3) := by decide +kernel
theorem dX8_read_38 : decode cX8_read 38 = .ok (.istore_n 2, 1) := by decide +kernel
theorem dX8_read_39 : decode cX8_read 39 = .ok (.iinc 3 1, 3) := by decide +kernel
theorem dX8_read_42 : decode cX8_read 42 = .ok (.goto (-34), 3) := by decide +kernel
theorem dX8_read_45 : decode cX8_read 45 = .ok (.return_, 1) := by decide +kernel
theorem dX9_init_0 : decode cX9_init 0 = .ok (.aload_n 0, 1) := by decide +kernel
theorem dX9_init_1 : decode cX9_init 1 = .ok (.invokespecial 3, 3) := by decide +kernel
theorem dX9_init_4 : decode cX9_init 4 = .ok (.aload_n 0, 1) := by decide +kernel
theorem dX9_init_5 : decode cX9_init 5 = .ok (.new 9, 3) := by decide +kernel
theorem dX9_init_8 : decode cX9_init 8 = .ok (.dup, 1) := by decide +kernel
theorem dX9_init_9 : decode cX9_init 9 = .ok (.invokespecial 11, 3) := by decide +kernel
theorem dX9_init_12 : decode cX9_init 12 = .ok (.putfield 12, 3) := by decide +kernel
theorem dX9_init_15 : decode cX9_init 15 = .ok (.aload_n 0, 1) := by decide +kernel
theorem dX9_init_16 : decode cX9_init 16 = .ok (.new 18, 3) := by decide +kernel
theorem dX9_init_19 : decode cX9_init 19 = .ok (.dup, 1) := by decide +kernel
theorem dX9_init_20 : decode cX9_init 20 = .ok (.invokespecial 20, 3) := by decide +kernel
theorem dX9_init_23 : decode cX9_init 23 = .ok (.putfield 21, 3) := by decide +kernel
theorem dX9_init_26 : decode cX9_init 26 = .ok (.aload_n 0, 1) := by decide +kernel
theorem dX9_init_27 : decode cX9_init 27 = .ok (.new 25, 3) := by decide +kernel
theorem dX9_init_30 : decode cX9_init 30 = .ok (.dup, 1) := by decide +kernel
theorem dX9_init_31 : decode cX9_init 31 = .ok (.invokespecial 27, 3) := by decide +kernel
theorem dX9_init_34 : decode cX9_init 34 = .ok (.putfield 28, 3) := by decide +kernel
theorem dX9_init_37 : decode cX9_init 37 = .ok (.aload_n 0, 1) := by decide +kernel
theorem dX9_init_38 : decode cX9_init 38 = .ok (.new 32, 3) := by decide +kernel
theorem dX9_init_41 : decode cX9_init 41 = .ok (.dup, 1) := by decide +kernel
theorem dX9_init_42 : decode cX9_init 42 = .ok (.invokespecial 34, 3) := by decide +kernel
theorem dX9_init_45 : decode cX9_init 45 = .ok (.putfield 35, 3) := by decide +kernel
theorem dX9_init_48 : decode cX9_init 48 = .ok (.return_, 1) := by decide +kernel
theorem dX9_signAt_0 : decode cX9_signAt 0 = .ok (.aload_n 0, 1) := by decide +kernel
theorem dX9_signAt_1 : decode cX9_signAt 1 = .ok (.getfield 12, 3) := by decide +kernel
theorem dX9_signAt_4 : decode cX9_signAt 4 = .ok (.iload_n 1, 1) := by decide +kernel
theorem dX9_signAt_5 : decode cX9_signAt 5 = .ok (.invokevirtual 39, 3) := by decide +kernel
theorem dX9_signAt_8 : decode cX9_signAt 8 = .ok (.ireturn, 1) := by decide +kernel
theorem dX10_init_0 : decode cX10_init 0 = .ok (.aload_n 0, 1) := by decide +kernel
theorem dX10_init_1 : decode cX10_init 1 = .ok (.invokespecial 3, 3) := by decide +kernel
theorem dX10_init_4 : decode cX10_init 4 = .ok (.aload_n 0, 1) := by decide +kernel
theorem dX10_init_5 : decode cX10_init 5 = .ok (.sipush 255, 3) := by decide +kernel
theorem dX10_init_8 : decode cX10_init 8 = .ok (.newarray .int, 2) := by decide +kernel
theorem dX10_init_10 : decode cX10_init 10 = .ok (.putfield 9, 3) := by decide +kernel
theorem dX10_init_13 : decode cX10_init 13 = .ok (.return_, 1) := by decide +kernel
theorem dX10_take_0 : decode cX10_take 0 = .ok (.aload_n 0, 1) := by decide +kernel
theorem dX10_take_1 : decode cX10_take 1 = .ok (.iconst 0, 1) := by decide +kernel
theorem dX10_take_2 : decode cX10_take 2 = .ok (.putfield 15, 3) := by decide +kernel
theorem dX10_take_5 : decode cX10_take 5 = .ok (.iconst 0, 1) := by decide +kernel
theorem dX10_take_6 : decode cX10_take 6 = .ok (.istore_n 3, 1) := by decide +kernel
theorem dX10_take_7 : decode cX10_take 7 = .ok (.iload_n 3, 1) := by decide +kernel
theorem dX10_take_8 : decode cX10_take 8 = .ok (.iload_n 2, 1) := by decide +kernel
theorem dX10_take_9 : decode cX10_take 9 = .ok (.if_icmp .ge 40, 3) := by decide +kernel
theorem dX10_take_12 : decode cX10_take 12 = .ok (.iload_n 3, 1) := by decide +kernel
theorem dX10_take_13 : decode cX10_take 13 = .ok (.aload_n 1, 1) := by decide +kernel
theorem dX10_take_14 : decode cX10_take 14 = .ok (.arraylength, 1) := by decide +kernel
theorem dX10_take_15 : decode cX10_take 15 = .ok (.if_icmp .ge 34, 3) := by decide +kernel
theorem dX10_take_18 : decode cX10_take 18 = .ok (.iload_n 3, 1) := by decide +kernel
theorem dX10_take_19 : decode cX10_take 19 = .ok (.aload_n 0, 1) := by decide +kernel
theorem dX10_take_20 : decode cX10_take 20 = .ok (.getfield 9, 3) := by decide +kernel
theorem dX10_take_23 : decode cX10_take 23 = .ok (.arraylength, 1) := by decide +kernel
theorem dX10_take_24 : decode cX10_take 24 = .ok (.if_icmp .ge 25, 3) := by decide +kernel
theorem dX10_take_27 : decode cX10_take 27 = .ok (.aload_n 0, 1) := by decide +kernel
theorem dX10_take_28 : decode cX10_take 28 = .ok (.getfield 9, 3) := by decide +kernel
theorem dX10_take_31 : decode cX10_take 31 = .ok (.iload_n 3, 1) := by decide +kernel
theorem dX10_take_32 : decode cX10_take 32 = .ok (.aload_n 1, 1) := by decide +kernel
theorem dX10_take_33 : decode cX10_take 33 = .ok (.iload_n 3, 1) := by decide +kernel
theorem dX10_take_34 : decode cX10_take 34 = .ok (.iaload, 1) := by decide +kernel
theorem dX10_take_35 : decode cX10_take 35 = .ok (.iastore, 1) := by decide +kernel
theorem dX10_take_36 : decode cX10_take 36 = .ok (.aload_n 0, 1) := by decide +kernel
theorem dX10_take_37 : decode cX10_take 37 = .ok (.iload_n 3, 1) := by decide +kernel
theorem dX10_take_38 : decode cX10_take 38 = .ok (.iconst 1, 1) := by decide +kernel
theorem dX10_take_39 : decode cX10_take 39 = .ok (.iadd, 1) := by decide +kernel
theorem dX10_take_40 : decode cX10_take 40 = .ok (.putfield 15, 3) := by decide +kernel
theorem dX10_take_43 : decode cX10_take 43 = .ok (.iinc 3 1, 3) := by decide +kernel
theorem dX10_take_46 : decode cX10_take 46 = .ok (.goto (-39), 3) := by decide +kernel
theorem dX10_take_49 : decode cX10_take 49 = .ok (.return_, 1) := by decide +kernel
theorem dX10_length_0 : decode cX10_length 0 = .ok (.aload_n 0, 1) := by decide +kernel
theorem dX10_length_1 : decode cX10_length 1 = .ok (.getfield 15, 3) := by decide +kernel
theorem dX10_length_4 : decode cX10_length 4 = .ok (.ireturn, 1) := by decide +kernel
theorem dX11_init_0 : decode cX11_init 0 = .ok (.aload_n 0, 1) := by decide +kernel
theorem dX11_init_1 : decode cX11_init 1 = .ok (.invokespecial 1, 3) := by decide +kernel
theorem dX11_init_4 : decode cX11_init 4 = .ok (.aload_n 0, 1) := by decide +kernel
theorem dX11_init_5 : decode cX11_init 5 = .ok (.sipush 260, 3) := by decide +kernel
theorem dX11_init_8 : decode cX11_init 8 = .ok (.newarray .int, 2) := by decide +kernel
theorem dX11_init_10 : decode cX11_init 10 = .ok (.putfield 9, 3) := by decide +kernel
theorem dX11_init_13 : decode cX11_init 13 = .ok (.aload_n 0, 1) := by decide +kernel
theorem dX11_init_14 : decode cX11_init 14 = .ok (.new 13, 3) := by decide +kernel
theorem dX11_init_17 : decode cX11_init 17 = .ok (.dup, 1) := by decide +kernel
theorem dX11_init_18 : decode cX11_init 18 = .ok (.invokespecial 15, 3) := by decide +kernel
theorem dX11_init_21 : decode cX11_init 21 = .ok (.putfield 16, 3) := by decide +kernel
theorem dX11_init_24 : decode cX11_init 24 = .ok (.aload_n 0, 1) := by decide +kernel
theorem dX11_init_25 : decode cX11_init 25 = .ok (.new 20, 3) := by decide +kernel
theorem dX11_init_28 : decode cX11_init 28 = .ok (.dup, 1) := by decide +kernel
theorem dX11_init_29 : decode cX11_init 29 = .ok (.invokespecial 22, 3) := by decide +kernel
theorem dX11_init_32 : decode cX11_init 32 = .ok (.putfield 23, 3) := by decide +kernel
theorem dX11_init_35 : decode cX11_init 35 = .ok (.aload_n 0, 1) := by decide +kernel
theorem dX11_init_36 : decode cX11_init 36 = .ok (.new 27, 3) := by decide +kernel
theorem dX11_init_39 : decode cX11_init 39 = .ok (.dup, 1) := by decide +kernel
theorem dX11_init_40 : decode cX11_init 40 = .ok (.invokespecial 29, 3) := by decide +kernel
theorem dX11_init_43 : decode cX11_init 43 = .ok (.putfield 30, 3) := by decide +kernel
theorem dX11_init_46 : decode cX11_init 46 = .ok (.aload_n 0, 1) := by decide +kernel
theorem dX11_init_47 : decode cX11_init 47 = .ok (.new 27, 3) := by decide +kernel
theorem dX11_init_50 : decode cX11_init 50 = .ok (.dup, 1) := by decide +kernel
theorem dX11_init_51 : decode cX11_init 51 = .ok (.invokespecial 29, 3) := by decide +kernel
theorem dX11_init_54 : decode cX11_init 54 = .ok (.putfield 34, 3) := by decide +kernel
theorem dX11_init_57 : decode cX11_init 57 = .ok (.aload_n 0, 1) := by decide +kernel
theorem dX11_init_58 : decode cX11_init 58 = .ok (.iconst (-1), 1) := by decide +kernel
theorem dX11_init_59 : decode cX11_init 59 = .ok (.putfield 37, 3) := by decide +kernel
theorem dX11_init_62 : decode cX11_init 62 = .ok (.return_, 1) := by decide +kernel
theorem dX11_feed_0 : decode cX11_feed 0 = .ok (.aload_n 0, 1) := by decide +kernel
theorem dX11_feed_1 : decode cX11_feed 1 = .ok (.getfield 41, 3) := by decide +kernel
theorem dX11_feed_4 : decode cX11_feed 4 = .ok (.bipush 20, 2) := by decide +kernel
theorem dX11_feed_6 : decode cX11_feed 6 = .ok (.iadd, 1) := by decide +kernel
theorem dX11_feed_7 : decode cX11_feed 7 = .ok (.sipush 260, 3) := by decide +kernel
theorem dX11_feed_10 : decode cX11_feed 10 = .ok (.if_icmp .le 5, 3) := by decide +kernel
theorem dX11_feed_13 : decode cX11_feed 13 = .ok (.iconst 0, 1) := by decide +kernel
theorem dX11_feed_14 : decode cX11_feed 14 = .ok (.ireturn, 1) := by decide +kernel
theorem dX11_feed_15 : decode cX11_feed 15 = .ok (.aload_n 0, 1) := by decide +kernel
theorem dX11_feed_16 : decode cX11_feed 16 = .ok (.iload_n 1, 1) := by decide +kernel
theorem dX11_feed_17 : decode cX11_feed 17 = .ok (.invokevirtual 44, 3) := by decide +kernel
theorem dX11_feed_20 : decode cX11_feed 20 = .ok (.aload_n 0, 1) := by decide +kernel
theorem dX11_feed_21 : decode cX11_feed 21 = .ok (.iload_n 2, 1) := by decide +kernel
theorem dX11_feed_22 : decode cX11_feed 22 = .ok (.invokevirtual 44, 3) := by decide +kernel
theorem dX11_feed_25 : decode cX11_feed 25 = .ok (.aload_n 0, 1) := by decide +kernel
theorem dX11_feed_26 : decode cX11_feed 26 = .ok (.iload_n 3, 1) := by decide +kernel
theorem dX11_feed_27 : decode cX11_feed 27 = .ok (.invokevirtual 44, 3) := by decide +kernel
theorem dX11_feed_30 : decode cX11_feed 30 = .ok (.aload_n 0, 1) := by decide +kernel
theorem dX11_feed_31 : decode cX11_feed 31 = .ok (.iload 4, 2) := by decide +kernel
theorem dX11_feed_33 : decode cX11_feed 33 = .ok (.invokevirtual 44, 3) := by decide +kernel
theorem dX11_feed_36 : decode cX11_feed 36 = .ok (.aload_n 0, 1) := by decide +kernel
theorem dX11_feed_37 : decode cX11_feed 37 = .ok (.iload 5, 2) := by decide +kernel
theorem dX11_feed_39 : decode cX11_feed 39 = .ok (.invokevirtual 44, 3) := by decide +kernel
theorem dX11_feed_42 : decode cX11_feed 42 = .ok (.iconst 1, 1) := by decide +kernel
theorem dX11_feed_43 : decode cX11_feed 43 = .ok (.ireturn, 1) := by decide +kernel
theorem dX11_putBytes_0 : decode cX11_putBytes 0 = .ok (.bipush 24, 2) := by decide +kernel
theorem dX11_putBytes_2 : decode cX11_putBytes 2 = .ok (.istore_n 2, 1) := by decide +kernel
theorem dX11_putBytes_3 : decode cX11_putBytes 3 = .ok (.iload_n 2, 1) := by decide +kernel
theorem dX11_putBytes_4 : decode cX11_putBytes 4 = .ok (.ifCond .lt 54, 3) := by decide +kernel
theorem dX11_putBytes_7 : decode cX11_putBytes 7 = .ok (.aload_n 0, 1) := by decide +kernel
theorem dX11_putBytes_8 : decode cX11_putBytes 8 = .ok (.getfield 41, 3) := by decide +kernel
theorem dX11_putBytes_11 : decode cX11_putBytes 11 = .ok (.ifCond .lt 41, 3) := by decide +kernel
theorem dX11_putBytes_14 : decode cX11_putBytes 14 = .ok (.aload_n 0, 1) := by decide +kernel
theorem dX11_putBytes_15 : decode cX11_putBytes 15 = .ok (.getfield 41, 3) := by decide +kernel
theorem dX11_putBytes_18 : decode cX11_putBytes 18 = .ok (.aload_n 0, 1) := by decide +kernel
theorem dX11_putBytes_19 : decode cX11_putBytes 19 = .ok (.getfield 9, 3) := by decide +kernel
theorem dX11_putBytes_22 : decode cX11_putBytes 22 = .ok (.arraylength, 1) := by decide +kernel
theorem dX11_putBytes_23 : decode cX11_putBytes 23 = .ok (.if_icmp .ge 29, 3) := by decide +kernel
theorem dX11_putBytes_26 : decode cX11_putBytes 26 = .ok (.aload_n 0, 1) := by decide +kernel
theorem dX11_putBytes_27 : decode cX11_putBytes 27 = .ok (.getfield 9, 3) := by decide +kernel
theorem dX11_putBytes_30 : decode cX11_putBytes 30 = .ok (.aload_n 0, 1) := by decide +kernel
theorem dX11_putBytes_31 : decode cX11_putBytes 31 = .ok (.getfield 41, 3) := by decide +kernel
theorem dX11_putBytes_34 : decode cX11_putBytes 34 = .ok (.iload_n 1, 1) := by decide +kernel
theorem dX11_putBytes_35 : decode cX11_putBytes 35 = .ok (.iload_n 2, 1) := by decide +kernel
theorem dX11_putBytes_36 : decode cX11_putBytes 36 = .ok (.iushr, 1) := by decide +kernel
theorem dX11_putBytes_37 : decode cX11_putBytes 37 = .ok (.sipush 255, 3) := by decide +kernel
theorem dX11_putBytes_40 : decode cX11_putBytes 40 = .ok (.iand, 1) := by decide +kernel
theorem dX11_putBytes_41 : decode cX11_putBytes 41 = .ok (.iastore, 1) := by decide +kernel
theorem dX11_putBytes_42 : decode cX11_putBytes 42 = .ok (.aload_n 0, 1) := by decide +kernel
theorem dX11_putBytes_43 : decode cX11_putBytes 43 = .ok (.dup, 1) := by decide +kernel
theorem dX11_putBytes_44 : decode cX11_putBytes 44 = .ok (.getfield 41, 3) := by decide +kernel
theorem dX11_putBytes_47 : decode cX11_putBytes 47 = .ok (.iconst 1, 1) := by decide +kernel
theorem dX11_putBytes_48 : decode cX11_putBytes 48 = .ok (.iadd, 1) := by decide +kernel
theorem dX11_putBytes_49 : decode cX11_putBytes 49 = .ok (.putfield 41, 3) := by decide +kernel
theorem dX11_putBytes_52 : decode cX11_putBytes 52 = .ok (.iinc 2 (-8), 3) := by decide +kernel
theorem dX11_putBytes_55 : decode cX11_putBytes 55 = .ok (.goto (-52), 3) := by decide +kernel
theorem dX11_putBytes_58 : decode cX11_putBytes 58 = .ok (.return_, 1) := by decide +kernel
theorem dX11_end_0 : decode cX11_end 0 = .ok (.iload_n 1, 1) := by decide +kernel
theorem dX11_end_1 : decode cX11_end 1 = .ok (.ifCond .lt 18, 3) := by decide +kernel
theorem dX11_end_4 : decode cX11_end 4 = .ok (.iload_n 1, 1) := by decide +kernel
theorem dX11_end_5 : decode cX11_end 5 = .ok (.aload_n 0, 1) := by decide +kernel
theorem dX11_end_6 : decode cX11_end 6 = .ok (.getfield 41, 3) := by decide +kernel
theorem dX11_end_9 : decode cX11_end 9 = .ok (.if_icmp .gt 10, 3) := by decide +kernel
theorem dX11_end_12 : decode cX11_end 12 = .ok (.iload_n 1, 1) := by decide +kernel
theorem dX11_end_13 : decode cX11_end 13 = .ok (.sipush 255, 3) := by decide +kernel
theorem dX11_end_16 : decode cX11_end 16 = .ok (.if_icmp .le 5, 3) := by decide +kernel
theorem dX11_end_19 : decode cX11_end 19 = .ok (.iconst 0, 1) := by decide +kernel
theorem dX11_end_20 : decode cX11_end 20 = .ok (.ireturn, 1) := by decide +kernel
theorem dX11_end_21 : decode cX11_end 21 = .ok (.aload_n 0, 1) := by decide +kernel
theorem dX11_end_22 : decode cX11_end 22 = .ok (.getfield 16, 3) := by decide +kernel
theorem dX11_end_25 : decode cX11_end 25 = .ok (.aload_n 0, 1) := by decide +kernel
theorem dX11_end_26 : decode cX11_end 26 = .ok (.getfield 9, 3) := by decide +kernel
theorem dX11_end_29 : decode cX11_end 29 = .ok (.iload_n 1, 1) := by decide +kernel
theorem dX11_end_30 : decode cX11_end 30 = .ok (.invokevirtual 48, 3) := by decide +kernel
theorem dX11_end_33 : decode cX11_end 33 = .ok (.aload_n 0, 1) := by decide +kernel
theorem dX11_end_34 : decode cX11_end 34 = .ok (.iconst 0, 1) := by decide +kernel
theorem dX11_end_35 : decode cX11_end 35 = .ok (.putfield 41, 3) := by decide +kernel
theorem dX11_end_38 : decode cX11_end 38 = .ok (.iconst 1, 1) := by decide +kernel
theorem dX11_end_39 : decode cX11_end 39 = .ok (.ireturn, 1) := by decide +kernel
theorem dX11_set_0 : decode cX11_set 0 = .ok (.dload_n 1, 1) := by decide +kernel
theorem dX11_set_1 : decode cX11_set 1 = .ok (.ldc2_w 52, 3) := by decide +kernel
theorem dX11_set_4 : decode cX11_set 4 = .ok (.dcmp .l, 1) := by decide +kernel
theorem dX11_set_5 : decode cX11_set 5 = .ok (.ifCond .le 28, 3) := by decide +kernel
theorem dX11_set_8 : decode cX11_set 8 = .ok (.dload_n 1, 1) := by decide +kernel
theorem dX11_set_9 : decode cX11_set 9 = .ok (.ldc2_w 54, 3) := by decide +kernel
theorem dX11_set_12 : decode cX11_set 12 = .ok (.dcmp .g, 1) := by decide +kernel
theorem dX11_set_13 : decode cX11_set 13 = .ok (.ifCond .ge 20, 3) := by decide +kernel
theorem dX11_set_16 : decode cX11_set 16 = .ok (.aload_n 0, 1) := by decide +kernel
theorem dX11_set_17 : decode cX11_set 17 = .ok (.dload_n 1, 1) := by decide +kernel
theorem dX11_set_18 : decode cX11_set 18 = .ok (.dconst 0, 1) := by decide +kernel
theorem dX11_set_19 : decode cX11_set 19 = .ok (.dcmp .l, 1) := by decide +kernel
theorem dX11_set_20 : decode cX11_set 20 = .ok (.ifCond .ne 7, 3) := by decide +kernel
theorem dX11_set_23 : decode cX11_set 23 = .ok (.dconst 0, 1) := by decide +kernel
theorem dX11_set_24 : decode cX11_set 24 = .ok (.goto 4, 3) := by decide +kernel
theorem dX11_set_27 : decode cX11_set 27 = .ok (.dload_n 1, 1) := by decide +kernel
theorem dX11_set_28 : decode cX11_set 28 = .ok (.putfield 56, 3) := by decide +kernel
theorem dX11_set_31 : decode cX11_set 31 = .ok (.iconst 1, 1) := by decide +kernel
theorem dX11_set_32 : decode cX11_set 32 = .ok (.ireturn, 1) := by decide +kernel
theorem dX11_set_33 : decode cX11_set 33 = .ok (.iconst 0, 1) := by decide +kernel
theorem dX11_set_34 : decode cX11_set 34 = .ok (.ireturn, 1) := by decide +kernel
theorem dX11_reckon_0 : decode cX11_reckon 0 = .ok (.iload_n 1, 1) := by decide +kernel
theorem dX11_reckon_1 : decode cX11_reckon 1 = .ok (.ifCond .lt 25, 3) := by decide +kernel
theorem dX11_reckon_4 : decode cX11_reckon 4 = .ok (.iload_n 1, 1) := by decide +kernel
theorem dX11_reckon_5 : decode cX11_reckon 5 = .ok (.iconst 3, 1) := by decide +kernel
theorem dX11_reckon_6 : decode cX11_reckon 6 = .ok (.if_icmp .gt 20, 3) := by decide +kernel
theorem dX11_reckon_9 : decode cX11_reckon 9 = .ok (.dload_n 2, 1) := by decide +kernel
theorem dX11_reckon_10 : decode cX11_reckon 10 = .ok (.dload_n 2, 1) := by decide +kernel
theorem dX11_reckon_11 : decode cX11_reckon 11 = .ok (.dcmp .l, 1) := by decide +kernel
theorem dX11_reckon_12 : decode cX11_reckon 12 = .ok (.ifCond .ne 14, 3) := by decide +kernel
theorem dX11_reckon_15 : decode cX11_reckon 15 = .ok (.iload_n 1, 1) := by decide +kernel
theorem dX11_reckon_16 : decode cX11_reckon 16 = .ok (.iconst 3, 1) := by decide +kernel
theorem dX11_reckon_17 : decode cX11_reckon 17 = .ok (.if_icmp .ne 11, 3) := by decide +kernel
theorem dX11_reckon_20 : decode cX11_reckon 20 = .ok (.dload_n 2, 1) := by decide +kernel
theorem dX11_reckon_21 : decode cX11_reckon 21 = .ok (.dconst 0, 1) := by decide +kernel
theorem dX11_reckon_22 : decode cX11_reckon 22 = .ok (.dcmp .l, 1) := by decide +kernel
theorem dX11_reckon_23 : decode cX11_reckon 23 = .ok (.ifCond .ne 5, 3) := by decide +kernel
theorem dX11_reckon_26 : decode cX11_reckon 26 = .ok (.iconst 0, 1) := by decide +kernel
theorem dX11_reckon_27 : decode cX11_reckon 27 = .ok (.ireturn, 1) := by decide +kernel
theorem dX11_reckon_28 : decode cX11_reckon 28 = .ok (.dload_n 2, 1) := by decide +kernel
theorem dX11_reckon_29 : decode cX11_reckon 29 = .ok (.ldc2_w 60, 3) := by decide +kernel
theorem dX11_reckon_32 : decode cX11_reckon 32 = .ok (.dcmp .l, 1) := by decide +kernel
theorem dX11_reckon_33 : decode cX11_reckon 33 = .ok (.ifCond .gt 11, 3) := by decide +kernel
theorem dX11_reckon_36 : decode cX11_reckon 36 = .ok (.dload_n 2, 1) := by decide +kernel
theorem dX11_reckon_37 : decode cX11_reckon 37 = .ok (.ldc2_w 62, 3) := by decide +kernel
theorem dX11_reckon_40 : decode cX11_reckon 40 = .ok (.dcmp .g, 1) := by decide +kernel
theorem dX11_reckon_41 : decode cX11_reckon 41 = .ok (.ifCond .ge 7, 3) := by decide +kernel
theorem dX11_reckon_44 : decode cX11_reckon 44 = .ok (.iconst 1, 1) := by decide +kernel
theorem dX11_reckon_45 : decode cX11_reckon 45 = .ok (.goto 4, 3) := by decide +kernel
theorem dX11_reckon_48 : decode cX11_reckon 48 = .ok (.iconst 0, 1) := by decide +kernel
theorem dX11_reckon_49 : decode cX11_reckon 49 = .ok (.istore 4, 2) := by decide +kernel
theorem dX11_reckon_51 : decode cX11_reckon 51 = .ok (.iload 4, 2) := by decide +kernel
theorem dX11_reckon_53 : decode cX11_reckon 53 = .ok (.ifCond .eq 10, 3) := by decide +kernel
theorem dX11_reckon_56 : decode cX11_reckon 56 = .ok (.iload_n 1, 1) := by decide +kernel
theorem dX11_reckon_57 : decode cX11_reckon 57 = .ok (.iconst 3, 1) := by decide +kernel
theorem dX11_reckon_58 : decode cX11_reckon 58 = .ok (.if_icmp .eq 5, 3) := by decide +kernel
theorem dX11_reckon_61 : decode cX11_reckon 61 = .ok (.iconst 0, 1) := by decide +kernel
theorem dX11_reckon_62 : decode cX11_reckon 62 = .ok (.ireturn, 1) := by decide +kernel
theorem dX11_reckon_63 : decode cX11_reckon 63 = .ok (.iload_n 1, 1) := by decide +kernel
theorem dX11_reckon_64 : decode cX11_reckon 64 = .ok (.tableswitch 61 0 2 #[28, 39, 50], 28) := by decide +kernel
theorem dX11_reckon_92 : decode cX11_reckon 92 = .ok (.aload_n 0, 1) := by decide +kernel
theorem dX11_reckon_93 : decode cX11_reckon 93 = .ok (.aload_n 0, 1) := by decide +kernel
theorem dX11_reckon_94 : decode cX11_reckon 94 = .ok (.getfield 56, 3) := by decide +kernel
theorem dX11_reckon_97 : decode cX11_reckon 97 = .ok (.dload_n 2, 1) := by decide +kernel
theorem dX11_reckon_98 : decode cX11_reckon 98 = .ok (.dadd, 1) := by decide +kernel
theorem dX11_reckon_99 : decode cX11_reckon 99 = .ok (.invokevirtual 64, 3) := by decide +kernel
theorem dX11_reckon_102 : decode cX11_reckon 102 = .ok (.ireturn, 1) := by decide +kernel
theorem dX11_reckon_103 : decode cX11_reckon 103 = .ok (.aload_n 0, 1) := by decide +kernel
theorem dX11_reckon_104 : decode cX11_reckon 104 = .ok (.aload_n 0, 1) := by decide +kernel
theorem dX11_reckon_105 : decode cX11_reckon 105 = .ok (.getfield 56, 3) := by decide +kernel
theorem dX11_reckon_108 : decode cX11_reckon 108 = .ok (.dload_n 2, 1) := by decide +kernel
theorem dX11_reckon_109 : decode cX11_reckon 109 = .ok (.dsub, 1) := by decide +kernel
theorem dX11_reckon_110 : decode cX11_reckon 110 = .ok (.invokevirtual 64, 3) := by decide +kernel
theorem dX11_reckon_113 : decode cX11_reckon 113 = .ok (.ireturn, 1) := by decide +kernel
theorem dX11_reckon_114 : decode cX11_reckon 114 = .ok (.aload_n 0, 1) := by decide +kernel
theorem dX11_reckon_115 : decode cX11_reckon 115 = .ok (.aload_n 0, 1) := by decide +kernel
theorem dX11_reckon_116 : decode cX11_reckon 116 = .ok (.getfield 56, 3) := by decide +kernel
theorem dX11_reckon_119 : decode cX11_reckon 119 = .ok (.dload_n 2, 1) := by decide +kernel
theorem dX11_reckon_120 : decode cX11_reckon 120 = .ok (.dmul, 1) := by decide +kernel
theorem dX11_reckon_121 : decode cX11_reckon 121 = .ok (.invokevirtual 64, 3) := by decide +kernel
theorem dX11_reckon_124 : decode cX11_reckon 124 = .ok (.ireturn, 1) := by decide +kernel
theorem dX11_reckon_125 : decode cX11_reckon 125 = .ok (.aload_n 0, 1) := by decide +kernel
theorem dX11_reckon_126 : decode cX11_reckon 126 = .ok (.aload_n 0, 1) := by decide +kernel
theorem dX11_reckon_127 : decode cX11_reckon 127 = .ok (.getfield 56, 3) := by decide +kernel
theorem dX11_reckon_130 : decode cX11_reckon 130 = .ok (.dload_n 2, 1) := by decide +kernel
theorem dX11_reckon_131 : decode cX11_reckon 131 = .ok (.ddiv, 1) := by decide +kernel
theorem dX11_reckon_132 : decode cX11_reckon 132 = .ok (.invokevirtual 64, 3) := by decide +kernel
theorem dX11_reckon_135 : decode cX11_reckon 135 = .ok (.ireturn, 1) := by decide +kernel
theorem dX11_format_0 : decode cX11_format 0 = .ok (.aload_n 0, 1) := by decide +kernel
theorem dX11_format_1 : decode cX11_format 1 = .ok (.getfield 16, 3) := by decide +kernel
theorem dX11_format_4 : decode cX11_format 4 = .ok (.aload_n 0, 1) := by decide +kernel
theorem dX11_format_5 : decode cX11_format 5 = .ok (.getfield 34, 3) := by decide +kernel
theorem dX11_format_8 : decode cX11_format 8 = .ok (.invokestatic 68, 3) := by decide +kernel
theorem dX11_format_11 : decode cX11_format 11 = .ok (.aload_n 0, 1) := by decide +kernel
theorem dX11_format_12 : decode cX11_format 12 = .ok (.aload_n 0, 1) := by decide +kernel
theorem dX11_format_13 : decode cX11_format 13 = .ok (.getfield 34, 3) := by decide +kernel
theorem dX11_format_16 : decode cX11_format 16 = .ok (.invokestatic 74, 3) := by decide +kernel
theorem dX11_format_19 : decode cX11_format 19 = .ok (.putfield 37, 3) := by decide +kernel
theorem dX11_format_22 : decode cX11_format 22 = .ok (.aload_n 0, 1) := by decide +kernel
theorem dX11_format_23 : decode cX11_format 23 = .ok (.getfield 37, 3) := by decide +kernel
theorem dX11_format_26 : decode cX11_format 26 = .ok (.iconst (-1), 1) := by decide +kernel
theorem dX11_format_27 : decode cX11_format 27 = .ok (.if_icmp .eq 13, 3) := by decide +kernel
theorem dX11_format_30 : decode cX11_format 30 = .ok (.new 80, 3) := by decide +kernel
theorem dX11_format_33 : decode cX11_format 33 = .ok (.dup, 1) := by decide +kernel
theorem dX11_format_34 : decode cX11_format 34 = .ok (.ldc 82, 2) := by decide +kernel
theorem dX11_format_36 : decode cX11_format 36 = .ok (.invokespecial 84, 3) := by decide +kernel
theorem dX11_format_39 : decode cX11_format 39 = .ok (.athrow, 1) := by decide +kernel
theorem dX11_format_40 : decode cX11_format 40 = .ok (.aload_n 0, 1) := by decide +kernel
theorem dX11_format_41 : decode cX11_format 41 = .ok (.getfield 34, 3) := by decide +kernel
theorem dX11_format_44 : decode cX11_format 44 = .ok (.astore_n 1, 1) := by decide +kernel
theorem dX11_format_45 : decode cX11_format 45 = .ok (.aload_n 0, 1) := by decide +kernel
theorem dX11_format_46 : decode cX11_format 46 = .ok (.aload_n 0, 1) := by decide +kernel
theorem dX11_format_47 : decode cX11_format 47 = .ok (.getfield 30, 3) := by decide +kernel
theorem dX11_format_50 : decode cX11_format 50 = .ok (.putfield 34, 3) := by decide +kernel
theorem dX11_format_53 : decode cX11_format 53 = .ok (.aload_n 0, 1) := by decide +kernel
theorem dX11_format_54 : decode cX11_format 54 = .ok (.aload_n 1, 1) := by decide +kernel
theorem dX11_format_55 : decode cX11_format 55 = .ok (.putfield 30, 3) := by decide +kernel
theorem dX11_format_58 : decode cX11_format 58 = .ok (.aload_n 0, 1) := by decide +kernel
theorem dX11_format_59 : decode cX11_format 59 = .ok (.iconst 1, 1) := by decide +kernel
theorem dX11_format_60 : decode cX11_format 60 = .ok (.putfield 87, 3) := by decide +kernel
theorem dX11_format_63 : decode cX11_format 63 = .ok (.aload_n 0, 1) := by decide +kernel
theorem dX11_format_64 : decode cX11_format 64 = .ok (.getfield 30, 3) := by decide +kernel
theorem dX11_format_67 : decode cX11_format 67 = .ok (.invokevirtual 91, 3) := by decide +kernel
theorem dX11_format_70 : decode cX11_format 70 = .ok (.ireturn, 1) := by decide +kernel
theorem dX11_illAt_0 : decode cX11_illAt 0 = .ok (.aload_n 0, 1) := by decide +kernel
theorem dX11_illAt_1 : decode cX11_illAt 1 = .ok (.getfield 37, 3) := by decide +kernel
theorem dX11_illAt_4 : decode cX11_illAt 4 = .ok (.ireturn, 1) := by decide +kernel
theorem dX11_show_0 : decode cX11_show 0 = .ok (.aload_n 0, 1) := by decide +kernel
theorem dX11_show_1 : decode cX11_show 1 = .ok (.getfield 87, 3) := by decide +kernel
theorem dX11_show_4 : decode cX11_show 4 = .ok (.ifCond .ne 13, 3) := by decide +kernel
theorem dX11_show_7 : decode cX11_show 7 = .ok (.new 95, 3) := by decide +kernel
theorem dX11_show_10 : decode cX11_show 10 = .ok (.dup, 1) := by decide +kernel
theorem dX11_show_11 : decode cX11_show 11 = .ok (.ldc 97, 2) := by decide +kernel
theorem dX11_show_13 : decode cX11_show 13 = .ok (.invokespecial 99, 3) := by decide +kernel
theorem dX11_show_16 : decode cX11_show 16 = .ok (.athrow, 1) := by decide +kernel
theorem dX11_show_17 : decode cX11_show 17 = .ok (.aload_n 0, 1) := by decide +kernel
theorem dX11_show_18 : decode cX11_show 18 = .ok (.getfield 23, 3) := by decide +kernel
theorem dX11_show_21 : decode cX11_show 21 = .ok (.aload_n 0, 1) := by decide +kernel
theorem dX11_show_22 : decode cX11_show 22 = .ok (.getfield 30, 3) := by decide +kernel
theorem dX11_show_25 : decode cX11_show 25 = .ok (.aload_n 0, 1) := by decide +kernel
theorem dX11_show_26 : decode cX11_show 26 = .ok (.getfield 56, 3) := by decide +kernel
theorem dX11_show_29 : decode cX11_show 29 = .ok (.invokevirtual 100, 3) := by decide +kernel
theorem dX11_show_32 : decode cX11_show 32 = .ok (.ireturn, 1) := by decide +kernel
theorem dX11_showText_0 : decode cX11_showText 0 = .ok (.aload_n 0, 1) := by decide +kernel
theorem dX11_showText_1 : decode cX11_showText 1 = .ok (.getfield 87, 3) := by decide +kernel
theorem dX11_showText_4 : decode cX11_showText 4 = .ok (.ifCond .ne 13, 3) := by decide +kernel
theorem dX11_showText_7 : decode cX11_showText 7 = .ok (.new 95, 3) := by decide +kernel
theorem dX11_showText_10 : decode cX11_showText 10 = .ok (.dup, 1) := by decide +kernel
theorem dX11_showText_11 : decode cX11_showText 11 = .ok (.ldc 97, 2) := by decide +kernel
theorem dX11_showText_13 : decode cX11_showText 13 = .ok (.invokespecial 99, 3) := by decide +kernel
theorem dX11_showText_16 : decode cX11_showText 16 = .ok (.athrow, 1) := by decide +kernel
theorem dX11_showText_17 : decode cX11_showText 17 = .ok (.aload_n 0, 1) := by decide +kernel
theorem dX11_showText_18 : decode cX11_showText 18 = .ok (.getfield 23, 3) := by decide +kernel
theorem dX11_showText_21 : decode cX11_showText 21 = .ok (.aload_n 0, 1) := by decide +kernel
theorem dX11_showText_22 : decode cX11_showText 22 = .ok (.getfield 30, 3) := by decide +kernel
theorem dX11_showText_25 : decode cX11_showText 25 = .ok (.aload_n 0, 1) := by decide +kernel
theorem dX11_showText_26 : decode cX11_showText 26 = .ok (.getfield 16, 3) := by decide +kernel
theorem dX11_showText_29 : decode cX11_showText 29 = .ok (.invokevirtual 104, 3) := by decide +kernel
theorem dX11_showText_32 : decode cX11_showText 32 = .ok (.ireturn, 1) := by decide +kernel
theorem dX11_output_0 : decode cX11_output 0 = .ok (.aload_n 0, 1) := by decide +kernel
theorem dX11_output_1 : decode cX11_output 1 = .ok (.getfield 23, 3) := by decide +kernel
theorem dX11_output_4 : decode cX11_output 4 = .ok (.iload_n 1, 1) := by decide +kernel
theorem dX11_output_5 : decode cX11_output 5 = .ok (.invokevirtual 108, 3) := by decide +kernel
theorem dX11_output_8 : decode cX11_output 8 = .ok (.ireturn, 1) := by decide +kernel
theorem dX12_init_0 : decode cX12_init 0 = .ok (.aload_n 0, 1) := by decide +kernel
theorem dX12_init_1 : decode cX12_init 1 = .ok (.invokespecial 1, 3) := by decide +kernel
theorem dX12_init_4 : decode cX12_init 4 = .ok (.aload_n 0, 1) := by decide +kernel
theorem dX12_init_5 : decode cX12_init 5 = .ok (.sipush 260, 3) := by decide +kernel
theorem dX12_init_8 : decode cX12_init 8 = .ok (.newarray .int, 2) := by decide +kernel
theorem dX12_init_10 : decode cX12_init 10 = .ok (.putfield 7, 3) := by decide +kernel
theorem dX12_init_13 : decode cX12_init 13 = .ok (.aload_n 0, 1) := by decide +kernel
theorem dX12_init_14 : decode cX12_init 14 = .ok (.sipush 256, 3) := by decide +kernel
theorem dX12_init_17 : decode cX12_init 17 = .ok (.newarray .int, 2) := by decide +kernel
theorem dX12_init_19 : decode cX12_init 19 = .ok (.putfield 13, 3) := by decide +kernel
theorem dX12_init_22 : decode cX12_init 22 = .ok (.aload_n 0, 1) := by decide +kernel
theorem dX12_init_23 : decode cX12_init 23 = .ok (.sipush 1024, 3) := by decide +kernel
theorem dX12_init_26 : decode cX12_init 26 = .ok (.newarray .int, 2) := by decide +kernel
theorem dX12_init_28 : decode cX12_init 28 = .ok (.putfield 16, 3) := by decide +kernel
theorem dX12_init_31 : decode cX12_init 31 = .ok (.aload_n 0, 1) := by decide +kernel
theorem dX12_init_32 : decode cX12_init 32 = .ok (.iconst (-1), 1) := by decide +kernel
theorem dX12_init_33 : decode cX12_init 33 = .ok (.putfield 19, 3) := by decide +kernel
theorem dX12_init_36 : decode cX12_init 36 = .ok (.aload_n 0, 1) := by decide +kernel
theorem dX12_init_37 : decode cX12_init 37 = .ok (.sipush 256, 3) := by decide +kernel
theorem dX12_init_40 : decode cX12_init 40 = .ok (.newarray .int, 2) := by decide +kernel
theorem dX12_init_42 : decode cX12_init 42 = .ok (.putfield 23, 3) := by decide +kernel
theorem dX12_init_45 : decode cX12_init 45 = .ok (.aload_n 0, 1) := by decide +kernel
theorem dX12_init_46 : decode cX12_init 46 = .ok (.sipush 260, 3) := by decide +kernel
theorem dX12_init_49 : decode cX12_init 49 = .ok (.newarray .int, 2) := by decide +kernel
theorem dX12_init_51 : decode cX12_init 51 = .ok (.putfield 26, 3) := by decide +kernel
theorem dX12_init_54 : decode cX12_init 54 = .ok (.aload_n 0, 1) := by decide +kernel
theorem dX12_init_55 : decode cX12_init 55 = .ok (.sipush 260, 3) := by decide +kernel
theorem dX12_init_58 : decode cX12_init 58 = .ok (.newarray .int, 2) := by decide +kernel
theorem dX12_init_60 : decode cX12_init 60 = .ok (.putfield 29, 3) := by decide +kernel
theorem dX12_init_63 : decode cX12_init 63 = .ok (.aload_n 0, 1) := by decide +kernel
theorem dX12_init_64 : decode cX12_init 64 = .ok (.sipush 260, 3) := by decide +kernel
theorem dX12_init_67 : decode cX12_init 67 = .ok (.newarray .int, 2) := by decide +kernel
theorem dX12_init_69 : decode cX12_init 69 = .ok (.putfield 32, 3) := by decide +kernel
theorem dX12_init_72 : decode cX12_init 72 = .ok (.aload_n 0, 1) := by decide +kernel
theorem dX12_init_73 : decode cX12_init 73 = .ok (.iconst 4, 1) := by decide +kernel
theorem dX12_init_74 : decode cX12_init 74 = .ok (.newarray .int, 2) := by decide +kernel
theorem dX12_init_76 : decode cX12_init 76 = .ok (.putfield 35, 3) := by decide +kernel
theorem dX12_init_79 : decode cX12_init 79 = .ok (.aload_n 0, 1) := by decide +kernel
theorem dX12_init_80 : decode cX12_init 80 = .ok (.iconst 4, 1) := by decide +kernel
theorem dX12_init_81 : decode cX12_init 81 = .ok (.newarray .double, 2) := by decide +kernel
theorem dX12_init_83 : decode cX12_init 83 = .ok (.putfield 38, 3) := by decide +kernel
theorem dX12_init_86 : decode cX12_init 86 = .ok (.aload_n 0, 1) := by decide +kernel
theorem dX12_init_87 : decode cX12_init 87 = .ok (.sipush 260, 3) := by decide +kernel
theorem dX12_init_90 : decode cX12_init 90 = .ok (.newarray .int, 2) := by decide +kernel
theorem dX12_init_92 : decode cX12_init 92 = .ok (.putfield 42, 3) := by decide +kernel
theorem dX12_init_95 : decode cX12_init 95 = .ok (.aload_n 0, 1) := by decide +kernel
theorem dX12_init_96 : decode cX12_init 96 = .ok (.sipush 260, 3) := by decide +kernel
theorem dX12_init_99 : decode cX12_init 99 = .ok (.newarray .int, 2) := by decide +kernel
theorem dX12_init_101 : decode cX12_init 101 = .ok (.putfield 45, 3) := by decide +kernel
theorem dX12_init_104 : decode cX12_init 104 = .ok (.aload_n 0, 1) := by decide +kernel
theorem dX12_init_105 : decode cX12_init 105 = .ok (.sipush 260, 3) := by decide +kernel
theorem dX12_init_108 : decode cX12_init 108 = .ok (.newarray .int, 2) := by decide +kernel
theorem dX12_init_110 : decode cX12_init 110 = .ok (.putfield 48, 3) := by decide +kernel
theorem dX12_init_113 : decode cX12_init 113 = .ok (.aload_n 0, 1) := by decide +kernel
theorem dX12_init_114 : decode cX12_init 114 = .ok (.sipush 260, 3) := by decide +kernel
theorem dX12_init_117 : decode cX12_init 117 = .ok (.newarray .int, 2) := by decide +kernel
theorem dX12_init_119 : decode cX12_init 119 = .ok (.putfield 51, 3) := by decide +kernel
theorem dX12_init_122 : decode cX12_init 122 = .ok (.aload_n 0, 1) := by decide +kernel
theorem dX12_init_123 : decode cX12_init 123 = .ok (.bipush 8, 2) := by decide +kernel
theorem dX12_init_125 : decode cX12_init 125 = .ok (.newarray .int, 2) := by decide +kernel
theorem dX12_init_127 : decode cX12_init 127 = .ok (.putfield 54, 3) := by decide +kernel
theorem dX12_init_130 : decode cX12_init 130 = .ok (.aload_n 0, 1) := by decide +kernel
theorem dX12_init_131 : decode cX12_init 131 = .ok (.bipush 8, 2) := by decide +kernel
theorem dX12_init_133 : decode cX12_init 133 = .ok (.newarray .double, 2) := by decide +kernel
theorem dX12_init_135 : decode cX12_init 135 = .ok (.putfield 57, 3) := by decide +kernel
theorem dX12_init_138 : decode cX12_init 138 = .ok (.aload_n 0, 1) := by decide +kernel
theorem dX12_init_139 : decode cX12_init 139 = .ok (.sipush 1420, 3) := by decide +kernel
theorem dX12_init_142 : decode cX12_init 142 = .ok (.newarray .int, 2) := by decide +kernel
theorem dX12_init_144 : decode cX12_init 144 = .ok (.putfield 60, 3) := by decide +kernel
theorem dX12_init_147 : decode cX12_init 147 = .ok (.aload_n 0, 1) := by decide +kernel
theorem dX12_init_148 : decode cX12_init 148 = .ok (.sipush 1420, 3) := by decide +kernel
theorem dX12_init_151 : decode cX12_init 151 = .ok (.newarray .int, 2) := by decide +kernel
theorem dX12_init_153 : decode cX12_init 153 = .ok (.putfield 63, 3) := by decide +kernel
theorem dX12_init_156 : decode cX12_init 156 = .ok (.aload_n 0, 1) := by decide +kernel
theorem dX12_init_157 : decode cX12_init 157 = .ok (.sipush 1420, 3) := by decide +kernel
theorem dX12_init_160 : decode cX12_init 160 = .ok (.newarray .int, 2) := by decide +kernel
theorem dX12_init_162 : decode cX12_init 162 = .ok (.putfield 66, 3) := by decide +kernel
theorem dX12_init_165 : decode cX12_init 165 = .ok (.aload_n 0, 1) := by decide +kernel
theorem dX12_init_166 : decode cX12_init 166 = .ok (.sipush 1420, 3) := by decide +kernel
theorem dX12_init_169 : decode cX12_init 169 = .ok (.newarray .int, 2) := by decide +kernel
theorem dX12_init_171 : decode cX12_init 171 = .ok (.putfield 69, 3) := by decide +kernel
theorem dX12_init_174 : decode cX12_init 174 = .ok (.aload_n 0, 1) := by decide +kernel
theorem dX12_init_175 : decode cX12_init 175 = .ok (.sipush 1420, 3) := by decide +kernel
theorem dX12_init_178 : decode cX12_init 178 = .ok (.newarray .int, 2) := by decide +kernel
theorem dX12_init_180 : decode cX12_init 180 = .ok (.putfield 72, 3) := by decide +kernel
theorem dX12_init_183 : decode cX12_init 183 = .ok (.aload_n 0, 1) := by decide +kernel
theorem dX12_init_184 : decode cX12_init 184 = .ok (.sipush 1400, 3) := by decide +kernel
theorem dX12_init_187 : decode cX12_init 187 = .ok (.newarray .int, 2) := by decide +kernel
theorem dX12_init_189 : decode cX12_init 189 = .ok (.putfield 75, 3) := by decide +kernel
theorem dX12_init_192 : decode cX12_init 192 = .ok (.return_, 1) := by decide +kernel
theorem dX12_thrown_0 : decode cX12_thrown 0 = .ok (.aload_n 0, 1) := by decide +kernel
theorem dX12_thrown_1 : decode cX12_thrown 1 = .ok (.getfield 78, 3) := by decide +kernel
theorem dX12_thrown_4 : decode cX12_thrown 4 = .ok (.ireturn, 1) := by decide +kernel
theorem dX12_put_0 : decode cX12_put 0 = .ok (.bipush 24, 2) := by decide +kernel
theorem dX12_put_2 : decode cX12_put 2 = .ok (.istore_n 2, 1) := by decide +kernel
theorem dX12_put_3 : decode cX12_put 3 = .ok (.iload_n 2, 1) := by decide +kernel
theorem dX12_put_4 : decode cX12_put 4 = .ok (.ifCond .lt 35, 3) := by decide +kernel
theorem dX12_put_7 : decode cX12_put 7 = .ok (.aload_n 0, 1) := by decide +kernel
theorem dX12_put_8 : decode cX12_put 8 = .ok (.getfield 7, 3) := by decide +kernel
theorem dX12_put_11 : decode cX12_put 11 = .ok (.aload_n 0, 1) := by decide +kernel
theorem dX12_put_12 : decode cX12_put 12 = .ok (.getfield 81, 3) := by decide +kernel
theorem dX12_put_15 : decode cX12_put 15 = .ok (.iload_n 1, 1) := by decide +kernel
theorem dX12_put_16 : decode cX12_put 16 = .ok (.iload_n 2, 1) := by decide +kernel
theorem dX12_put_17 : decode cX12_put 17 = .ok (.ishr, 1) := by decide +kernel
theorem dX12_put_18 : decode cX12_put 18 = .ok (.sipush 255, 3) := by decide +kernel
theorem dX12_put_21 : decode cX12_put 21 = .ok (.iand, 1) := by decide +kernel
theorem dX12_put_22 : decode cX12_put 22 = .ok (.iastore, 1) := by decide +kernel
theorem dX12_put_23 : decode cX12_put 23 = .ok (.aload_n 0, 1) := by decide +kernel
theorem dX12_put_24 : decode cX12_put 24 = .ok (.dup, 1) := by decide +kernel
theorem dX12_put_25 : decode cX12_put 25 = .ok (.getfield 81, 3) := by decide +kernel
theorem dX12_put_28 : decode cX12_put 28 = .ok (.iconst 1, 1) := by decide +kernel
theorem dX12_put_29 : decode cX12_put 29 = .ok (.iadd, 1) := by decide +kernel
theorem dX12_put_30 : decode cX12_put 30 = .ok (.putfield 81, 3) := by decide +kernel
theorem dX12_put_33 : decode cX12_put 33 = .ok (.iinc 2 (-8), 3) := by decide +kernel
theorem dX12_put_36 : decode cX12_put 36 = .ok (.goto (-33), 3) := by decide +kernel
theorem dX12_put_39 : decode cX12_put 39 = .ok (.return_, 1) := by decide +kernel
theorem dX12_feed_0 : decode cX12_feed 0 = .ok (.aload_n 0, 1) := by decide +kernel
theorem dX12_feed_1 : decode cX12_feed 1 = .ok (.iconst 0, 1) := by decide +kernel
theorem dX12_feed_2 : decode cX12_feed 2 = .ok (.putfield 78, 3) := by decide +kernel
theorem dX12_feed_5 : decode cX12_feed 5 = .ok (.aload_n 0, 1) := by decide +kernel
theorem dX12_feed_6 : decode cX12_feed 6 = .ok (.getfield 81, 3) := by decide +kernel
theorem dX12_feed_9 : decode cX12_feed 9 = .ok (.sipush 260, 3) := by decide +kernel
theorem dX12_feed_12 : decode cX12_feed 12 = .ok (.if_icmp .ne 5, 3) := by decide +kernel
theorem dX12_feed_15 : decode cX12_feed 15 = .ok (.iconst 0, 1) := by decide +kernel
theorem dX12_feed_16 : decode cX12_feed 16 = .ok (.ireturn, 1) := by decide +kernel
theorem dX12_feed_17 : decode cX12_feed 17 = .ok (.aload_n 0, 1) := by decide +kernel
theorem dX12_feed_18 : decode cX12_feed 18 = .ok (.iload_n 1, 1) := by decide +kernel
theorem dX12_feed_19 : decode cX12_feed 19 = .ok (.invokevirtual 84, 3) := by decide +kernel
theorem dX12_feed_22 : decode cX12_feed 22 = .ok (.aload_n 0, 1) := by decide +kernel
theorem dX12_feed_23 : decode cX12_feed 23 = .ok (.iload_n 2, 1) := by decide +kernel
theorem dX12_feed_24 : decode cX12_feed 24 = .ok (.invokevirtual 84, 3) := by decide +kernel
theorem dX12_feed_27 : decode cX12_feed 27 = .ok (.aload_n 0, 1) := by decide +kernel
theorem dX12_feed_28 : decode cX12_feed 28 = .ok (.iload_n 3, 1) := by decide +kernel
theorem dX12_feed_29 : decode cX12_feed 29 = .ok (.invokevirtual 84, 3) := by decide +kernel
theorem dX12_feed_32 : decode cX12_feed 32 = .ok (.aload_n 0, 1) := by decide +kernel
theorem dX12_feed_33 : decode cX12_feed 33 = .ok (.iload 4, 2) := by decide +kernel
theorem dX12_feed_35 : decode cX12_feed 35 = .ok (.invokevirtual 84, 3) := by decide +kernel
theorem dX12_feed_38 : decode cX12_feed 38 = .ok (.aload_n 0, 1) := by decide +kernel
theorem dX12_feed_39 : decode cX12_feed 39 = .ok (.iload 5, 2) := by decide +kernel
theorem dX12_feed_41 : decode cX12_feed 41 = .ok (.invokevirtual 84, 3) := by decide +kernel
theorem dX12_feed_44 : decode cX12_feed 44 = .ok (.iconst 1, 1) := by decide +kernel
theorem dX12_feed_45 : decode cX12_feed 45 = .ok (.ireturn, 1) := by decide +kernel
theorem dX12_end_0 : decode cX12_end 0 = .ok (.aload_n 0, 1) := by decide +kernel
theorem dX12_end_1 : decode cX12_end 1 = .ok (.iconst 0, 1) := by decide +kernel
theorem dX12_end_2 : decode cX12_end 2 = .ok (.putfield 78, 3) := by decide +kernel
theorem dX12_end_5 : decode cX12_end 5 = .ok (.iload_n 1, 1) := by decide +kernel
theorem dX12_end_6 : decode cX12_end 6 = .ok (.ifCond .lt 18, 3) := by decide +kernel
theorem dX12_end_9 : decode cX12_end 9 = .ok (.iload_n 1, 1) := by decide +kernel
theorem dX12_end_10 : decode cX12_end 10 = .ok (.aload_n 0, 1) := by decide +kernel
theorem dX12_end_11 : decode cX12_end 11 = .ok (.getfield 81, 3) := by decide +kernel
theorem dX12_end_14 : decode cX12_end 14 = .ok (.if_icmp .gt 10, 3) := by decide +kernel
theorem dX12_end_17 : decode cX12_end 17 = .ok (.iload_n 1, 1) := by decide +kernel
theorem dX12_end_18 : decode cX12_end 18 = .ok (.sipush 255, 3) := by decide +kernel
theorem dX12_end_21 : decode cX12_end 21 = .ok (.if_icmp .le 5, 3) := by decide +kernel
theorem dX12_end_24 : decode cX12_end 24 = .ok (.iconst 0, 1) := by decide +kernel
theorem dX12_end_25 : decode cX12_end 25 = .ok (.ireturn, 1) := by decide +kernel
theorem dX12_end_26 : decode cX12_end 26 = .ok (.iconst 0, 1) := by decide +kernel
theorem dX12_end_27 : decode cX12_end 27 = .ok (.istore_n 2, 1) := by decide +kernel
theorem dX12_end_28 : decode cX12_end 28 = .ok (.iload_n 2, 1) := by decide +kernel
theorem dX12_end_29 : decode cX12_end 29 = .ok (.iload_n 1, 1) := by decide +kernel
theorem dX12_end_30 : decode cX12_end 30 = .ok (.if_icmp .ge 21, 3) := by decide +kernel
theorem dX12_end_33 : decode cX12_end 33 = .ok (.aload_n 0, 1) := by decide +kernel
theorem dX12_end_34 : decode cX12_end 34 = .ok (.getfield 13, 3) := by decide +kernel
theorem dX12_end_37 : decode cX12_end 37 = .ok (.iload_n 2, 1) := by decide +kernel
theorem dX12_end_38 : decode cX12_end 38 = .ok (.aload_n 0, 1) := by decide +kernel
theorem dX12_end_39 : decode cX12_end 39 = .ok (.getfield 7, 3) := by decide +kernel
theorem dX12_end_42 : decode cX12_end 42 = .ok (.iload_n 2, 1) := by decide +kernel
theorem dX12_end_43 : decode cX12_end 43 = .ok (.iaload, 1) := by decide +kernel
theorem dX12_end_44 : decode cX12_end 44 = .ok (.iastore, 1) := by decide +kernel
theorem dX12_end_45 : decode cX12_end 45 = .ok (.iinc 2 1, 3) := by decide +kernel
theorem dX12_end_48 : decode cX12_end 48 = .ok (.goto (-20), 3) := by decide +kernel
theorem dX12_end_51 : decode cX12_end 51 = .ok (.aload_n 0, 1) := by decide +kernel
theorem dX12_end_52 : decode cX12_end 52 = .ok (.iload_n 1, 1) := by decide +kernel
theorem dX12_end_53 : decode cX12_end 53 = .ok (.putfield 88, 3) := by decide +kernel
theorem dX12_end_56 : decode cX12_end 56 = .ok (.aload_n 0, 1) := by decide +kernel
theorem dX12_end_57 : decode cX12_end 57 = .ok (.iconst 0, 1) := by decide +kernel
theorem dX12_end_58 : decode cX12_end 58 = .ok (.putfield 81, 3) := by decide +kernel
theorem dX12_end_61 : decode cX12_end 61 = .ok (.iconst 1, 1) := by decide +kernel
theorem dX12_end_62 : decode cX12_end 62 = .ok (.ireturn, 1) := by decide +kernel
theorem dX12_set_0 : decode cX12_set 0 = .ok (.aload_n 0, 1) := by decide +kernel
theorem dX12_set_1 : decode cX12_set 1 = .ok (.iconst 0, 1) := by decide +kernel
theorem dX12_set_2 : decode cX12_set 2 = .ok (.putfield 78, 3) := by decide +kernel
theorem dX12_set_5 : decode cX12_set 5 = .ok (.dload_n 1, 1) := by decide +kernel
theorem dX12_set_6 : decode cX12_set 6 = .ok (.ldc2_w 91, 3) := by decide +kernel
theorem dX12_set_9 : decode cX12_set 9 = .ok (.dcmp .g, 1) := by decide +kernel
theorem dX12_set_10 : decode cX12_set 10 = .ok (.ifCond .ge 11, 3) := by decide +kernel
theorem dX12_set_13 : decode cX12_set 13 = .ok (.dload_n 1, 1) := by decide +kernel
theorem dX12_set_14 : decode cX12_set 14 = .ok (.ldc2_w 93, 3) := by decide +kernel
theorem dX12_set_17 : decode cX12_set 17 = .ok (.dcmp .l, 1) := by decide +kernel
theorem dX12_set_18 : decode cX12_set 18 = .ok (.ifCond .gt 5, 3) := by decide +kernel
theorem dX12_set_21 : decode cX12_set 21 = .ok (.iconst 0, 1) := by decide +kernel
theorem dX12_set_22 : decode cX12_set 22 = .ok (.ireturn, 1) := by decide +kernel
theorem dX12_set_23 : decode cX12_set 23 = .ok (.aload_n 0, 1) := by decide +kernel
theorem dX12_set_24 : decode cX12_set 24 = .ok (.dload_n 1, 1) := by decide +kernel
theorem dX12_set_25 : decode cX12_set 25 = .ok (.dconst 0, 1) := by decide +kernel
theorem dX12_set_26 : decode cX12_set 26 = .ok (.dcmp .l, 1) := by decide +kernel
theorem dX12_set_27 : decode cX12_set 27 = .ok (.ifCond .ne 7, 3) := by decide +kernel
theorem dX12_set_30 : decode cX12_set 30 = .ok (.dconst 0, 1) := by decide +kernel
theorem dX12_set_31 : decode cX12_set 31 = .ok (.goto 4, 3) := by decide +kernel
theorem dX12_set_34 : decode cX12_set 34 = .ok (.dload_n 1, 1) := by decide +kernel
theorem dX12_set_35 : decode cX12_set 35 = .ok (.putfield 95, 3) := by decide +kernel
theorem dX12_set_38 : decode cX12_set 38 = .ok (.iconst 1, 1) := by decide +kernel
theorem dX12_set_39 : decode cX12_set 39 = .ok (.ireturn, 1) := by decide +kernel
theorem dX12_reckon_0 : decode cX12_reckon 0 = .ok (.aload_n 0, 1) := by decide +kernel
theorem dX12_reckon_1 : decode cX12_reckon 1 = .ok (.iconst 0, 1) := by decide +kernel
theorem dX12_reckon_2 : decode cX12_reckon 2 = .ok (.putfield 78, 3) := by decide +kernel
theorem dX12_reckon_5 : decode cX12_reckon 5 = .ok (.iload_n 1, 1) := by decide +kernel
theorem dX12_reckon_6 : decode cX12_reckon 6 = .ok (.ifCond .lt 19, 3) := by decide +kernel
theorem dX12_reckon_9 : decode cX12_reckon 9 = .ok (.iload_n 1, 1) := by decide +kernel
theorem dX12_reckon_10 : decode cX12_reckon 10 = .ok (.iconst 3, 1) := by decide +kernel
theorem dX12_reckon_11 : decode cX12_reckon 11 = .ok (.if_icmp .gt 14, 3) := by decide +kernel
theorem dX12_reckon_14 : decode cX12_reckon 14 = .ok (.iload_n 1, 1) := by decide +kernel
theorem dX12_reckon_15 : decode cX12_reckon 15 = .ok (.iconst 3, 1) := by decide +kernel
theorem dX12_reckon_16 : decode cX12_reckon 16 = .ok (.if_icmp .ne 11, 3) := by decide +kernel
theorem dX12_reckon_19 : decode cX12_reckon 19 = .ok (.dload_n 2, 1) := by decide +kernel
theorem dX12_reckon_20 : decode cX12_reckon 20 = .ok (.dconst 0, 1) := by decide +kernel
theorem dX12_reckon_21 : decode cX12_reckon 21 = .ok (.dcmp .l, 1) := by decide +kernel
theorem dX12_reckon_22 : decode cX12_reckon 22 = .ok (.ifCond .ne 5, 3) := by decide +kernel
theorem dX12_reckon_25 : decode cX12_reckon 25 = .ok (.iconst 0, 1) := by decide +kernel
theorem dX12_reckon_26 : decode cX12_reckon 26 = .ok (.ireturn, 1) := by decide +kernel
theorem dX12_reckon_27 : decode cX12_reckon 27 = .ok (.aload_n 0, 1) := by decide +kernel
theorem dX12_reckon_28 : decode cX12_reckon 28 = .ok (.iload_n 1, 1) := by decide +kernel
theorem dX12_reckon_29 : decode cX12_reckon 29 = .ok (.ifCond .ne 12, 3) := by decide +kernel
theorem dX12_reckon_32 : decode cX12_reckon 32 = .ok (.aload_n 0, 1) := by decide +kernel
theorem dX12_reckon_33 : decode cX12_reckon 33 = .ok (.getfield 95, 3) := by decide +kernel
theorem dX12_reckon_36 : decode cX12_reckon 36 = .ok (.dload_n 2, 1) := by decide +kernel
theorem dX12_reckon_37 : decode cX12_reckon 37 = .ok (.dadd, 1) := by decide +kernel
theorem dX12_reckon_38 : decode cX12_reckon 38 = .ok (.goto 37, 3) := by decide +kernel
theorem dX12_reckon_41 : decode cX12_reckon 41 = .ok (.iload_n 1, 1) := by decide +kernel
theorem dX12_reckon_42 : decode cX12_reckon 42 = .ok (.iconst 1, 1) := by decide +kernel
theorem dX12_reckon_43 : decode cX12_reckon 43 = .ok (.if_icmp .ne 12, 3) := by decide +kernel
theorem dX12_reckon_46 : decode cX12_reckon 46 = .ok (.aload_n 0, 1) := by decide +kernel
theorem dX12_reckon_47 : decode cX12_reckon 47 = .ok (.getfield 95, 3) := by decide +kernel
theorem dX12_reckon_50 : decode cX12_reckon 50 = .ok (.dload_n 2, 1) := by decide +kernel
theorem dX12_reckon_51 : decode cX12_reckon 51 = .ok (.dsub, 1) := by decide +kernel
theorem dX12_reckon_52 : decode cX12_reckon 52 = .ok (.goto 23, 3) := by decide +kernel
theorem dX12_reckon_55 : decode cX12_reckon 55 = .ok (.iload_n 1, 1) := by decide +kernel
theorem dX12_reckon_56 : decode cX12_reckon 56 = .ok (.iconst 2, 1) := by decide +kernel
theorem dX12_reckon_57 : decode cX12_reckon 57 = .ok (.if_icmp .ne 12, 3) := by decide +kernel
theorem dX12_reckon_60 : decode cX12_reckon 60 = .ok (.aload_n 0, 1) := by decide +kernel
theorem dX12_reckon_61 : decode cX12_reckon 61 = .ok (.getfield 95, 3) := by decide +kernel
theorem dX12_reckon_64 : decode cX12_reckon 64 = .ok (.dload_n 2, 1) := by decide +kernel
theorem dX12_reckon_65 : decode cX12_reckon 65 = .ok (.dmul, 1) := by decide +kernel
theorem dX12_reckon_66 : decode cX12_reckon 66 = .ok (.goto 9, 3) := by decide +kernel
theorem dX12_reckon_69 : decode cX12_reckon 69 = .ok (.aload_n 0, 1) := by decide +kernel
theorem dX12_reckon_70 : decode cX12_reckon 70 = .ok (.getfield 95, 3) := by decide +kernel
theorem dX12_reckon_73 : decode cX12_reckon 73 = .ok (.dload_n 2, 1) := by decide +kernel
theorem dX12_reckon_74 : decode cX12_reckon 74 = .ok (.ddiv, 1) := by decide +kernel
theorem dX12_reckon_75 : decode cX12_reckon 75 = .ok (.invokevirtual 99, 3) := by decide +kernel
theorem dX12_reckon_78 : decode cX12_reckon 78 = .ok (.ireturn, 1) := by decide +kernel
theorem dX12_has_0 : decode cX12_has 0 = .ok (.iconst 0, 1) := by decide +kernel
theorem dX12_has_1 : decode cX12_has 1 = .ok (.istore 4, 2) := by decide +kernel
theorem dX12_has_3 : decode cX12_has 3 = .ok (.iload_n 1, 1) := by decide +kernel
theorem dX12_has_4 : decode cX12_has 4 = .ok (.istore 5, 2) := by decide +kernel
theorem dX12_has_6 : decode cX12_has 6 = .ok (.iload 5, 2) := by decide +kernel
theorem dX12_has_8 : decode cX12_has 8 = .ok (.iload_n 2, 1) := by decide +kernel
theorem dX12_has_9 : decode cX12_has 9 = .ok (.if_icmp .ge 29, 3) := by decide +kernel
theorem dX12_has_12 : decode cX12_has 12 = .ok (.iload 4, 2) := by decide +kernel
theorem dX12_has_14 : decode cX12_has 14 = .ok (.ifCond .ne 11, 3) := by decide +kernel
theorem dX12_has_17 : decode cX12_has 17 = .ok (.aload_n 0, 1) := by decide +kernel
theorem dX12_has_18 : decode cX12_has 18 = .ok (.iload 5, 2) := by decide +kernel
theorem dX12_has_20 : decode cX12_has 20 = .ok (.iaload, 1) := by decide +kernel
theorem dX12_has_21 : decode cX12_has 21 = .ok (.iload_n 3, 1) := by decide +kernel
theorem dX12_has_22 : decode cX12_has 22 = .ok (.if_icmp .ne 7, 3) := by decide +kernel
theorem dX12_has_25 : decode cX12_has 25 = .ok (.iconst 1, 1) := by decide +kernel
theorem dX12_has_26 : decode cX12_has 26 = .ok (.goto 4, 3) := by decide +kernel
theorem dX12_has_29 : decode cX12_has 29 = .ok (.iconst 0, 1) := by decide +kernel
theorem dX12_has_30 : decode cX12_has 30 = .ok (.istore 4, 2) := by decide +kernel
theorem dX12_has_32 : decode cX12_has 32 = .ok (.iinc 5 1, 3) := by decide +kernel
theorem dX12_has_35 : decode cX12_has 35 = .ok (.goto (-29), 3) := by decide +kernel
theorem dX12_has_38 : decode cX12_has 38 = .ok (.iload 4, 2) := by decide +kernel
theorem dX12_has_40 : decode cX12_has 40 = .ok (.ireturn, 1) := by decide +kernel
theorem dX12_sortOf_0 : decode cX12_sortOf 0 = .ok (.aload_n 0, 1) := by decide +kernel
theorem dX12_sortOf_1 : decode cX12_sortOf 1 = .ok (.iload_n 1, 1) := by decide +kernel
theorem dX12_sortOf_2 : decode cX12_sortOf 2 = .ok (.iload_n 2, 1) := by decide +kernel
theorem dX12_sortOf_3 : decode cX12_sortOf 3 = .ok (.bipush 10, 2) := by decide +kernel
theorem dX12_sortOf_5 : decode cX12_sortOf 5 = .ok (.invokestatic 225, 3) := by decide +kernel
theorem dX12_sortOf_8 : decode cX12_sortOf 8 = .ok (.ifCond .ne 25, 3) := by decide +kernel
theorem dX12_sortOf_11 : decode cX12_sortOf 11 = .ok (.aload_n 0, 1) := by decide +kernel
theorem dX12_sortOf_12 : decode cX12_sortOf 12 = .ok (.iload_n 1, 1) := by decide +kernel
theorem dX12_sortOf_13 : decode cX12_sortOf 13 = .ok (.iload_n 2, 1) := by decide +kernel
theorem dX12_sortOf_14 : decode cX12_sortOf 14 = .ok (.bipush 12, 2) := by decide +kernel
theorem dX12_sortOf_16 : decode cX12_sortOf 16 = .ok (.invokestatic 225, 3) := by decide +kernel
theorem dX12_sortOf_19 : decode cX12_sortOf 19 = .ok (.ifCond .ne 14, 3) := by decide +kernel
theorem dX12_sortOf_22 : decode cX12_sortOf 22 = .ok (.aload_n 0, 1) := by decide +kernel
theorem dX12_sortOf_23 : decode cX12_sortOf 23 = .ok (.iload_n 1, 1) := by decide +kernel
theorem dX12_sortOf_24 : decode cX12_sortOf 24 = .ok (.iload_n 2, 1) := by decide +kernel
theorem dX12_sortOf_25 : decode cX12_sortOf 25 = .ok (.bipush 9, 2) := by decide +kernel
theorem dX12_sortOf_27 : decode cX12_sortOf 27 = .ok (.invokestatic 225, 3) := by decide +kernel
theorem dX12_sortOf_30 : decode cX12_sortOf 30 = .ok (.ifCond .eq 5, 3) := by decide +kernel
theorem dX12_sortOf_33 : decode cX12_sortOf 33 = .ok (.iconst 3, 1) := by decide +kernel
theorem dX12_sortOf_34 : decode cX12_sortOf 34 = .ok (.ireturn, 1) := by decide +kernel
theorem dX12_sortOf_35 : decode cX12_sortOf 35 = .ok (.aload_n 0, 1) := by decide +kernel
theorem dX12_sortOf_36 : decode cX12_sortOf 36 = .ok (.iload_n 1, 1) := by decide +kernel
theorem dX12_sortOf_37 : decode cX12_sortOf 37 = .ok (.iload_n 2, 1) := by decide +kernel
theorem dX12_sortOf_38 : decode cX12_sortOf 38 = .ok (.bipush 6, 2) := by decide +kernel
theorem dX12_sortOf_40 : decode cX12_sortOf 40 = .ok (.invokestatic 225, 3) := by decide +kernel
theorem dX12_sortOf_43 : decode cX12_sortOf 43 = .ok (.ifCond .eq 7, 3) := by decide +kernel
theorem dX12_sortOf_46 : decode cX12_sortOf 46 = .ok (.iconst 2, 1) := by decide +kernel
theorem dX12_sortOf_47 : decode cX12_sortOf 47 = .ok (.goto 34, 3) := by decide +kernel
theorem dX12_sortOf_50 : decode cX12_sortOf 50 = .ok (.aload_n 0, 1) := by decide +kernel
theorem dX12_sortOf_51 : decode cX12_sortOf 51 = .ok (.iload_n 1, 1) := by decide +kernel
theorem dX12_sortOf_52 : decode cX12_sortOf 52 = .ok (.iload_n 2, 1) := by decide +kernel
theorem dX12_sortOf_53 : decode cX12_sortOf 53 = .ok (.bipush 8, 2) := by decide +kernel
theorem dX12_sortOf_55 : decode cX12_sortOf 55 = .ok (.invokestatic 225, 3) := by decide +kernel
theorem dX12_sortOf_58 : decode cX12_sortOf 58 = .ok (.ifCond .eq 8, 3) := by decide +kernel
theorem dX12_sortOf_61 : decode cX12_sortOf 61 = .ok (.bipush 8, 2) := by decide +kernel
theorem dX12_sortOf_63 : decode cX12_sortOf 63 = .ok (.goto 18, 3) := by decide +kernel
theorem dX12_sortOf_66 : decode cX12_sortOf 66 = .ok (.aload_n 0, 1) := by decide +kernel
theorem dX12_sortOf_67 : decode cX12_sortOf 67 = .ok (.iload_n 1, 1) := by decide +kernel
theorem dX12_sortOf_68 : decode cX12_sortOf 68 = .ok (.iload_n 2, 1) := by decide +kernel
theorem dX12_sortOf_69 : decode cX12_sortOf 69 = .ok (.iconst 1, 1) := by decide +kernel
theorem dX12_sortOf_70 : decode cX12_sortOf 70 = .ok (.invokestatic 225, 3) := by decide +kernel
theorem dX12_sortOf_73 : decode cX12_sortOf 73 = .ok (.ifCond .eq 7, 3) := by decide +kernel
theorem dX12_sortOf_76 : decode cX12_sortOf 76 = .ok (.iconst 1, 1) := by decide +kernel
theorem dX12_sortOf_77 : decode cX12_sortOf 77 = .ok (.goto 4, 3) := by decide +kernel
theorem dX12_sortOf_80 : decode cX12_sortOf 80 = .ok (.iconst 0, 1) := by decide +kernel
theorem dX12_sortOf_81 : decode cX12_sortOf 81 = .ok (.ireturn, 1) := by decide +kernel
theorem dX12_wrongIn_0 : decode cX12_wrongIn 0 = .ok (.aload_n 0, 1) := by decide +kernel
theorem dX12_wrongIn_1 : decode cX12_wrongIn 1 = .ok (.getfield 42, 3) := by decide +kernel
theorem dX12_wrongIn_4 : decode cX12_wrongIn 4 = .ok (.iload_n 2, 1) := by decide +kernel
theorem dX12_wrongIn_5 : decode cX12_wrongIn 5 = .ok (.iload_n 3, 1) := by decide +kernel
theorem dX12_wrongIn_6 : decode cX12_wrongIn 6 = .ok (.invokestatic 245, 3) := by decide +kernel
theorem dX12_wrongIn_9 : decode cX12_wrongIn 9 = .ok (.istore 4, 2) := by decide +kernel
theorem dX12_wrongIn_11 : decode cX12_wrongIn 11 = .ok (.iload_n 1, 1) := by decide +kernel
theorem dX12_wrongIn_12 : decode cX12_wrongIn 12 = .ok (.iconst 3, 1) := by decide +kernel
theorem dX12_wrongIn_13 : decode cX12_wrongIn 13 = .ok (.if_icmp .ne 21, 3) := by decide +kernel
theorem dX12_wrongIn_16 : decode cX12_wrongIn 16 = .ok (.iload 4, 2) := by decide +kernel
theorem dX12_wrongIn_18 : decode cX12_wrongIn 18 = .ok (.iconst 2, 1) := by decide +kernel
theorem dX12_wrongIn_19 : decode cX12_wrongIn 19 = .ok (.if_icmp .eq 15, 3) := by decide +kernel
theorem dX12_wrongIn_22 : decode cX12_wrongIn 22 = .ok (.iload 4, 2) := by decide +kernel
theorem dX12_wrongIn_24 : decode cX12_wrongIn 24 = .ok (.ifCond .eq 10, 3) := by decide +kernel
theorem dX12_wrongIn_27 : decode cX12_wrongIn 27 = .ok (.aload_n 0, 1) := by decide +kernel
theorem dX12_wrongIn_28 : decode cX12_wrongIn 28 = .ok (.getfield 51, 3) := by decide +kernel
theorem dX12_wrongIn_31 : decode cX12_wrongIn 31 = .ok (.iload_n 2, 1) := by decide +kernel
theorem dX12_wrongIn_32 : decode cX12_wrongIn 32 = .ok (.iaload, 1) := by decide +kernel
theorem dX12_wrongIn_33 : decode cX12_wrongIn 33 = .ok (.ireturn, 1) := by decide +kernel
theorem dX12_wrongIn_34 : decode cX12_wrongIn 34 = .ok (.iload_n 2, 1) := by decide +kernel
theorem dX12_wrongIn_35 : decode cX12_wrongIn 35 = .ok (.istore 5, 2) := by decide +kernel
theorem dX12_wrongIn_37 : decode cX12_wrongIn 37 = .ok (.iload 5, 2) := by decide +kernel
theorem dX12_wrongIn_39 : decode cX12_wrongIn 39 = .ok (.iload_n 3, 1) := by decide +kernel
theorem dX12_wrongIn_40 : decode cX12_wrongIn 40 = .ok (.if_icmp .ge 256, 3) := by decide +kernel
theorem dX12_wrongIn_43 : decode cX12_wrongIn 43 = .ok (.aload_n 0, 1) := by decide +kernel
theorem dX12_wrongIn_44 : decode cX12_wrongIn 44 = .ok (.getfield 42, 3) := by decide +kernel
theorem dX12_wrongIn_47 : decode cX12_wrongIn 47 = .ok (.iload 5, 2) := by decide +kernel
theorem dX12_wrongIn_49 : decode cX12_wrongIn 49 = .ok (.iaload, 1) := by decide +kernel
theorem dX12_wrongIn_50 : decode cX12_wrongIn 50 = .ok (.istore 6, 2) := by decide +kernel
theorem dX12_wrongIn_52 : decode cX12_wrongIn 52 = .ok (.iload 6, 2) := by decide +kernel
theorem dX12_wrongIn_54 : decode cX12_wrongIn 54 = .ok (.bipush 15, 2) := by decide +kernel
theorem dX12_wrongIn_56 : decode cX12_wrongIn 56 = .ok (.if_icmp .eq 25, 3) := by decide +kernel
theorem dX12_wrongIn_59 : decode cX12_wrongIn 59 = .ok (.iload 6, 2) := by decide +kernel
theorem dX12_wrongIn_61 : decode cX12_wrongIn 61 = .ok (.bipush 11, 2) := by decide +kernel
theorem dX12_wrongIn_63 : decode cX12_wrongIn 63 = .ok (.if_icmp .ne 14, 3) := by decide +kernel
theorem dX12_wrongIn_66 : decode cX12_wrongIn 66 = .ok (.iload 5, 2) := by decide +kernel
theorem dX12_wrongIn_68 : decode cX12_wrongIn 68 = .ok (.iload_n 2, 1) := by decide +kernel
theorem dX12_wrongIn_69 : decode cX12_wrongIn 69 = .ok (.if_icmp .ne 12, 3) := by decide +kernel
theorem dX12_wrongIn_72 : decode cX12_wrongIn 72 = .ok (.iload_n 1, 1) := by decide +kernel
theorem dX12_wrongIn_73 : decode cX12_wrongIn 73 = .ok (.iconst 2, 1) := by decide +kernel
theorem dX12_wrongIn_74 : decode cX12_wrongIn 74 = .ok (.if_icmp .ge 7, 3) := by decide +kernel
theorem dX12_wrongIn_77 : decode cX12_wrongIn 77 = .ok (.iconst 1, 1) := by decide +kernel
theorem dX12_wrongIn_78 : decode cX12_wrongIn 78 = .ok (.goto 4, 3) := by decide +kernel
theorem dX12_wrongIn_81 : decode cX12_wrongIn 81 = .ok (.iconst 0, 1) := by decide +kernel
theorem dX12_wrongIn_82 : decode cX12_wrongIn 82 = .ok (.istore 7, 2) := by decide +kernel
theorem dX12_wrongIn_84 : decode cX12_wrongIn 84 = .ok (.iload 4, 2) := by decide +kernel
theorem dX12_wrongIn_86 : decode cX12_wrongIn 86 = .ok (.iconst 1, 1) := by decide +kernel
theorem dX12_wrongIn_87 : decode cX12_wrongIn 87 = .ok (.if_icmp .ne 29, 3) := by decide +kernel
theorem dX12_wrongIn_90 : decode cX12_wrongIn 90 = .ok (.iload 7, 2) := by decide +kernel
theorem dX12_wrongIn_92 : decode cX12_wrongIn 92 = .ok (.ifCond .eq 18, 3) := by decide +kernel
theorem dX12_wrongIn_95 : decode cX12_wrongIn 95 = .ok (.aload_n 0, 1) := by decide +kernel
theorem dX12_wrongIn_96 : decode cX12_wrongIn 96 = .ok (.iload 5, 2) := by decide +kernel
theorem dX12_wrongIn_98 : decode cX12_wrongIn 98 = .ok (.iload_n 2, 1) := by decide +kernel
theorem dX12_wrongIn_99 : decode cX12_wrongIn 99 = .ok (.iload_n 3, 1) := by decide +kernel
theorem dX12_wrongIn_100 : decode cX12_wrongIn 100 = .ok (.invokevirtual 248, 3) := by decide +kernel
theorem dX12_wrongIn_103 : decode cX12_wrongIn 103 = .ok (.ifCond .eq 7, 3) := by decide +kernel
theorem dX12_wrongIn_106 : decode cX12_wrongIn 106 = .ok (.iconst 1, 1) := by decide +kernel
theorem dX12_wrongIn_107 : decode cX12_wrongIn 107 = .ok (.goto 4, 3) := by decide +kernel
theorem dX12_wrongIn_110 : decode cX12_wrongIn 110 = .ok (.iconst 0, 1) := by decide +kernel
theorem dX12_wrongIn_111 : decode cX12_wrongIn 111 = .ok (.istore 7, 2) := by decide +kernel
theorem dX12_wrongIn_113 : decode cX12_wrongIn 113 = .ok (.goto 59, 3) := by decide +kernel
theorem dX12_wrongIn_116 : decode cX12_wrongIn 116 = .ok (.iload 7, 2) := by decide +kernel
theorem dX12_wrongIn_118 : decode cX12_wrongIn 118 = .ok (.ifCond .eq 51, 3) := by decide +kernel
theorem dX12_wrongIn_121 : decode cX12_wrongIn 121 = .ok (.iload 6, 2) := by decide +kernel
theorem dX12_wrongIn_123 : decode cX12_wrongIn 123 = .ok (.bipush 7, 2) := by decide +kernel
theorem dX12_wrongIn_125 : decode cX12_wrongIn 125 = .ok (.if_icmp .eq 44, 3) := by decide +kernel
theorem dX12_wrongIn_128 : decode cX12_wrongIn 128 = .ok (.iload 6, 2) := by decide +kernel
theorem dX12_wrongIn_130 : decode cX12_wrongIn 130 = .ok (.bipush 13, 2) := by decide +kernel
theorem dX12_wrongIn_132 : decode cX12_wrongIn 132 = .ok (.if_icmp .eq 37, 3) := by decide +kernel
theorem dX12_wrongIn_135 : decode cX12_wrongIn 135 = .ok (.iload 6, 2) := by decide +kernel
theorem dX12_wrongIn_137 : decode cX12_wrongIn 137 = .ok (.iconst 1, 1) := by decide +kernel
theorem dX12_wrongIn_138 : decode cX12_wrongIn 138 = .ok (.if_icmp .ne 27, 3) := by decide +kernel
theorem dX12_wrongIn_141 : decode cX12_wrongIn 141 = .ok (.iload 4, 2) := by decide +kernel
theorem dX12_wrongIn_143 : decode cX12_wrongIn 143 = .ok (.iconst 3, 1) := by decide +kernel
theorem dX12_wrongIn_144 : decode cX12_wrongIn 144 = .ok (.if_icmp .ne 25, 3) := by decide +kernel
theorem dX12_wrongIn_147 : decode cX12_wrongIn 147 = .ok (.aload_n 0, 1) := by decide +kernel
theorem dX12_wrongIn_148 : decode cX12_wrongIn 148 = .ok (.getfield 42, 3) := by decide +kernel
theorem dX12_wrongIn_151 : decode cX12_wrongIn 151 = .ok (.aload_n 0, 1) := by decide +kernel
theorem dX12_wrongIn_152 : decode cX12_wrongIn 152 = .ok (.getfield 45, 3) := by decide +kernel
theorem dX12_wrongIn_155 : decode cX12_wrongIn 155 = .ok (.iload 5, 2) := by decide +kernel
theorem dX12_wrongIn_157 : decode cX12_wrongIn 157 = .ok (.iload_n 2, 1) := by decide +kernel
theorem dX12_wrongIn_158 : decode cX12_wrongIn 158 = .ok (.iload_n 3, 1) := by decide +kernel
theorem dX12_wrongIn_159 : decode cX12_wrongIn 159 = .ok (.invokestatic 252, 3) := by decide +kernel
theorem dX12_wrongIn_162 : decode cX12_wrongIn 162 = .ok (.ifCond .eq 7, 3) := by decide +kernel
theorem dX12_wrongIn_165 : decode cX12_wrongIn 165 = .ok (.iconst 1, 1) := by decide +kernel
theorem dX12_wrongIn_166 : decode cX12_wrongIn 166 = .ok (.goto 4, 3) := by decide +kernel
theorem dX12_wrongIn_169 : decode cX12_wrongIn 169 = .ok (.iconst 0, 1) := by decide +kernel
theorem dX12_wrongIn_170 : decode cX12_wrongIn 170 = .ok (.istore 7, 2) := by decide +kernel
theorem dX12_wrongIn_172 : decode cX12_wrongIn 172 = .ok (.iload 4, 2) := by decide +kernel
theorem dX12_wrongIn_174 : decode cX12_wrongIn 174 = .ok (.iconst 3, 1) := by decide +kernel
theorem dX12_wrongIn_175 : decode cX12_wrongIn 175 = .ok (.if_icmp .ne 35, 3) := by decide +kernel
theorem dX12_wrongIn_178 : decode cX12_wrongIn 178 = .ok (.iload 7, 2) := by decide +kernel
theorem dX12_wrongIn_180 : decode cX12_wrongIn 180 = .ok (.ifCond .eq 27, 3) := by decide +kernel
theorem dX12_wrongIn_183 : decode cX12_wrongIn 183 = .ok (.iload 6, 2) := by decide +kernel
theorem dX12_wrongIn_185 : decode cX12_wrongIn 185 = .ok (.iconst 4, 1) := by decide +kernel
theorem dX12_wrongIn_186 : decode cX12_wrongIn 186 = .ok (.if_icmp .eq 21, 3) := by decide +kernel
theorem dX12_wrongIn_189 : decode cX12_wrongIn 189 = .ok (.iload 6, 2) := by decide +kernel
theorem dX12_wrongIn_191 : decode cX12_wrongIn 191 = .ok (.bipush 6, 2) := by decide +kernel
theorem dX12_wrongIn_193 : decode cX12_wrongIn 193 = .ok (.if_icmp .eq 14, 3) := by decide +kernel
theorem dX12_wrongIn_196 : decode cX12_wrongIn 196 = .ok (.iload 6, 2) := by decide +kernel
theorem dX12_wrongIn_198 : decode cX12_wrongIn 198 = .ok (.bipush 8, 2) := by decide +kernel
theorem dX12_wrongIn_200 : decode cX12_wrongIn 200 = .ok (.if_icmp .eq 7, 3) := by decide +kernel
theorem dX12_wrongIn_203 : decode cX12_wrongIn 203 = .ok (.iconst 1, 1) := by decide +kernel
theorem dX12_wrongIn_204 : decode cX12_wrongIn 204 = .ok (.goto 4, 3) := by decide +kernel
theorem dX12_wrongIn_207 : decode cX12_wrongIn 207 = .ok (.iconst 0, 1) := by decide +kernel
theorem dX12_wrongIn_208 : decode cX12_wrongIn 208 = .ok (.istore 7, 2) := by decide +kernel
theorem dX12_wrongIn_210 : decode cX12_wrongIn 210 = .ok (.iload 4, 2) := by decide +kernel
theorem dX12_wrongIn_212 : decode cX12_wrongIn 212 = .ok (.iconst 2, 1) := by decide +kernel
theorem dX12_wrongIn_213 : decode cX12_wrongIn 213 = .ok (.if_icmp .ne 22, 3) := by decide +kernel
theorem dX12_wrongIn_216 : decode cX12_wrongIn 216 = .ok (.iload 7, 2) := by decide +kernel
theorem dX12_wrongIn_218 : decode cX12_wrongIn 218 = .ok (.ifCond .eq 14, 3) := by decide +kernel
theorem dX12_wrongIn_221 : decode cX12_wrongIn 221 = .ok (.iload 6, 2) := by decide +kernel
theorem dX12_wrongIn_223 : decode cX12_wrongIn 223 = .ok (.bipush 8, 2) := by decide +kernel
theorem dX12_wrongIn_225 : decode cX12_wrongIn 225 = .ok (.if_icmp .eq 7, 3) := by decide +kernel
theorem dX12_wrongIn_228 : decode cX12_wrongIn 228 = .ok (.iconst 1, 1) := by decide +kernel
theorem dX12_wrongIn_229 : decode cX12_wrongIn 229 = .ok (.goto 4, 3) := by decide +kernel
theorem dX12_wrongIn_232 : decode cX12_wrongIn 232 = .ok (.iconst 0, 1) := by decide +kernel
theorem dX12_wrongIn_233 : decode cX12_wrongIn 233 = .ok (.istore 7, 2) := by decide +kernel
theorem dX12_wrongIn_235 : decode cX12_wrongIn 235 = .ok (.iload 4, 2) := by decide +kernel
theorem dX12_wrongIn_237 : decode cX12_wrongIn 237 = .ok (.bipush 8, 2) := by decide +kernel
theorem dX12_wrongIn_239 : decode cX12_wrongIn 239 = .ok (.if_icmp .ne 38, 3) := by decide +kernel
theorem dX12_wrongIn_242 : decode cX12_wrongIn 242 = .ok (.iload 7, 2) := by decide +kernel
theorem dX12_wrongIn_244 : decode cX12_wrongIn 244 = .ok (.ifCond .eq 30, 3) := by decide +kernel
theorem dX12_wrongIn_247 : decode cX12_wrongIn 247 = .ok (.iload 6, 2) := by decide +kernel
theorem dX12_wrongIn_249 : decode cX12_wrongIn 249 = .ok (.bipush 8, 2) := by decide +kernel
theorem dX12_wrongIn_251 : decode cX12_wrongIn 251 = .ok (.if_icmp .ne 19, 3) := by decide +kernel
theorem dX12_wrongIn_254 : decode cX12_wrongIn 254 = .ok (.iload 5, 2) := by decide +kernel
theorem dX12_wrongIn_256 : decode cX12_wrongIn 256 = .ok (.aload_n 0, 1) := by decide +kernel
theorem dX12_wrongIn_257 : decode cX12_wrongIn 257 = .ok (.getfield 42, 3) := by decide +kernel
theorem dX12_wrongIn_260 : decode cX12_wrongIn 260 = .ok (.iload_n 2, 1) := by decide +kernel
theorem dX12_wrongIn_261 : decode cX12_wrongIn 261 = .ok (.iload_n 3, 1) := by decide +kernel
theorem dX12_wrongIn_262 : decode cX12_wrongIn 262 = .ok (.bipush 8, 2) := by decide +kernel
theorem dX12_wrongIn_264 : decode cX12_wrongIn 264 = .ok (.invokestatic 229, 3) := by decide +kernel
theorem dX12_wrongIn_267 : decode cX12_wrongIn 267 = .ok (.if_icmp .ne 7, 3) := by decide +kernel
theorem dX12_wrongIn_270 : decode cX12_wrongIn 270 = .ok (.iconst 1, 1) := by decide +kernel
theorem dX12_wrongIn_271 : decode cX12_wrongIn 271 = .ok (.goto 4, 3) := by decide +kernel
theorem dX12_wrongIn_274 : decode cX12_wrongIn 274 = .ok (.iconst 0, 1) := by decide +kernel
theorem dX12_wrongIn_275 : decode cX12_wrongIn 275 = .ok (.istore 7, 2) := by decide +kernel
theorem dX12_wrongIn_277 : decode cX12_wrongIn 277 = .ok (.iload 7, 2) := by decide +kernel
theorem dX12_wrongIn_279 : decode cX12_wrongIn 279 = .ok (.ifCond .ne 11, 3) := by decide +kernel
theorem dX12_wrongIn_282 : decode cX12_wrongIn 282 = .ok (.aload_n 0, 1) := by decide +kernel
theorem dX12_wrongIn_283 : decode cX12_wrongIn 283 = .ok (.getfield 51, 3) := by decide +kernel
theorem dX12_wrongIn_286 : decode cX12_wrongIn 286 = .ok (.iload 5, 2) := by decide +kernel
theorem dX12_wrongIn_288 : decode cX12_wrongIn 288 = .ok (.iaload, 1) := by decide +kernel
theorem dX12_wrongIn_289 : decode cX12_wrongIn 289 = .ok (.ireturn, 1) := by decide +kernel
theorem dX12_wrongIn_290 : decode cX12_wrongIn 290 = .ok (.iinc 5 1, 3) := by decide +kernel
theorem dX12_wrongIn_293 : decode cX12_wrongIn 293 = .ok (.goto (-256), 3) := by decide +kernel
theorem dX12_wrongIn_296 : decode cX12_wrongIn 296 = .ok (.iconst (-1), 1) := by decide +kernel
theorem dX12_wrongIn_297 : decode cX12_wrongIn 297 = .ok (.ireturn, 1) := by decide +kernel
theorem dX12_readAll_0 : decode cX12_readAll 0 = .ok (.aload_n 0, 1) := by decide +kernel
theorem dX12_readAll_1 : decode cX12_readAll 1 = .ok (.iconst 0, 1) := by decide +kernel
theorem dX12_readAll_2 : decode cX12_readAll 2 = .ok (.putfield 172, 3) := by decide +kernel
theorem dX12_readAll_5 : decode cX12_readAll 5 = .ok (.aload_n 0, 1) := by decide +kernel
theorem dX12_readAll_6 : decode cX12_readAll 6 = .ok (.iconst 0, 1) := by decide +kernel
theorem dX12_readAll_7 : decode cX12_readAll 7 = .ok (.putfield 188, 3) := by decide +kernel
theorem dX12_readAll_10 : decode cX12_readAll 10 = .ok (.iconst 0, 1) := by decide +kernel
theorem dX12_readAll_11 : decode cX12_readAll 11 = .ok (.istore_n 1, 1) := by decide +kernel
theorem dX12_readAll_12 : decode cX12_readAll 12 = .ok (.iload_n 1, 1) := by decide +kernel
theorem dX12_readAll_13 : decode cX12_readAll 13 = .ok (.bipush 8, 2) := by decide +kernel
theorem dX12_readAll_15 : decode cX12_readAll 15 = .ok (.if_icmp .ge 16, 3) := by decide +kernel
theorem dX12_readAll_18 : decode cX12_readAll 18 = .ok (.aload_n 0, 1) := by decide +kernel
theorem dX12_readAll_19 : decode cX12_readAll 19 = .ok (.getfield 54, 3) := by decide +kernel
theorem dX12_readAll_22 : decode cX12_readAll 22 = .ok (.iload_n 1, 1) := by decide +kernel
theorem dX12_readAll_23 : decode cX12_readAll 23 = .ok (.iconst 0, 1) := by decide +kernel
theorem dX12_readAll_24 : decode cX12_readAll 24 = .ok (.iastore, 1) := by decide +kernel
theorem dX12_readAll_25 : decode cX12_readAll 25 = .ok (.iinc 1 1, 3) := by decide +kernel
theorem dX12_readAll_28 : decode cX12_readAll 28 = .ok (.goto (-16), 3) := by decide +kernel
theorem dX12_readAll_31 : decode cX12_readAll 31 = .ok (.iconst 0, 1) := by decide +kernel
theorem dX12_readAll_32 : decode cX12_readAll 32 = .ok (.istore_n 1, 1) := by decide +kernel
theorem dX12_readAll_33 : decode cX12_readAll 33 = .ok (.iconst 0, 1) := by decide +kernel
theorem dX12_readAll_34 : decode cX12_readAll 34 = .ok (.istore_n 2, 1) := by decide +kernel
theorem dX12_readAll_35 : decode cX12_readAll 35 = .ok (.iload_n 2, 1) := by decide +kernel
theorem dX12_readAll_36 : decode cX12_readAll 36 = .ok (.aload_n 0, 1) := by decide +kernel
theorem dX12_readAll_37 : decode cX12_readAll 37 = .ok (.getfield 88, 3) := by decide +kernel
theorem dX12_readAll_40 : decode cX12_readAll 40 = .ok (.if_icmp .gt 145, 3) := by decide +kernel
theorem dX12_readAll_43 : decode cX12_readAll 43 = .ok (.iload_n 2, 1) := by decide +kernel
theorem dX12_readAll_44 : decode cX12_readAll 44 = .ok (.aload_n 0, 1) := by decide +kernel
theorem dX12_readAll_45 : decode cX12_readAll 45 = .ok (.getfield 88, 3) := by decide +kernel
theorem dX12_readAll_48 : decode cX12_readAll 48 = .ok (.if_icmp .eq 14, 3) := by decide +kernel
theorem dX12_readAll_51 : decode cX12_readAll 51 = .ok (.aload_n 0, 1) := by decide +kernel
theorem dX12_readAll_52 : decode cX12_readAll 52 = .ok (.getfield 13, 3) := by decide +kernel
theorem dX12_readAll_55 : decode cX12_readAll 55 = .ok (.iload_n 2, 1) := by decide +kernel
theorem dX12_readAll_56 : decode cX12_readAll 56 = .ok (.iaload, 1) := by decide +kernel
theorem dX12_readAll_57 : decode cX12_readAll 57 = .ok (.bipush 59, 2) := by decide +kernel
theorem dX12_readAll_59 : decode cX12_readAll 59 = .ok (.if_icmp .ne 62, 3) := by decide +kernel
theorem dX12_readAll_62 : decode cX12_readAll 62 = .ok (.aload_n 0, 1) := by decide +kernel
theorem dX12_readAll_63 : decode cX12_readAll 63 = .ok (.aload_n 0, 1) := by decide +kernel
theorem dX12_readAll_64 : decode cX12_readAll 64 = .ok (.getfield 188, 3) := by decide +kernel
theorem dX12_readAll_67 : decode cX12_readAll 67 = .ok (.iload_n 1, 1) := by decide +kernel
theorem dX12_readAll_68 : decode cX12_readAll 68 = .ok (.aload_n 0, 1) := by decide +kernel
theorem dX12_readAll_69 : decode cX12_readAll 69 = .ok (.getfield 172, 3) := by decide +kernel
theorem dX12_readAll_72 : decode cX12_readAll 72 = .ok (.invokevirtual 256, 3) := by decide +kernel
theorem dX12_readAll_75 : decode cX12_readAll 75 = .ok (.istore_n 3, 1) := by decide +kernel
theorem dX12_readAll_76 : decode cX12_readAll 76 = .ok (.iload_n 3, 1) := by decide +kernel
theorem dX12_readAll_77 : decode cX12_readAll 77 = .ok (.ifCond .lt 5, 3) := by decide +kernel
theorem dX12_readAll_80 : decode cX12_readAll 80 = .ok (.iload_n 3, 1) := by decide +kernel
theorem dX12_readAll_81 : decode cX12_readAll 81 = .ok (.ireturn, 1) := by decide +kernel
theorem dX12_readAll_82 : decode cX12_readAll 82 = .ok (.aload_n 0, 1) := by decide +kernel
theorem dX12_readAll_83 : decode cX12_readAll 83 = .ok (.dup, 1) := by decide +kernel
theorem dX12_readAll_84 : decode cX12_readAll 84 = .ok (.getfield 188, 3) := by decide +kernel
theorem dX12_readAll_87 : decode cX12_readAll 87 = .ok (.iconst 1, 1) := by decide +kernel
theorem dX12_readAll_88 : decode cX12_readAll 88 = .ok (.iadd, 1) := by decide +kernel
theorem dX12_readAll_89 : decode cX12_readAll 89 = .ok (.putfield 188, 3) := by decide +kernel
theorem dX12_readAll_92 : decode cX12_readAll 92 = .ok (.iload_n 2, 1) := by decide +kernel
theorem dX12_readAll_93 : decode cX12_readAll 93 = .ok (.aload_n 0, 1) := by decide +kernel
theorem dX12_readAll_94 : decode cX12_readAll 94 = .ok (.getfield 88, 3) := by decide +kernel
theorem dX12_readAll_97 : decode cX12_readAll 97 = .ok (.if_icmp .ge 13, 3) := by decide +kernel
theorem dX12_readAll_100 : decode cX12_readAll 100 = .ok (.aload_n 0, 1) := by decide +kernel
theorem dX12_readAll_101 : decode cX12_readAll 101 = .ok (.getfield 188, 3) := by decide +kernel
theorem dX12_readAll_104 : decode cX12_readAll 104 = .ok (.iconst 4, 1) := by decide +kernel
theorem dX12_readAll_105 : decode cX12_readAll 105 = .ok (.if_icmp .ne 5, 3) := by decide +kernel
theorem dX12_readAll_108 : decode cX12_readAll 108 = .ok (.iload_n 2, 1) := by decide +kernel
theorem dX12_readAll_109 : decode cX12_readAll 109 = .ok (.ireturn, 1) := by decide +kernel
theorem dX12_readAll_110 : decode cX12_readAll 110 = .ok (.aload_n 0, 1) := by decide +kernel
theorem dX12_readAll_111 : decode cX12_readAll 111 = .ok (.getfield 172, 3) := by decide +kernel
theorem dX12_readAll_114 : decode cX12_readAll 114 = .ok (.istore_n 1, 1) := by decide +kernel
theorem dX12_readAll_115 : decode cX12_readAll 115 = .ok (.iinc 2 1, 3) := by decide +kernel
theorem dX12_readAll_118 : decode cX12_readAll 118 = .ok (.goto (-83), 3) := by decide +kernel
theorem dX12_readAll_121 : decode cX12_readAll 121 = .ok (.aload_n 0, 1) := by decide +kernel
theorem dX12_readAll_122 : decode cX12_readAll 122 = .ok (.getfield 51, 3) := by decide +kernel
theorem dX12_readAll_125 : decode cX12_readAll 125 = .ok (.aload_n 0, 1) := by decide +kernel
theorem dX12_readAll_126 : decode cX12_readAll 126 = .ok (.getfield 172, 3) := by decide +kernel
theorem dX12_readAll_129 : decode cX12_readAll 129 = .ok (.iload_n 2, 1) := by decide +kernel
theorem dX12_readAll_130 : decode cX12_readAll 130 = .ok (.iastore, 1) := by decide +kernel
theorem dX12_readAll_131 : decode cX12_readAll 131 = .ok (.aload_n 0, 1) := by decide +kernel
theorem dX12_readAll_132 : decode cX12_readAll 132 = .ok (.getfield 48, 3) := by decide +kernel
theorem dX12_readAll_135 : decode cX12_readAll 135 = .ok (.aload_n 0, 1) := by decide +kernel
theorem dX12_readAll_136 : decode cX12_readAll 136 = .ok (.getfield 172, 3) := by decide +kernel
theorem dX12_readAll_139 : decode cX12_readAll 139 = .ok (.aload_n 0, 1) := by decide +kernel
theorem dX12_readAll_140 : decode cX12_readAll 140 = .ok (.getfield 188, 3) := by decide +kernel
theorem dX12_readAll_143 : decode cX12_readAll 143 = .ok (.iastore, 1) := by decide +kernel
theorem dX12_readAll_144 : decode cX12_readAll 144 = .ok (.aload_n 0, 1) := by decide +kernel
theorem dX12_readAll_145 : decode cX12_readAll 145 = .ok (.iload_n 2, 1) := by decide +kernel
theorem dX12_readAll_146 : decode cX12_readAll 146 = .ok (.invokevirtual 260, 3) := by decide +kernel
theorem dX12_readAll_149 : decode cX12_readAll 149 = .ok (.aload_n 0, 1) := by decide +kernel
theorem dX12_readAll_150 : decode cX12_readAll 150 = .ok (.dup, 1) := by decide +kernel
theorem dX12_readAll_151 : decode cX12_readAll 151 = .ok (.getfield 172, 3) := by decide +kernel
theorem dX12_readAll_154 : decode cX12_readAll 154 = .ok (.aload_n 0, 1) := by decide +kernel
theorem dX12_readAll_155 : decode cX12_readAll 155 = .ok (.getfield 42, 3) := by decide +kernel
theorem dX12_readAll_158 : decode cX12_readAll 158 = .ok (.aload_n 0, 1) := by decide +kernel
theorem dX12_readAll_159 : decode cX12_readAll 159 = .ok (.getfield 172, 3) := by decide +kernel
theorem dX12_readAll_162 : decode cX12_readAll 162 = .ok (.iaload, 1) := by decide +kernel
theorem dX12_readAll_163 : decode cX12_readAll 163 = .ok (.bipush 16, 2) := by decide +kernel
theorem dX12_readAll_165 : decode cX12_readAll 165 = .ok (.if_icmp .ne 7, 3) := by decide +kernel
theorem dX12_readAll_168 : decode cX12_readAll 168 = .ok (.iconst 0, 1) := by decide +kernel
theorem dX12_readAll_169 : decode cX12_readAll 169 = .ok (.goto 4, 3) := by decide +kernel
theorem dX12_readAll_172 : decode cX12_readAll 172 = .ok (.iconst 1, 1) := by decide +kernel
theorem dX12_readAll_173 : decode cX12_readAll 173 = .ok (.iadd, 1) := by decide +kernel
theorem dX12_readAll_174 : decode cX12_readAll 174 = .ok (.putfield 172, 3) := by decide +kernel
theorem dX12_readAll_177 : decode cX12_readAll 177 = .ok (.aload_n 0, 1) := by decide +kernel
theorem dX12_readAll_178 : decode cX12_readAll 178 = .ok (.getfield 175, 3) := by decide +kernel
theorem dX12_readAll_181 : decode cX12_readAll 181 = .ok (.istore_n 2, 1) := by decide +kernel
theorem dX12_readAll_182 : decode cX12_readAll 182 = .ok (.goto (-147), 3) := by decide +kernel
theorem dX12_readAll_185 : decode cX12_readAll 185 = .ok (.iconst (-1), 1) := by decide +kernel
theorem dX12_readAll_186 : decode cX12_readAll 186 = .ok (.ireturn, 1) := by decide +kernel
theorem dX12_format_0 : decode cX12_format 0 = .ok (.aload_n 0, 1) := by decide +kernel
theorem dX12_format_1 : decode cX12_format 1 = .ok (.aload_n 0, 1) := by decide +kernel
theorem dX12_format_2 : decode cX12_format 2 = .ok (.invokevirtual 263, 3) := by decide +kernel
theorem dX12_format_5 : decode cX12_format 5 = .ok (.putfield 19, 3) := by decide +kernel
theorem dX12_format_8 : decode cX12_format 8 = .ok (.aload_n 0, 1) := by decide +kernel
theorem dX12_format_9 : decode cX12_format 9 = .ok (.aload_n 0, 1) := by decide +kernel
theorem dX12_format_10 : decode cX12_format 10 = .ok (.getfield 19, 3) := by decide +kernel
theorem dX12_format_13 : decode cX12_format 13 = .ok (.ifCond .lt 7, 3) := by decide +kernel
theorem dX12_format_16 : decode cX12_format 16 = .ok (.iconst 1, 1) := by decide +kernel
theorem dX12_format_17 : decode cX12_format 17 = .ok (.goto 4, 3) := by decide +kernel
theorem dX12_format_20 : decode cX12_format 20 = .ok (.iconst 0, 1) := by decide +kernel
theorem dX12_format_21 : decode cX12_format 21 = .ok (.putfield 78, 3) := by decide +kernel
theorem dX12_format_24 : decode cX12_format 24 = .ok (.aload_n 0, 1) := by decide +kernel
theorem dX12_format_25 : decode cX12_format 25 = .ok (.getfield 78, 3) := by decide +kernel
theorem dX12_format_28 : decode cX12_format 28 = .ok (.ifCond .eq 5, 3) := by decide +kernel
theorem dX12_format_31 : decode cX12_format 31 = .ok (.iconst 0, 1) := by decide +kernel
theorem dX12_format_32 : decode cX12_format 32 = .ok (.ireturn, 1) := by decide +kernel
theorem dX12_format_33 : decode cX12_format 33 = .ok (.aload_n 0, 1) := by decide +kernel
theorem dX12_format_34 : decode cX12_format 34 = .ok (.aload_n 0, 1) := by decide +kernel
theorem dX12_format_35 : decode cX12_format 35 = .ok (.getfield 188, 3) := by decide +kernel
theorem dX12_format_38 : decode cX12_format 38 = .ok (.putfield 267, 3) := by decide +kernel
theorem dX12_format_41 : decode cX12_format 41 = .ok (.aload_n 0, 1) := by decide +kernel
theorem dX12_format_42 : decode cX12_format 42 = .ok (.aload_n 0, 1) := by decide +kernel
theorem dX12_format_43 : decode cX12_format 43 = .ok (.getfield 172, 3) := by decide +kernel
theorem dX12_format_46 : decode cX12_format 46 = .ok (.putfield 270, 3) := by decide +kernel
theorem dX12_format_49 : decode cX12_format 49 = .ok (.iconst 0, 1) := by decide +kernel
theorem dX12_format_50 : decode cX12_format 50 = .ok (.istore_n 1, 1) := by decide +kernel
theorem dX12_format_51 : decode cX12_format 51 = .ok (.iload_n 1, 1) := by decide +kernel
theorem dX12_format_52 : decode cX12_format 52 = .ok (.aload_n 0, 1) := by decide +kernel
theorem dX12_format_53 : decode cX12_format 53 = .ok (.getfield 270, 3) := by decide +kernel
theorem dX12_format_56 : decode cX12_format 56 = .ok (.if_icmp .ge 45, 3) := by decide +kernel
theorem dX12_format_59 : decode cX12_format 59 = .ok (.aload_n 0, 1) := by decide +kernel
theorem dX12_format_60 : decode cX12_format 60 = .ok (.getfield 26, 3) := by decide +kernel
theorem dX12_format_63 : decode cX12_format 63 = .ok (.iload_n 1, 1) := by decide +kernel
theorem dX12_format_64 : decode cX12_format 64 = .ok (.aload_n 0, 1) := by decide +kernel
theorem dX12_format_65 : decode cX12_format 65 = .ok (.getfield 42, 3) := by decide +kernel
theorem dX12_format_68 : decode cX12_format 68 = .ok (.iload_n 1, 1) := by decide +kernel
theorem dX12_format_69 : decode cX12_format 69 = .ok (.iaload, 1) := by decide +kernel
theorem dX12_format_70 : decode cX12_format 70 = .ok (.iastore, 1) := by decide +kernel
theorem dX12_format_71 : decode cX12_format 71 = .ok (.aload_n 0, 1) := by decide +kernel
theorem dX12_format_72 : decode cX12_format 72 = .ok (.getfield 29, 3) := by decide +kernel
theorem dX12_format_75 : decode cX12_format 75 = .ok (.iload_n 1, 1) := by decide +kernel
theorem dX12_format_76 : decode cX12_format 76 = .ok (.aload_n 0, 1) := by decide +kernel
theorem dX12_format_77 : decode cX12_format 77 = .ok (.getfield 45, 3) := by decide +kernel
theorem dX12_format_80 : decode cX12_format 80 = .ok (.iload_n 1, 1) := by decide +kernel
theorem dX12_format_81 : decode cX12_format 81 = .ok (.iaload, 1) := by decide +kernel
theorem dX12_format_82 : decode cX12_format 82 = .ok (.iastore, 1) := by decide +kernel
theorem dX12_format_83 : decode cX12_format 83 = .ok (.aload_n 0, 1) := by decide +kernel
theorem dX12_format_84 : decode cX12_format 84 = .ok (.getfield 32, 3) := by decide +kernel
theorem dX12_format_87 : decode cX12_format 87 = .ok (.iload_n 1, 1) := by decide +kernel
theorem dX12_format_88 : decode cX12_format 88 = .ok (.aload_n 0, 1) := by decide +kernel
theorem dX12_format_89 : decode cX12_format 89 = .ok (.getfield 48, 3) := by decide +kernel
theorem dX12_format_92 : decode cX12_format 92 = .ok (.iload_n 1, 1) := by decide +kernel
theorem dX12_format_93 : decode cX12_format 93 = .ok (.iaload, 1) := by decide +kernel
theorem dX12_format_94 : decode cX12_format 94 = .ok (.iastore, 1) := by decide +kernel
theorem dX12_format_95 : decode cX12_format 95 = .ok (.iinc 1 1, 3) := by decide +kernel
theorem dX12_format_98 : decode cX12_format 98 = .ok (.goto (-47), 3) := by decide +kernel
theorem dX12_format_101 : decode cX12_format 101 = .ok (.iconst 0, 1) := by decide +kernel
theorem dX12_format_102 : decode cX12_format 102 = .ok (.istore_n 1, 1) := by decide +kernel
theorem dX12_format_103 : decode cX12_format 103 = .ok (.iload_n 1, 1) := by decide +kernel
theorem dX12_format_104 : decode cX12_format 104 = .ok (.iconst 4, 1) := by decide +kernel
theorem dX12_format_105 : decode cX12_format 105 = .ok (.if_icmp .ge 33, 3) := by decide +kernel
theorem dX12_format_108 : decode cX12_format 108 = .ok (.aload_n 0, 1) := by decide +kernel
theorem dX12_format_109 : decode cX12_format 109 = .ok (.getfield 35, 3) := by decide +kernel
theorem dX12_format_112 : decode cX12_format 112 = .ok (.iload_n 1, 1) := by decide +kernel
theorem dX12_format_113 : decode cX12_format 113 = .ok (.aload_n 0, 1) := by decide +kernel
theorem dX12_format_114 : decode cX12_format 114 = .ok (.getfield 54, 3) := by decide +kernel
theorem dX12_format_117 : decode cX12_format 117 = .ok (.iload_n 1, 1) := by decide +kernel
theorem dX12_format_118 : decode cX12_format 118 = .ok (.iaload, 1) := by decide +kernel
theorem dX12_format_119 : decode cX12_format 119 = .ok (.iastore, 1) := by decide +kernel
theorem dX12_format_120 : decode cX12_format 120 = .ok (.aload_n 0, 1) := by decide +kernel
theorem dX12_format_121 : decode cX12_format 121 = .ok (.getfield 38, 3) := by decide +kernel
theorem dX12_format_124 : decode cX12_format 124 = .ok (.iload_n 1, 1) := by decide +kernel
theorem dX12_format_125 : decode cX12_format 125 = .ok (.aload_n 0, 1) := by decide +kernel
theorem dX12_format_126 : decode cX12_format 126 = .ok (.getfield 57, 3) := by decide +kernel
theorem dX12_format_129 : decode cX12_format 129 = .ok (.iload_n 1, 1) := by decide +kernel
theorem dX12_format_130 : decode cX12_format 130 = .ok (.daload, 1) := by decide +kernel
theorem dX12_format_131 : decode cX12_format 131 = .ok (.dastore, 1) := by decide +kernel
theorem dX12_format_132 : decode cX12_format 132 = .ok (.iinc 1 1, 3) := by decide +kernel
theorem dX12_format_135 : decode cX12_format 135 = .ok (.goto (-32), 3) := by decide +kernel
theorem dX12_format_138 : decode cX12_format 138 = .ok (.iconst 0, 1) := by decide +kernel
theorem dX12_format_139 : decode cX12_format 139 = .ok (.istore_n 1, 1) := by decide +kernel
theorem dX12_format_140 : decode cX12_format 140 = .ok (.iload_n 1, 1) := by decide +kernel
theorem dX12_format_141 : decode cX12_format 141 = .ok (.aload_n 0, 1) := by decide +kernel
theorem dX12_format_142 : decode cX12_format 142 = .ok (.getfield 88, 3) := by decide +kernel
theorem dX12_format_145 : decode cX12_format 145 = .ok (.if_icmp .ge 21, 3) := by decide +kernel
theorem dX12_format_148 : decode cX12_format 148 = .ok (.aload_n 0, 1) := by decide +kernel
theorem dX12_format_149 : decode cX12_format 149 = .ok (.getfield 23, 3) := by decide +kernel
theorem dX12_format_152 : decode cX12_format 152 = .ok (.iload_n 1, 1) := by decide +kernel
theorem dX12_format_153 : decode cX12_format 153 = .ok (.aload_n 0, 1) := by decide +kernel
theorem dX12_format_154 : decode cX12_format 154 = .ok (.getfield 13, 3) := by decide +kernel
theorem dX12_format_157 : decode cX12_format 157 = .ok (.iload_n 1, 1) := by decide +kernel
theorem dX12_format_158 : decode cX12_format 158 = .ok (.iaload, 1) := by decide +kernel
theorem dX12_format_159 : decode cX12_format 159 = .ok (.iastore, 1) := by decide +kernel
theorem dX12_format_160 : decode cX12_format 160 = .ok (.iinc 1 1, 3) := by decide +kernel
theorem dX12_format_163 : decode cX12_format 163 = .ok (.goto (-23), 3) := by decide +kernel
theorem dX12_format_166 : decode cX12_format 166 = .ok (.aload_n 0, 1) := by decide +kernel
theorem dX12_format_167 : decode cX12_format 167 = .ok (.getfield 267, 3) := by decide +kernel
theorem dX12_format_170 : decode cX12_format 170 = .ok (.ireturn, 1) := by decide +kernel
theorem dX12_illAt_0 : decode cX12_illAt 0 = .ok (.aload_n 0, 1) := by decide +kernel
theorem dX12_illAt_1 : decode cX12_illAt 1 = .ok (.iconst 0, 1) := by decide +kernel
theorem dX12_illAt_2 : decode cX12_illAt 2 = .ok (.putfield 78, 3) := by decide +kernel
theorem dX12_illAt_5 : decode cX12_illAt 5 = .ok (.aload_n 0, 1) := by decide +kernel
theorem dX12_illAt_6 : decode cX12_illAt 6 = .ok (.getfield 19, 3) := by decide +kernel
theorem dX12_illAt_9 : decode cX12_illAt 9 = .ok (.ireturn, 1) := by decide +kernel
theorem dX12_show_0 : decode cX12_show 0 = .ok (.aload_n 0, 1) := by decide +kernel
theorem dX12_show_1 : decode cX12_show 1 = .ok (.aload_n 0, 1) := by decide +kernel
theorem dX12_show_2 : decode cX12_show 2 = .ok (.getfield 267, 3) := by decide +kernel
theorem dX12_show_5 : decode cX12_show 5 = .ok (.ifCond .le 7, 3) := by decide +kernel
theorem dX12_show_8 : decode cX12_show 8 = .ok (.iconst 0, 1) := by decide +kernel
theorem dX12_show_9 : decode cX12_show 9 = .ok (.goto 4, 3) := by decide +kernel
theorem dX12_show_12 : decode cX12_show 12 = .ok (.iconst 1, 1) := by decide +kernel
theorem dX12_show_13 : decode cX12_show 13 = .ok (.putfield 78, 3) := by decide +kernel
theorem dX12_show_16 : decode cX12_show 16 = .ok (.aload_n 0, 1) := by decide +kernel
theorem dX12_show_17 : decode cX12_show 17 = .ok (.getfield 78, 3) := by decide +kernel
theorem dX12_show_20 : decode cX12_show 20 = .ok (.ifCond .eq 5, 3) := by decide +kernel
theorem dX12_show_23 : decode cX12_show 23 = .ok (.iconst 0, 1) := by decide +kernel
theorem dX12_show_24 : decode cX12_show 24 = .ok (.ireturn, 1) := by decide +kernel
theorem dX12_show_25 : decode cX12_show 25 = .ok (.aload_n 0, 1) := by decide +kernel
theorem dX12_show_26 : decode cX12_show 26 = .ok (.iconst 0, 1) := by decide +kernel
theorem dX12_show_27 : decode cX12_show 27 = .ok (.putfield 273, 3) := by decide +kernel
theorem dX12_show_30 : decode cX12_show 30 = .ok (.aload_n 0, 1) := by decide +kernel
theorem dX12_show_31 : decode cX12_show 31 = .ok (.invokevirtual 455, 3) := by decide +kernel
theorem dX12_show_34 : decode cX12_show 34 = .ok (.istore_n 1, 1) := by decide +kernel
theorem dX12_show_35 : decode cX12_show 35 = .ok (.aload_n 0, 1) := by decide +kernel
theorem dX12_show_36 : decode cX12_show 36 = .ok (.getfield 95, 3) := by decide +kernel
theorem dX12_show_39 : decode cX12_show 39 = .ok (.dconst 0, 1) := by decide +kernel
theorem dX12_show_40 : decode cX12_show 40 = .ok (.dcmp .g, 1) := by decide +kernel
theorem dX12_show_41 : decode cX12_show 41 = .ok (.ifCond .ge 30, 3) := by decide +kernel
theorem dX12_show_44 : decode cX12_show 44 = .ok (.iload_n 1, 1) := by decide +kernel
theorem dX12_show_45 : decode cX12_show 45 = .ok (.iconst 1, 1) := by decide +kernel
theorem dX12_show_46 : decode cX12_show 46 = .ok (.if_icmp .ne 21, 3) := by decide +kernel
theorem dX12_show_49 : decode cX12_show 49 = .ok (.aload_n 0, 1) := by decide +kernel
theorem dX12_show_50 : decode cX12_show 50 = .ok (.getfield 35, 3) := by decide +kernel
theorem dX12_show_53 : decode cX12_show 53 = .ok (.iconst 0, 1) := by decide +kernel
theorem dX12_show_54 : decode cX12_show 54 = .ok (.iaload, 1) := by decide +kernel
theorem dX12_show_55 : decode cX12_show 55 = .ok (.ifCond .gt 12, 3) := by decide +kernel
theorem dX12_show_58 : decode cX12_show 58 = .ok (.aload_n 0, 1) := by decide +kernel
theorem dX12_show_59 : decode cX12_show 59 = .ok (.getfield 35, 3) := by decide +kernel
theorem dX12_show_62 : decode cX12_show 62 = .ok (.iconst 1, 1) := by decide +kernel
theorem dX12_show_63 : decode cX12_show 63 = .ok (.iaload, 1) := by decide +kernel
theorem dX12_show_64 : decode cX12_show 64 = .ok (.ifCond .le 7, 3) := by decide +kernel
theorem dX12_show_67 : decode cX12_show 67 = .ok (.iconst 1, 1) := by decide +kernel
theorem dX12_show_68 : decode cX12_show 68 = .ok (.goto 4, 3) := by decide +kernel
theorem dX12_show_71 : decode cX12_show 71 = .ok (.iconst 0, 1) := by decide +kernel
theorem dX12_show_72 : decode cX12_show 72 = .ok (.istore_n 2, 1) := by decide +kernel
theorem dX12_show_73 : decode cX12_show 73 = .ok (.iload_n 1, 1) := by decide +kernel
theorem dX12_show_74 : decode cX12_show 74 = .ok (.ifCond .ge 7, 3) := by decide +kernel
theorem dX12_show_77 : decode cX12_show 77 = .ok (.iconst 0, 1) := by decide +kernel
theorem dX12_show_78 : decode cX12_show 78 = .ok (.goto 8, 3) := by decide +kernel
theorem dX12_show_81 : decode cX12_show 81 = .ok (.aload_n 0, 1) := by decide +kernel
theorem dX12_show_82 : decode cX12_show 82 = .ok (.iload_n 1, 1) := by decide +kernel
theorem dX12_show_83 : decode cX12_show 83 = .ok (.invokevirtual 458, 3) := by decide +kernel
theorem dX12_show_86 : decode cX12_show 86 = .ok (.istore_n 3, 1) := by decide +kernel
theorem dX12_show_87 : decode cX12_show 87 = .ok (.iload_n 1, 1) := by decide +kernel
theorem dX12_show_88 : decode cX12_show 88 = .ok (.ifCond .ge 7, 3) := by decide +kernel
theorem dX12_show_91 : decode cX12_show 91 = .ok (.iconst 0, 1) := by decide +kernel
theorem dX12_show_92 : decode cX12_show 92 = .ok (.goto 10, 3) := by decide +kernel
theorem dX12_show_95 : decode cX12_show 95 = .ok (.aload_n 0, 1) := by decide +kernel
theorem dX12_show_96 : decode cX12_show 96 = .ok (.iload_n 1, 1) := by decide +kernel
theorem dX12_show_97 : decode cX12_show 97 = .ok (.iconst 1, 1) := by decide +kernel
theorem dX12_show_98 : decode cX12_show 98 = .ok (.iadd, 1) := by decide +kernel
theorem dX12_show_99 : decode cX12_show 99 = .ok (.invokevirtual 458, 3) := by decide +kernel
theorem dX12_show_102 : decode cX12_show 102 = .ok (.istore 4, 2) := by decide +kernel
theorem dX12_show_104 : decode cX12_show 104 = .ok (.iload_n 1, 1) := by decide +kernel
theorem dX12_show_105 : decode cX12_show 105 = .ok (.ifCond .ge 8, 3) := by decide +kernel
theorem dX12_show_108 : decode cX12_show 108 = .ok (.bipush 8, 2) := by decide +kernel
theorem dX12_show_110 : decode cX12_show 110 = .ok (.goto 13, 3) := by decide +kernel
theorem dX12_show_113 : decode cX12_show 113 = .ok (.aload_n 0, 1) := by decide +kernel
theorem dX12_show_114 : decode cX12_show 114 = .ok (.getfield 26, 3) := by decide +kernel
theorem dX12_show_117 : decode cX12_show 117 = .ok (.iload_n 3, 1) := by decide +kernel
theorem dX12_show_118 : decode cX12_show 118 = .ok (.iload 4, 2) := by decide +kernel
theorem dX12_show_120 : decode cX12_show 120 = .ok (.invokestatic 245, 3) := by decide +kernel
theorem dX12_show_123 : decode cX12_show 123 = .ok (.istore 5, 2) := by decide +kernel
theorem dX12_show_125 : decode cX12_show 125 = .ok (.iload 5, 2) := by decide +kernel
theorem dX12_show_127 : decode cX12_show 127 = .ok (.iconst 1, 1) := by decide +kernel
theorem dX12_show_128 : decode cX12_show 128 = .ok (.if_icmp .ne 20, 3) := by decide +kernel
theorem dX12_show_131 : decode cX12_show 131 = .ok (.aload_n 0, 1) := by decide +kernel
theorem dX12_show_132 : decode cX12_show 132 = .ok (.getfield 26, 3) := by decide +kernel
theorem dX12_show_135 : decode cX12_show 135 = .ok (.iload_n 3, 1) := by decide +kernel
theorem dX12_show_136 : decode cX12_show 136 = .ok (.iload 4, 2) := by decide +kernel
theorem dX12_show_138 : decode cX12_show 138 = .ok (.invokestatic 233, 3) := by decide +kernel
theorem dX12_show_141 : decode cX12_show 141 = .ok (.ifCond .eq 7, 3) := by decide +kernel
theorem dX12_show_144 : decode cX12_show 144 = .ok (.iconst 1, 1) := by decide +kernel
theorem dX12_show_145 : decode cX12_show 145 = .ok (.goto 4, 3) := by decide +kernel
theorem dX12_show_148 : decode cX12_show 148 = .ok (.iconst 0, 1) := by decide +kernel
theorem dX12_show_149 : decode cX12_show 149 = .ok (.istore 6, 2) := by decide +kernel
theorem dX12_show_151 : decode cX12_show 151 = .ok (.iload_n 1, 1) := by decide +kernel
theorem dX12_show_152 : decode cX12_show 152 = .ok (.ifCond .lt 22, 3) := by decide +kernel
theorem dX12_show_155 : decode cX12_show 155 = .ok (.iload 6, 2) := by decide +kernel
theorem dX12_show_157 : decode cX12_show 157 = .ok (.ifCond .eq 21, 3) := by decide +kernel
theorem dX12_show_160 : decode cX12_show 160 = .ok (.aload_n 0, 1) := by decide +kernel
theorem dX12_show_161 : decode cX12_show 161 = .ok (.getfield 95, 3) := by decide +kernel
theorem dX12_show_164 : decode cX12_show 164 = .ok (.invokestatic 138, 3) := by decide +kernel
theorem dX12_show_167 : decode cX12_show 167 = .ok (.ldc2_w 461, 3) := by decide +kernel
theorem dX12_show_170 : decode cX12_show 170 = .ok (.dcmp .l, 1) := by decide +kernel
theorem dX12_show_171 : decode cX12_show 171 = .ok (.ifCond .lt 7, 3) := by decide +kernel
theorem dX12_show_174 : decode cX12_show 174 = .ok (.iconst 1, 1) := by decide +kernel
theorem dX12_show_175 : decode cX12_show 175 = .ok (.goto 4, 3) := by decide +kernel
theorem dX12_show_178 : decode cX12_show 178 = .ok (.iconst 0, 1) := by decide +kernel
theorem dX12_show_179 : decode cX12_show 179 = .ok (.istore 7, 2) := by decide +kernel
theorem dX12_show_181 : decode cX12_show 181 = .ok (.iload 7, 2) := by decide +kernel
theorem dX12_show_183 : decode cX12_show 183 = .ok (.ifCond .eq 25, 3) := by decide +kernel
theorem dX12_show_186 : decode cX12_show 186 = .ok (.aload_n 0, 1) := by decide +kernel
theorem dX12_show_187 : decode cX12_show 187 = .ok (.getfield 95, 3) := by decide +kernel
theorem dX12_show_190 : decode cX12_show 190 = .ok (.dconst 0, 1) := by decide +kernel
theorem dX12_show_191 : decode cX12_show 191 = .ok (.dcmp .g, 1) := by decide +kernel
theorem dX12_show_192 : decode cX12_show 192 = .ok (.ifCond .ge 9, 3) := by decide +kernel
theorem dX12_show_195 : decode cX12_show 195 = .ok (.aload_n 0, 1) := by decide +kernel
theorem dX12_show_196 : decode cX12_show 196 = .ok (.bipush 45, 2) := by decide +kernel
theorem dX12_show_198 : decode cX12_show 198 = .ok (.invokevirtual 278, 3) := by decide +kernel
theorem dX12_show_201 : decode cX12_show 201 = .ok (.aload_n 0, 1) := by decide +kernel
theorem dX12_show_202 : decode cX12_show 202 = .ok (.invokevirtual 452, 3) := by decide +kernel
theorem dX12_show_205 : decode cX12_show 205 = .ok (.goto 75, 3) := by decide +kernel
theorem dX12_show_208 : decode cX12_show 208 = .ok (.iload 6, 2) := by decide +kernel
theorem dX12_show_210 : decode cX12_show 210 = .ok (.ifCond .eq 14, 3) := by decide +kernel
theorem dX12_show_213 : decode cX12_show 213 = .ok (.aload_n 0, 1) := by decide +kernel
theorem dX12_show_214 : decode cX12_show 214 = .ok (.iload_n 3, 1) := by decide +kernel
theorem dX12_show_215 : decode cX12_show 215 = .ok (.iload 4, 2) := by decide +kernel
theorem dX12_show_217 : decode cX12_show 217 = .ok (.iload_n 2, 1) := by decide +kernel
theorem dX12_show_218 : decode cX12_show 218 = .ok (.invokevirtual 463, 3) := by decide +kernel
theorem dX12_show_221 : decode cX12_show 221 = .ok (.goto 59, 3) := by decide +kernel
theorem dX12_show_224 : decode cX12_show 224 = .ok (.iload 5, 2) := by decide +kernel
theorem dX12_show_226 : decode cX12_show 226 = .ok (.iconst 1, 1) := by decide +kernel
theorem dX12_show_227 : decode cX12_show 227 = .ok (.if_icmp .ne 14, 3) := by decide +kernel
theorem dX12_show_230 : decode cX12_show 230 = .ok (.aload_n 0, 1) := by decide +kernel
theorem dX12_show_231 : decode cX12_show 231 = .ok (.iload_n 3, 1) := by decide +kernel
theorem dX12_show_232 : decode cX12_show 232 = .ok (.iload 4, 2) := by decide +kernel
theorem dX12_show_234 : decode cX12_show 234 = .ok (.iload_n 2, 1) := by decide +kernel
theorem dX12_show_235 : decode cX12_show 235 = .ok (.invokevirtual 466, 3) := by decide +kernel
theorem dX12_show_238 : decode cX12_show 238 = .ok (.goto 42, 3) := by decide +kernel
theorem dX12_show_241 : decode cX12_show 241 = .ok (.iload 5, 2) := by decide +kernel
theorem dX12_show_243 : decode cX12_show 243 = .ok (.iconst 3, 1) := by decide +kernel
theorem dX12_show_244 : decode cX12_show 244 = .ok (.if_icmp .ne 13, 3) := by decide +kernel
theorem dX12_show_247 : decode cX12_show 247 = .ok (.aload_n 0, 1) := by decide +kernel
theorem dX12_show_248 : decode cX12_show 248 = .ok (.iload_n 3, 1) := by decide +kernel
theorem dX12_show_249 : decode cX12_show 249 = .ok (.iload 4, 2) := by decide +kernel
theorem dX12_show_251 : decode cX12_show 251 = .ok (.invokevirtual 469, 3) := by decide +kernel
theorem dX12_show_254 : decode cX12_show 254 = .ok (.goto 26, 3) := by decide +kernel
theorem dX12_show_257 : decode cX12_show 257 = .ok (.iload_n 2, 1) := by decide +kernel
theorem dX12_show_258 : decode cX12_show 258 = .ok (.ifCond .eq 14, 3) := by decide +kernel
theorem dX12_show_261 : decode cX12_show 261 = .ok (.iload 5, 2) := by decide +kernel
theorem dX12_show_263 : decode cX12_show 263 = .ok (.ifCond .eq 9, 3) := by decide +kernel
theorem dX12_show_266 : decode cX12_show 266 = .ok (.aload_n 0, 1) := by decide +kernel
theorem dX12_show_267 : decode cX12_show 267 = .ok (.bipush 45, 2) := by decide +kernel
theorem dX12_show_269 : decode cX12_show 269 = .ok (.invokevirtual 278, 3) := by decide +kernel
theorem dX12_show_272 : decode cX12_show 272 = .ok (.aload_n 0, 1) := by decide +kernel
theorem dX12_show_273 : decode cX12_show 273 = .ok (.iload_n 3, 1) := by decide +kernel
theorem dX12_show_274 : decode cX12_show 274 = .ok (.iload 4, 2) := by decide +kernel
theorem dX12_show_276 : decode cX12_show 276 = .ok (.iconst 0, 1) := by decide +kernel
theorem dX12_show_277 : decode cX12_show 277 = .ok (.invokevirtual 472, 3) := by decide +kernel
theorem dX12_show_280 : decode cX12_show 280 = .ok (.aload_n 0, 1) := by decide +kernel
theorem dX12_show_281 : decode cX12_show 281 = .ok (.getfield 273, 3) := by decide +kernel
theorem dX12_show_284 : decode cX12_show 284 = .ok (.ireturn, 1) := by decide +kernel
theorem dX12_showText_0 : decode cX12_showText 0 = .ok (.aload_n 0, 1) := by decide +kernel
theorem dX12_showText_1 : decode cX12_showText 1 = .ok (.aload_n 0, 1) := by decide +kernel
theorem dX12_showText_2 : decode cX12_showText 2 = .ok (.getfield 267, 3) := by decide +kernel
theorem dX12_showText_5 : decode cX12_showText 5 = .ok (.ifCond .le 7, 3) := by decide +kernel
theorem dX12_showText_8 : decode cX12_showText 8 = .ok (.iconst 0, 1) := by decide +kernel
theorem dX12_showText_9 : decode cX12_showText 9 = .ok (.goto 4, 3) := by decide +kernel
theorem dX12_showText_12 : decode cX12_showText 12 = .ok (.iconst 1, 1) := by decide +kernel
theorem dX12_showText_13 : decode cX12_showText 13 = .ok (.putfield 78, 3) := by decide +kernel
theorem dX12_showText_16 : decode cX12_showText 16 = .ok (.aload_n 0, 1) := by decide +kernel
theorem dX12_showText_17 : decode cX12_showText 17 = .ok (.getfield 78, 3) := by decide +kernel
theorem dX12_showText_20 : decode cX12_showText 20 = .ok (.ifCond .eq 5, 3) := by decide +kernel
theorem dX12_showText_23 : decode cX12_showText 23 = .ok (.iconst 0, 1) := by decide +kernel
theorem dX12_showText_24 : decode cX12_showText 24 = .ok (.ireturn, 1) := by decide +kernel
theorem dX12_showText_25 : decode cX12_showText 25 = .ok (.aload_n 0, 1) := by decide +kernel
theorem dX12_showText_26 : decode cX12_showText 26 = .ok (.iconst 0, 1) := by decide +kernel
theorem dX12_showText_27 : decode cX12_showText 27 = .ok (.putfield 273, 3) := by decide +kernel
theorem dX12_showText_30 : decode cX12_showText 30 = .ok (.aload_n 0, 1) := by decide +kernel
theorem dX12_showText_31 : decode cX12_showText 31 = .ok (.getfield 267, 3) := by decide +kernel
theorem dX12_showText_34 : decode cX12_showText 34 = .ok (.iconst 4, 1) := by decide +kernel
theorem dX12_showText_35 : decode cX12_showText 35 = .ok (.if_icmp .ne 11, 3) := by decide +kernel
theorem dX12_showText_38 : decode cX12_showText 38 = .ok (.aload_n 0, 1) := by decide +kernel
theorem dX12_showText_39 : decode cX12_showText 39 = .ok (.iconst 3, 1) := by decide +kernel
theorem dX12_showText_40 : decode cX12_showText 40 = .ok (.invokevirtual 458, 3) := by decide +kernel
theorem dX12_showText_43 : decode cX12_showText 43 = .ok (.goto 4, 3) := by decide +kernel
theorem dX12_showText_46 : decode cX12_showText 46 = .ok (.iconst 0, 1) := by decide +kernel
theorem dX12_showText_47 : decode cX12_showText 47 = .ok (.istore_n 1, 1) := by decide +kernel
theorem dX12_showText_48 : decode cX12_showText 48 = .ok (.aload_n 0, 1) := by decide +kernel
theorem dX12_showText_49 : decode cX12_showText 49 = .ok (.getfield 267, 3) := by decide +kernel
theorem dX12_showText_52 : decode cX12_showText 52 = .ok (.iconst 4, 1) := by decide +kernel
theorem dX12_showText_53 : decode cX12_showText 53 = .ok (.if_icmp .ne 10, 3) := by decide +kernel
theorem dX12_showText_56 : decode cX12_showText 56 = .ok (.aload_n 0, 1) := by decide +kernel
theorem dX12_showText_57 : decode cX12_showText 57 = .ok (.getfield 270, 3) := by decide +kernel
theorem dX12_showText_60 : decode cX12_showText 60 = .ok (.goto 8, 3) := by decide +kernel
theorem dX12_showText_63 : decode cX12_showText 63 = .ok (.aload_n 0, 1) := by decide +kernel
theorem dX12_showText_64 : decode cX12_showText 64 = .ok (.iconst 1, 1) := by decide +kernel
theorem dX12_showText_65 : decode cX12_showText 65 = .ok (.invokevirtual 458, 3) := by decide +kernel
theorem dX12_showText_68 : decode cX12_showText 68 = .ok (.istore_n 2, 1) := by decide +kernel
theorem dX12_showText_69 : decode cX12_showText 69 = .ok (.aload_n 0, 1) := by decide +kernel
theorem dX12_showText_70 : decode cX12_showText 70 = .ok (.getfield 267, 3) := by decide +kernel
theorem dX12_showText_73 : decode cX12_showText 73 = .ok (.iconst 4, 1) := by decide +kernel
theorem dX12_showText_74 : decode cX12_showText 74 = .ok (.if_icmp .eq 24, 3) := by decide +kernel
theorem dX12_showText_77 : decode cX12_showText 77 = .ok (.aload_n 0, 1) := by decide +kernel
theorem dX12_showText_78 : decode cX12_showText 78 = .ok (.getfield 267, 3) := by decide +kernel
theorem dX12_showText_81 : decode cX12_showText 81 = .ok (.iconst 1, 1) := by decide +kernel
theorem dX12_showText_82 : decode cX12_showText 82 = .ok (.if_icmp .ne 26, 3) := by decide +kernel
theorem dX12_showText_85 : decode cX12_showText 85 = .ok (.aload_n 0, 1) := by decide +kernel
theorem dX12_showText_86 : decode cX12_showText 86 = .ok (.getfield 26, 3) := by decide +kernel
theorem dX12_showText_89 : decode cX12_showText 89 = .ok (.iload_n 1, 1) := by decide +kernel
theorem dX12_showText_90 : decode cX12_showText 90 = .ok (.iload_n 2, 1) := by decide +kernel
theorem dX12_showText_91 : decode cX12_showText 91 = .ok (.invokestatic 245, 3) := by decide +kernel
theorem dX12_showText_94 : decode cX12_showText 94 = .ok (.iconst 2, 1) := by decide +kernel
theorem dX12_showText_95 : decode cX12_showText 95 = .ok (.if_icmp .ne 13, 3) := by decide +kernel
theorem dX12_showText_98 : decode cX12_showText 98 = .ok (.aload_n 0, 1) := by decide +kernel
theorem dX12_showText_99 : decode cX12_showText 99 = .ok (.iload_n 1, 1) := by decide +kernel
theorem dX12_showText_100 : decode cX12_showText 100 = .ok (.iload_n 2, 1) := by decide +kernel
theorem dX12_showText_101 : decode cX12_showText 101 = .ok (.iconst 1, 1) := by decide +kernel
theorem dX12_showText_102 : decode cX12_showText 102 = .ok (.invokevirtual 472, 3) := by decide +kernel
theorem dX12_showText_105 : decode cX12_showText 105 = .ok (.goto 29, 3) := by decide +kernel
theorem dX12_showText_108 : decode cX12_showText 108 = .ok (.iconst 0, 1) := by decide +kernel
theorem dX12_showText_109 : decode cX12_showText 109 = .ok (.istore_n 3, 1) := by decide +kernel
theorem dX12_showText_110 : decode cX12_showText 110 = .ok (.iload_n 3, 1) := by decide +kernel
theorem dX12_showText_111 : decode cX12_showText 111 = .ok (.aload_n 0, 1) := by decide +kernel
theorem dX12_showText_112 : decode cX12_showText 112 = .ok (.getfield 88, 3) := by decide +kernel
theorem dX12_showText_115 : decode cX12_showText 115 = .ok (.if_icmp .ge 19, 3) := by decide +kernel
theorem dX12_showText_118 : decode cX12_showText 118 = .ok (.aload_n 0, 1) := by decide +kernel
theorem dX12_showText_119 : decode cX12_showText 119 = .ok (.aload_n 0, 1) := by decide +kernel
theorem dX12_showText_120 : decode cX12_showText 120 = .ok (.getfield 13, 3) := by decide +kernel
theorem dX12_showText_123 : decode cX12_showText 123 = .ok (.iload_n 3, 1) := by decide +kernel
theorem dX12_showText_124 : decode cX12_showText 124 = .ok (.iaload, 1) := by decide +kernel
theorem dX12_showText_125 : decode cX12_showText 125 = .ok (.invokevirtual 278, 3) := by decide +kernel
theorem dX12_showText_128 : decode cX12_showText 128 = .ok (.iinc 3 1, 3) := by decide +kernel
theorem dX12_showText_131 : decode cX12_showText 131 = .ok (.goto (-21), 3) := by decide +kernel
theorem dX12_showText_134 : decode cX12_showText 134 = .ok (.aload_n 0, 1) := by decide +kernel
theorem dX12_showText_135 : decode cX12_showText 135 = .ok (.getfield 273, 3) := by decide +kernel
theorem dX12_showText_138 : decode cX12_showText 138 = .ok (.ireturn, 1) := by decide +kernel
theorem dX12_output_0 : decode cX12_output 0 = .ok (.aload_n 0, 1) := by decide +kernel
theorem dX12_output_1 : decode cX12_output 1 = .ok (.iconst 0, 1) := by decide +kernel
theorem dX12_output_2 : decode cX12_output 2 = .ok (.putfield 78, 3) := by decide +kernel
theorem dX12_output_5 : decode cX12_output 5 = .ok (.iload_n 1, 1) := by decide +kernel
theorem dX12_output_6 : decode cX12_output 6 = .ok (.ifCond .lt 11, 3) := by decide +kernel
theorem dX12_output_9 : decode cX12_output 9 = .ok (.iload_n 1, 1) := by decide +kernel
theorem dX12_output_10 : decode cX12_output 10 = .ok (.aload_n 0, 1) := by decide +kernel
theorem dX12_output_11 : decode cX12_output 11 = .ok (.getfield 273, 3) := by decide +kernel
theorem dX12_output_14 : decode cX12_output 14 = .ok (.if_icmp .lt 7, 3) := by decide +kernel
theorem dX12_output_17 : decode cX12_output 17 = .ok (.iconst (-1), 1) := by decide +kernel
theorem dX12_output_18 : decode cX12_output 18 = .ok (.goto 9, 3) := by decide +kernel
theorem dX12_output_21 : decode cX12_output 21 = .ok (.aload_n 0, 1) := by decide +kernel
theorem dX12_output_22 : decode cX12_output 22 = .ok (.getfield 16, 3) := by decide +kernel
theorem dX12_output_25 : decode cX12_output 25 = .ok (.iload_n 1, 1) := by decide +kernel
theorem dX12_output_26 : decode cX12_output 26 = .ok (.iaload, 1) := by decide +kernel
theorem dX12_output_27 : decode cX12_output 27 = .ok (.ireturn, 1) := by decide +kernel
theorem dL_format_0 : decode cL_format 0 = .ok (.aload_n 1, 1) := by decide +kernel
theorem dL_format_1 : decode cL_format 1 = .ok (.iconst 0, 1) := by decide +kernel
theorem dL_format_2 : decode cL_format 2 = .ok (.aload_n 0, 1) := by decide +kernel
theorem dL_format_3 : decode cL_format 3 = .ok (.invokevirtual 7, 3) := by decide +kernel
theorem dL_format_6 : decode cL_format 6 = .ok (.i2l, 1) := by decide +kernel
theorem dL_format_7 : decode cL_format 7 = .ok (.lastore, 1) := by decide +kernel
theorem dL_format_8 : decode cL_format 8 = .ok (.goto 6, 3) := by decide +kernel
theorem dL_format_11 : decode cL_format 11 = .ok (.astore_n 2, 1) := by decide +kernel
theorem dL_format_12 : decode cL_format 12 = .ok (.iconst 1, 1) := by decide +kernel
theorem dL_format_13 : decode cL_format 13 = .ok (.ireturn, 1) := by decide +kernel
theorem dL_format_14 : decode cL_format 14 = .ok (.iconst 0, 1) := by decide +kernel
theorem dL_format_15 : decode cL_format 15 = .ok (.ireturn, 1) := by decide +kernel
theorem dL_show_0 : decode cL_show 0 = .ok (.aload_n 1, 1) := by decide +kernel
theorem dL_show_1 : decode cL_show 1 = .ok (.iconst 0, 1) := by decide +kernel
theorem dL_show_2 : decode cL_show 2 = .ok (.aload_n 0, 1) := by decide +kernel
theorem dL_show_3 : decode cL_show 3 = .ok (.invokevirtual 15, 3) := by decide +kernel
theorem dL_show_6 : decode cL_show 6 = .ok (.i2l, 1) := by decide +kernel
theorem dL_show_7 : decode cL_show 7 = .ok (.lastore, 1) := by decide +kernel
theorem dL_show_8 : decode cL_show 8 = .ok (.goto 6, 3) := by decide +kernel
theorem dL_show_11 : decode cL_show 11 = .ok (.astore_n 2, 1) := by decide +kernel
theorem dL_show_12 : decode cL_show 12 = .ok (.iconst 1, 1) := by decide +kernel
theorem dL_show_13 : decode cL_show 13 = .ok (.ireturn, 1) := by decide +kernel
theorem dL_show_14 : decode cL_show 14 = .ok (.iconst 0, 1) := by decide +kernel
theorem dL_show_15 : decode cL_show 15 = .ok (.ireturn, 1) := by decide +kernel
theorem dL_showText_0 : decode cL_showText 0 = .ok (.aload_n 1, 1) := by decide +kernel
theorem dL_showText_1 : decode cL_showText 1 = .ok (.iconst 0, 1) := by decide +kernel
theorem dL_showText_2 : decode cL_showText 2 = .ok (.aload_n 0, 1) := by decide +kernel
theorem dL_showText_3 : decode cL_showText 3 = .ok (.invokevirtual 20, 3) := by decide +kernel
theorem dL_showText_6 : decode cL_showText 6 = .ok (.i2l, 1) := by decide +kernel
theorem dL_showText_7 : decode cL_showText 7 = .ok (.lastore, 1) := by decide +kernel
theorem dL_showText_8 : decode cL_showText 8 = .ok (.goto 6, 3) := by decide +kernel
theorem dL_showText_11 : decode cL_showText 11 = .ok (.astore_n 2, 1) := by decide +kernel
theorem dL_showText_12 : decode cL_showText 12 = .ok (.iconst 1, 1) := by decide +kernel
theorem dL_showText_13 : decode cL_showText 13 = .ok (.ireturn, 1) := by decide +kernel
theorem dL_showText_14 : decode cL_showText 14 = .ok (.iconst 0, 1) := by decide +kernel
theorem dL_showText_15 : decode cL_showText 15 = .ok (.ireturn, 1) := by decide +kernel
theorem dL_law_0 : decode cL_law 0 = .ok (.new 8, 3) := by decide +kernel
theorem dL_law_3 : decode cL_law 3 = .ok (.dup, 1) := by decide +kernel
theorem dL_law_4 : decode cL_law 4 = .ok (.invokespecial 23, 3) := by decide +kernel
theorem dL_law_7 : decode cL_law 7 = .ok (.astore_n 1, 1) := by decide +kernel
theorem dL_law_8 : decode cL_law 8 = .ok (.new 24, 3) := by decide +kernel
theorem dL_law_11 : decode cL_law 11 = .ok (.dup, 1) := by decide +kernel
theorem dL_law_12 : decode cL_law 12 = .ok (.invokespecial 26, 3) := by decide +kernel
theorem dL_law_15 : decode cL_law 15 = .ok (.astore_n 2, 1) := by decide +kernel
theorem dL_law_16 : decode cL_law 16 = .ok (.iconst 1, 1) := by decide +kernel
theorem dL_law_17 : decode cL_law 17 = .ok (.newarray .long, 2) := by decide +kernel
theorem dL_law_19 : decode cL_law 19 = .ok (.astore_n 3, 1) := by decide +kernel
theorem dL_law_20 : decode cL_law 20 = .ok (.iconst 0, 1) := by decide +kernel
theorem dL_law_21 : decode cL_law 21 = .ok (.istore 4, 2) := by decide +kernel
theorem dL_law_23 : decode cL_law 23 = .ok (.iload 4, 2) := by decide +kernel
theorem dL_law_25 : decode cL_law 25 = .ok (.aload_n 0, 1) := by decide +kernel
theorem dL_law_26 : decode cL_law 26 = .ok (.arraylength, 1) := by decide +kernel
theorem dL_law_27 : decode cL_law 27 = .ok (.bipush 6, 2) := by decide +kernel
theorem dL_law_29 : decode cL_law 29 = .ok (.isub, 1) := by decide +kernel
theorem dL_law_30 : decode cL_law 30 = .ok (.if_icmp .gt 418, 3) := by decide +kernel
theorem dL_law_33 : decode cL_law 33 = .ok (.aload_n 0, 1) := by decide +kernel
theorem dL_law_34 : decode cL_law 34 = .ok (.iload 4, 2) := by decide +kernel
theorem dL_law_36 : decode cL_law 36 = .ok (.iaload, 1) := by decide +kernel
theorem dL_law_37 : decode cL_law 37 = .ok (.bipush 15, 2) := by decide +kernel
theorem dL_law_39 : decode cL_law 39 = .ok (.iand, 1) := by decide +kernel
theorem dL_law_40 : decode cL_law 40 = .ok (.tableswitch 402 0 8 #[52, 125, 150, 185, 232, 276, 289, 333, 377], 52) := by decide +kernel
theorem dL_law_92 : decode cL_law 92 = .ok (.aload_n 1, 1) := by decide +kernel
theorem dL_law_93 : decode cL_law 93 = .ok (.aload_n 0, 1) := by decide +kernel
theorem dL_law_94 : decode cL_law 94 = .ok (.iload 4, 2) := by decide +kernel
theorem dL_law_96 : decode cL_law 96 = .ok (.iconst 1, 1) := by decide +kernel
theorem dL_law_97 : decode cL_law 97 = .ok (.iadd, 1) := by decide +kernel
theorem dL_law_98 : decode cL_law 98 = .ok (.iaload, 1) := by decide +kernel
theorem dL_law_99 : decode cL_law 99 = .ok (.aload_n 0, 1) := by decide +kernel
theorem dL_law_100 : decode cL_law 100 = .ok (.iload 4, 2) := by decide +kernel
theorem dL_law_102 : decode cL_law 102 = .ok (.iconst 2, 1) := by decide +kernel
theorem dL_law_103 : decode cL_law 103 = .ok (.iadd, 1) := by decide +kernel
theorem dL_law_104 : decode cL_law 104 = .ok (.iaload, 1) := by decide +kernel
theorem dL_law_105 : decode cL_law 105 = .ok (.aload_n 0, 1) := by decide +kernel
theorem dL_law_106 : decode cL_law 106 = .ok (.iload 4, 2) := by decide +kernel
theorem dL_law_108 : decode cL_law 108 = .ok (.iconst 3, 1) := by decide +kernel
theorem dL_law_109 : decode cL_law 109 = .ok (.iadd, 1) := by decide +kernel
theorem dL_law_110 : decode cL_law 110 = .ok (.iaload, 1) := by decide +kernel
theorem dL_law_111 : decode cL_law 111 = .ok (.aload_n 0, 1) := by decide +kernel
theorem dL_law_112 : decode cL_law 112 = .ok (.iload 4, 2) := by decide +kernel
theorem dL_law_114 : decode cL_law 114 = .ok (.iconst 4, 1) := by decide +kernel
theorem dL_law_115 : decode cL_law 115 = .ok (.iadd, 1) := by decide +kernel
theorem dL_law_116 : decode cL_law 116 = .ok (.iaload, 1) := by decide +kernel
theorem dL_law_117 : decode cL_law 117 = .ok (.aload_n 0, 1) := by decide +kernel
theorem dL_law_118 : decode cL_law 118 = .ok (.iload 4, 2) := by decide +kernel
theorem dL_law_120 : decode cL_law 120 = .ok (.iconst 5, 1) := by decide +kernel
theorem dL_law_121 : decode cL_law 121 = .ok (.iadd, 1) := by decide +kernel
theorem dL_law_122 : decode cL_law 122 = .ok (.iaload, 1) := by decide +kernel
theorem dL_law_123 : decode cL_law 123 = .ok (.invokevirtual 27, 3) := by decide +kernel
theorem dL_law_126 : decode cL_law 126 = .ok (.aload_n 2, 1) := by decide +kernel
theorem dL_law_127 : decode cL_law 127 = .ok (.aload_n 0, 1) := by decide +kernel
theorem dL_law_128 : decode cL_law 128 = .ok (.iload 4, 2) := by decide +kernel
theorem dL_law_130 : decode cL_law 130 = .ok (.iconst 1, 1) := by decide +kernel
theorem dL_law_131 : decode cL_law 131 = .ok (.iadd, 1) := by decide +kernel
theorem dL_law_132 : decode cL_law 132 = .ok (.iaload, 1) := by decide +kernel
theorem dL_law_133 : decode cL_law 133 = .ok (.aload_n 0, 1) := by decide +kernel
theorem dL_law_134 : decode cL_law 134 = .ok (.iload 4, 2) := by decide +kernel
theorem dL_law_136 : decode cL_law 136 = .ok (.iconst 2, 1) := by decide +kernel
theorem dL_law_137 : decode cL_law 137 = .ok (.iadd, 1) := by decide +kernel
theorem dL_law_138 : decode cL_law 138 = .ok (.iaload, 1) := by decide +kernel
theorem dL_law_139 : decode cL_law 139 = .ok (.aload_n 0, 1) := by decide +kernel
theorem dL_law_140 : decode cL_law 140 = .ok (.iload 4, 2) := by decide +kernel
theorem dL_law_142 : decode cL_law 142 = .ok (.iconst 3, 1) := by decide +kernel
theorem dL_law_143 : decode cL_law 143 = .ok (.iadd, 1) := by decide +kernel
theorem dL_law_144 : decode cL_law 144 = .ok (.iaload, 1) := by decide +kernel
theorem dL_law_145 : decode cL_law 145 = .ok (.aload_n 0, 1) := by decide +kernel
theorem dL_law_146 : decode cL_law 146 = .ok (.iload 4, 2) := by decide +kernel
theorem dL_law_148 : decode cL_law 148 = .ok (.iconst 4, 1) := by decide +kernel
theorem dL_law_149 : decode cL_law 149 = .ok (.iadd, 1) := by decide +kernel
theorem dL_law_150 : decode cL_law 150 = .ok (.iaload, 1) := by decide +kernel
theorem dL_law_151 : decode cL_law 151 = .ok (.aload_n 0, 1) := by decide +kernel
theorem dL_law_152 : decode cL_law 152 = .ok (.iload 4, 2) := by decide +kernel
theorem dL_law_154 : decode cL_law 154 = .ok (.iconst 5, 1) := by decide +kernel
theorem dL_law_155 : decode cL_law 155 = .ok (.iadd, 1) := by decide +kernel
theorem dL_law_156 : decode cL_law 156 = .ok (.iaload, 1) := by decide +kernel
theorem dL_law_157 : decode cL_law 157 = .ok (.invokevirtual 31, 3) := by decide +kernel
theorem dL_law_160 : decode cL_law 160 = .ok (.if_icmp .eq 282, 3) := by decide +kernel
theorem dL_law_163 : decode cL_law 163 = .ok (.iconst 0, 1) := by decide +kernel
theorem dL_law_164 : decode cL_law 164 = .ok (.ireturn, 1) := by decide +kernel
theorem dL_law_165 : decode cL_law 165 = .ok (.aload_n 1, 1) := by decide +kernel
theorem dL_law_166 : decode cL_law 166 = .ok (.aload_n 0, 1) := by decide +kernel
theorem dL_law_167 : decode cL_law 167 = .ok (.iload 4, 2) := by decide +kernel
theorem dL_law_169 : decode cL_law 169 = .ok (.iconst 1, 1) := by decide +kernel
theorem dL_law_170 : decode cL_law 170 = .ok (.iadd, 1) := by decide +kernel
theorem dL_law_171 : decode cL_law 171 = .ok (.iaload, 1) := by decide +kernel
theorem dL_law_172 : decode cL_law 172 = .ok (.invokevirtual 32, 3) := by decide +kernel
theorem dL_law_175 : decode cL_law 175 = .ok (.aload_n 2, 1) := by decide +kernel
theorem dL_law_176 : decode cL_law 176 = .ok (.aload_n 0, 1) := by decide +kernel
theorem dL_law_177 : decode cL_law 177 = .ok (.iload 4, 2) := by decide +kernel
theorem dL_law_179 : decode cL_law 179 = .ok (.iconst 1, 1) := by decide +kernel
theorem dL_law_180 : decode cL_law 180 = .ok (.iadd, 1) := by decide +kernel
theorem dL_law_181 : decode cL_law 181 = .ok (.iaload, 1) := by decide +kernel
theorem dL_law_182 : decode cL_law 182 = .ok (.invokevirtual 36, 3) := by decide +kernel
theorem dL_law_185 : decode cL_law 185 = .ok (.if_icmp .eq 257, 3) := by decide +kernel
theorem dL_law_188 : decode cL_law 188 = .ok (.iconst 0, 1) := by decide +kernel
theorem dL_law_189 : decode cL_law 189 = .ok (.ireturn, 1) := by decide +kernel
theorem dL_law_190 : decode cL_law 190 = .ok (.aload_n 1, 1) := by decide +kernel
theorem dL_law_191 : decode cL_law 191 = .ok (.aload_n 0, 1) := by decide +kernel
theorem dL_law_192 : decode cL_law 192 = .ok (.iload 4, 2) := by decide +kernel
theorem dL_law_194 : decode cL_law 194 = .ok (.iconst 1, 1) := by decide +kernel
theorem dL_law_195 : decode cL_law 195 = .ok (.iadd, 1) := by decide +kernel
theorem dL_law_196 : decode cL_law 196 = .ok (.iaload, 1) := by decide +kernel
theorem dL_law_197 : decode cL_law 197 = .ok (.i2d, 1) := by decide +kernel
theorem dL_law_198 : decode cL_law 198 = .ok (.ldc2_w 37, 3) := by decide +kernel
theorem dL_law_201 : decode cL_law 201 = .ok (.dmul, 1) := by decide +kernel
theorem dL_law_202 : decode cL_law 202 = .ok (.invokevirtual 39, 3) := by decide +kernel
theorem dL_law_205 : decode cL_law 205 = .ok (.aload_n 2, 1) := by decide +kernel
theorem dL_law_206 : decode cL_law 206 = .ok (.aload_n 0, 1) := by decide +kernel
theorem dL_law_207 : decode cL_law 207 = .ok (.iload 4, 2) := by decide +kernel
theorem dL_law_209 : decode cL_law 209 = .ok (.iconst 1, 1) := by decide +kernel
theorem dL_law_210 : decode cL_law 210 = .ok (.iadd, 1) := by decide +kernel
theorem dL_law_211 : decode cL_law 211 = .ok (.iaload, 1) := by decide +kernel
theorem dL_law_212 : decode cL_law 212 = .ok (.i2d, 1) := by decide +kernel
theorem dL_law_213 : decode cL_law 213 = .ok (.ldc2_w 37, 3) := by decide +kernel
theorem dL_law_216 : decode cL_law 216 = .ok (.dmul, 1) := by decide +kernel
theorem dL_law_217 : decode cL_law 217 = .ok (.invokevirtual 43, 3) := by decide +kernel
theorem dL_law_220 : decode cL_law 220 = .ok (.if_icmp .eq 222, 3) := by decide +kernel
theorem dL_law_223 : decode cL_law 223 = .ok (.iconst 0, 1) := by decide +kernel
theorem dL_law_224 : decode cL_law 224 = .ok (.ireturn, 1) := by decide +kernel
theorem dL_law_225 : decode cL_law 225 = .ok (.aload_n 1, 1) := by decide +kernel
theorem dL_law_226 : decode cL_law 226 = .ok (.aload_n 0, 1) := by decide +kernel
theorem dL_law_227 : decode cL_law 227 = .ok (.iload 4, 2) := by decide +kernel
theorem dL_law_229 : decode cL_law 229 = .ok (.iconst 1, 1) := by decide +kernel
theorem dL_law_230 : decode cL_law 230 = .ok (.iadd, 1) := by decide +kernel
theorem dL_law_231 : decode cL_law 231 = .ok (.iaload, 1) := by decide +kernel
theorem dL_law_232 : decode cL_law 232 = .ok (.aload_n 0, 1) := by decide +kernel
theorem dL_law_233 : decode cL_law 233 = .ok (.iload 4, 2) := by decide +kernel
theorem dL_law_235 : decode cL_law 235 = .ok (.iconst 2, 1) := by decide +kernel
theorem dL_law_236 : decode cL_law 236 = .ok (.iadd, 1) := by decide +kernel
theorem dL_law_237 : decode cL_law 237 = .ok (.iaload, 1) := by decide +kernel
theorem dL_law_238 : decode cL_law 238 = .ok (.i2d, 1) := by decide +kernel
theorem dL_law_239 : decode cL_law 239 = .ok (.ldc2_w 37, 3) := by decide +kernel
theorem dL_law_242 : decode cL_law 242 = .ok (.dmul, 1) := by decide +kernel
theorem dL_law_243 : decode cL_law 243 = .ok (.invokevirtual 44, 3) := by decide +kernel
theorem dL_law_246 : decode cL_law 246 = .ok (.aload_n 2, 1) := by decide +kernel
theorem dL_law_247 : decode cL_law 247 = .ok (.aload_n 0, 1) := by decide +kernel
theorem dL_law_248 : decode cL_law 248 = .ok (.iload 4, 2) := by decide +kernel
theorem dL_law_250 : decode cL_law 250 = .ok (.iconst 1, 1) := by decide +kernel
theorem dL_law_251 : decode cL_law 251 = .ok (.iadd, 1) := by decide +kernel
theorem dL_law_252 : decode cL_law 252 = .ok (.iaload, 1) := by decide +kernel
theorem dL_law_253 : decode cL_law 253 = .ok (.aload_n 0, 1) := by decide +kernel
theorem dL_law_254 : decode cL_law 254 = .ok (.iload 4, 2) := by decide +kernel
theorem dL_law_256 : decode cL_law 256 = .ok (.iconst 2, 1) := by decide +kernel
theorem dL_law_257 : decode cL_law 257 = .ok (.iadd, 1) := by decide +kernel
theorem dL_law_258 : decode cL_law 258 = .ok (.iaload, 1) := by decide +kernel
theorem dL_law_259 : decode cL_law 259 = .ok (.i2d, 1) := by decide +kernel
theorem dL_law_260 : decode cL_law 260 = .ok (.ldc2_w 37, 3) := by decide +kernel
theorem dL_law_263 : decode cL_law 263 = .ok (.dmul, 1) := by decide +kernel
theorem dL_law_264 : decode cL_law 264 = .ok (.invokevirtual 48, 3) := by decide +kernel
theorem dL_law_267 : decode cL_law 267 = .ok (.if_icmp .eq 175, 3) := by decide +kernel
theorem dL_law_270 : decode cL_law 270 = .ok (.iconst 0, 1) := by decide +kernel
theorem dL_law_271 : decode cL_law 271 = .ok (.ireturn, 1) := by decide +kernel
theorem dL_law_272 : decode cL_law 272 = .ok (.aload_n 1, 1) := by decide +kernel
theorem dL_law_273 : decode cL_law 273 = .ok (.aload_n 3, 1) := by decide +kernel
theorem dL_law_274 : decode cL_law 274 = .ok (.invokestatic 49, 3) := by decide +kernel
theorem dL_law_277 : decode cL_law 277 = .ok (.istore 5, 2) := by decide +kernel
theorem dL_law_279 : decode cL_law 279 = .ok (.aload_n 2, 1) := by decide +kernel
theorem dL_law_280 : decode cL_law 280 = .ok (.invokevirtual 54, 3) := by decide +kernel
theorem dL_law_283 : decode cL_law 283 = .ok (.istore 6, 2) := by decide +kernel
theorem dL_law_285 : decode cL_law 285 = .ok (.aload_n 2, 1) := by decide +kernel
theorem dL_law_286 : decode cL_law 286 = .ok (.invokevirtual 55, 3) := by decide +kernel
theorem dL_law_289 : decode cL_law 289 = .ok (.iload 5, 2) := by decide +kernel
theorem dL_law_291 : decode cL_law 291 = .ok (.if_icmp .eq 5, 3) := by decide +kernel
theorem dL_law_294 : decode cL_law 294 = .ok (.iconst 0, 1) := by decide +kernel
theorem dL_law_295 : decode cL_law 295 = .ok (.ireturn, 1) := by decide +kernel
theorem dL_law_296 : decode cL_law 296 = .ok (.iload 5, 2) := by decide +kernel
theorem dL_law_298 : decode cL_law 298 = .ok (.ifCond .ne 15, 3) := by decide +kernel
theorem dL_law_301 : decode cL_law 301 = .ok (.aload_n 3, 1) := by decide +kernel
theorem dL_law_302 : decode cL_law 302 = .ok (.iconst 0, 1) := by decide +kernel
theorem dL_law_303 : decode cL_law 303 = .ok (.laload, 1) := by decide +kernel
theorem dL_law_304 : decode cL_law 304 = .ok (.iload 6, 2) := by decide +kernel
theorem dL_law_306 : decode cL_law 306 = .ok (.i2l, 1) := by decide +kernel
theorem dL_law_307 : decode cL_law 307 = .ok (.lcmp, 1) := by decide +kernel
theorem dL_law_308 : decode cL_law 308 = .ok (.ifCond .eq 5, 3) := by decide +kernel
theorem dL_law_311 : decode cL_law 311 = .ok (.iconst 0, 1) := by decide +kernel
theorem dL_law_312 : decode cL_law 312 = .ok (.ireturn, 1) := by decide +kernel
theorem dL_law_313 : decode cL_law 313 = .ok (.goto 129, 3) := by decide +kernel
theorem dL_law_316 : decode cL_law 316 = .ok (.aload_n 1, 1) := by decide +kernel
theorem dL_law_317 : decode cL_law 317 = .ok (.invokevirtual 58, 3) := by decide +kernel
theorem dL_law_320 : decode cL_law 320 = .ok (.aload_n 2, 1) := by decide +kernel
theorem dL_law_321 : decode cL_law 321 = .ok (.invokevirtual 61, 3) := by decide +kernel
theorem dL_law_324 : decode cL_law 324 = .ok (.if_icmp .eq 118, 3) := by decide +kernel
theorem dL_law_327 : decode cL_law 327 = .ok (.iconst 0, 1) := by decide +kernel
theorem dL_law_328 : decode cL_law 328 = .ok (.ireturn, 1) := by decide +kernel
theorem dL_law_329 : decode cL_law 329 = .ok (.aload_n 1, 1) := by decide +kernel
theorem dL_law_330 : decode cL_law 330 = .ok (.aload_n 3, 1) := by decide +kernel
theorem dL_law_331 : decode cL_law 331 = .ok (.invokestatic 62, 3) := by decide +kernel
theorem dL_law_334 : decode cL_law 334 = .ok (.istore 5, 2) := by decide +kernel
theorem dL_law_336 : decode cL_law 336 = .ok (.aload_n 2, 1) := by decide +kernel
theorem dL_law_337 : decode cL_law 337 = .ok (.invokevirtual 64, 3) := by decide +kernel
theorem dL_law_340 : decode cL_law 340 = .ok (.istore 6, 2) := by decide +kernel
theorem dL_law_342 : decode cL_law 342 = .ok (.aload_n 2, 1) := by decide +kernel
theorem dL_law_343 : decode cL_law 343 = .ok (.invokevirtual 55, 3) := by decide +kernel
theorem dL_law_346 : decode cL_law 346 = .ok (.iload 5, 2) := by decide +kernel
theorem dL_law_348 : decode cL_law 348 = .ok (.if_icmp .eq 5, 3) := by decide +kernel
theorem dL_law_351 : decode cL_law 351 = .ok (.iconst 0, 1) := by decide +kernel
theorem dL_law_352 : decode cL_law 352 = .ok (.ireturn, 1) := by decide +kernel
theorem dL_law_353 : decode cL_law 353 = .ok (.iload 5, 2) := by decide +kernel
theorem dL_law_355 : decode cL_law 355 = .ok (.ifCond .ne 15, 3) := by decide +kernel
theorem dL_law_358 : decode cL_law 358 = .ok (.aload_n 3, 1) := by decide +kernel
theorem dL_law_359 : decode cL_law 359 = .ok (.iconst 0, 1) := by decide +kernel
theorem dL_law_360 : decode cL_law 360 = .ok (.laload, 1) := by decide +kernel
theorem dL_law_361 : decode cL_law 361 = .ok (.iload 6, 2) := by decide +kernel
theorem dL_law_363 : decode cL_law 363 = .ok (.i2l, 1) := by decide +kernel
theorem dL_law_364 : decode cL_law 364 = .ok (.lcmp, 1) := by decide +kernel
theorem dL_law_365 : decode cL_law 365 = .ok (.ifCond .eq 5, 3) := by decide +kernel
theorem dL_law_368 : decode cL_law 368 = .ok (.iconst 0, 1) := by decide +kernel
theorem dL_law_369 : decode cL_law 369 = .ok (.ireturn, 1) := by decide +kernel
theorem dL_law_370 : decode cL_law 370 = .ok (.goto 72, 3) := by decide +kernel
theorem dL_law_373 : decode cL_law 373 = .ok (.aload_n 1, 1) := by decide +kernel
theorem dL_law_374 : decode cL_law 374 = .ok (.aload_n 3, 1) := by decide +kernel
theorem dL_law_375 : decode cL_law 375 = .ok (.invokestatic 65, 3) := by decide +kernel
theorem dL_law_378 : decode cL_law 378 = .ok (.istore 5, 2) := by decide +kernel
theorem dL_law_380 : decode cL_law 380 = .ok (.aload_n 2, 1) := by decide +kernel
theorem dL_law_381 : decode cL_law 381 = .ok (.invokevirtual 67, 3) := by decide +kernel
theorem dL_law_384 : decode cL_law 384 = .ok (.istore 6, 2) := by decide +kernel
theorem dL_law_386 : decode cL_law 386 = .ok (.aload_n 2, 1) := by decide +kernel
theorem dL_law_387 : decode cL_law 387 = .ok (.invokevirtual 55, 3) := by decide +kernel
theorem dL_law_390 : decode cL_law 390 = .ok (.iload 5, 2) := by decide +kernel
theorem dL_law_392 : decode cL_law 392 = .ok (.if_icmp .eq 5, 3) := by decide +kernel
theorem dL_law_395 : decode cL_law 395 = .ok (.iconst 0, 1) := by decide +kernel
theorem dL_law_396 : decode cL_law 396 = .ok (.ireturn, 1) := by decide +kernel
theorem dL_law_397 : decode cL_law 397 = .ok (.iload 5, 2) := by decide +kernel
theorem dL_law_399 : decode cL_law 399 = .ok (.ifCond .ne 15, 3) := by decide +kernel
theorem dL_law_402 : decode cL_law 402 = .ok (.aload_n 3, 1) := by decide +kernel
theorem dL_law_403 : decode cL_law 403 = .ok (.iconst 0, 1) := by decide +kernel
theorem dL_law_404 : decode cL_law 404 = .ok (.laload, 1) := by decide +kernel
theorem dL_law_405 : decode cL_law 405 = .ok (.iload 6, 2) := by decide +kernel
theorem dL_law_407 : decode cL_law 407 = .ok (.i2l, 1) := by decide +kernel
theorem dL_law_408 : decode cL_law 408 = .ok (.lcmp, 1) := by decide +kernel
theorem dL_law_409 : decode cL_law 409 = .ok (.ifCond .eq 5, 3) := by decide +kernel
theorem dL_law_412 : decode cL_law 412 = .ok (.iconst 0, 1) := by decide +kernel
theorem dL_law_413 : decode cL_law 413 = .ok (.ireturn, 1) := by decide +kernel
theorem dL_law_414 : decode cL_law 414 = .ok (.goto 28, 3) := by decide +kernel
theorem dL_law_417 : decode cL_law 417 = .ok (.aload_n 1, 1) := by decide +kernel
theorem dL_law_418 : decode cL_law 418 = .ok (.aload_n 0, 1) := by decide +kernel
theorem dL_law_419 : decode cL_law 419 = .ok (.iload 4, 2) := by decide +kernel
theorem dL_law_421 : decode cL_law 421 = .ok (.iconst 1, 1) := by decide +kernel
theorem dL_law_422 : decode cL_law 422 = .ok (.iadd, 1) := by decide +kernel
theorem dL_law_423 : decode cL_law 423 = .ok (.iaload, 1) := by decide +kernel
theorem dL_law_424 : decode cL_law 424 = .ok (.invokevirtual 68, 3) := by decide +kernel
theorem dL_law_427 : decode cL_law 427 = .ok (.aload_n 2, 1) := by decide +kernel
theorem dL_law_428 : decode cL_law 428 = .ok (.aload_n 0, 1) := by decide +kernel
theorem dL_law_429 : decode cL_law 429 = .ok (.iload 4, 2) := by decide +kernel
theorem dL_law_431 : decode cL_law 431 = .ok (.iconst 1, 1) := by decide +kernel
theorem dL_law_432 : decode cL_law 432 = .ok (.iadd, 1) := by decide +kernel
theorem dL_law_433 : decode cL_law 433 = .ok (.iaload, 1) := by decide +kernel
theorem dL_law_434 : decode cL_law 434 = .ok (.invokevirtual 72, 3) := by decide +kernel
theorem dL_law_437 : decode cL_law 437 = .ok (.if_icmp .eq 5, 3) := by decide +kernel
theorem dL_law_440 : decode cL_law 440 = .ok (.iconst 0, 1) := by decide +kernel
theorem dL_law_441 : decode cL_law 441 = .ok (.ireturn, 1) := by decide +kernel
theorem dL_law_442 : decode cL_law 442 = .ok (.iinc 4 6, 3) := by decide +kernel
theorem dL_law_445 : decode cL_law 445 = .ok (.goto (-422), 3) := by decide +kernel
theorem dL_law_448 : decode cL_law 448 = .ok (.iconst 1, 1) := by decide +kernel
theorem dL_law_449 : decode cL_law 449 = .ok (.ireturn, 1) := by decide +kernel
