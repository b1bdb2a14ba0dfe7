theorem dX0_init_0 : decode cX0_init 0 = .ok (.aload_n 0, 1) := by decide +kernel
theorem dX0_init_1 : decode cX0_init 1 = .ok (.invokespecial 3, 3) := by decide +kernel
theorem dX0_init_4 : decode cX0_init 4 = .ok (.aload_n 0, 1) := by decide +kernel
theorem dX0_init_5 : decode cX0_init 5 = .ok (.bipush 16, 2) := by decide +kernel
theorem dX0_init_7 : decode cX0_init 7 = .ok (.newarray .int, 2) := by decide +kernel
theorem dX0_init_9 : decode cX0_init 9 = .ok (.putfield 9, 3) := by decide +kernel
theorem dX0_init_12 : decode cX0_init 12 = .ok (.aload_n 0, 1) := by decide +kernel
theorem dX0_init_13 : decode cX0_init 13 = .ok (.bipush 17, 2) := by decide +kernel
theorem dX0_init_15 : decode cX0_init 15 = .ok (.newarray .int, 2) := by decide +kernel
theorem dX0_init_17 : decode cX0_init 17 = .ok (.putfield 15, 3) := by decide +kernel
theorem dX0_init_20 : decode cX0_init 20 = .ok (.return_, 1) := by decide +kernel
theorem dX0_smallestOf_0 : decode cX0_smallestOf 0 = .ok (.bipush 15, 2) := by decide +kernel
theorem dX0_smallestOf_2 : decode cX0_smallestOf 2 = .ok (.istore_n 2, 1) := by decide +kernel
theorem dX0_smallestOf_3 : decode cX0_smallestOf 3 = .ok (.iload_n 2, 1) := by decide +kernel
theorem dX0_smallestOf_4 : decode cX0_smallestOf 4 = .ok (.ifCond .lt 30, 3) := by decide +kernel
theorem dX0_smallestOf_7 : decode cX0_smallestOf 7 = .ok (.aload_n 0, 1) := by decide +kernel
theorem dX0_smallestOf_8 : decode cX0_smallestOf 8 = .ok (.getfield 15, 3) := by decide +kernel
theorem dX0_smallestOf_11 : decode cX0_smallestOf 11 = .ok (.iload_n 2, 1) := by decide +kernel
theorem dX0_smallestOf_12 : decode cX0_smallestOf 12 = .ok (.aload_n 0, 1) := by decide +kernel
theorem dX0_smallestOf_13 : decode cX0_smallestOf 13 = .ok (.getfield 15, 3) := by decide +kernel
theorem dX0_smallestOf_16 : decode cX0_smallestOf 16 = .ok (.iload_n 2, 1) := by decide +kernel
theorem dX0_smallestOf_17 : decode cX0_smallestOf 17 = .ok (.iconst 1, 1) := by decide +kernel
theorem dX0_smallestOf_18 : decode cX0_smallestOf 18 = .ok (.iadd, 1) := by decide +kernel
theorem dX0_smallestOf_19 : decode cX0_smallestOf 19 = .ok (.iaload, 1) := by decide +kernel
theorem dX0_smallestOf_20 : decode cX0_smallestOf 20 = .ok (.aload_n 0, 1) := by decide +kernel
theorem dX0_smallestOf_21 : decode cX0_smallestOf 21 = .ok (.getfield 9, 3) := by decide +kernel
theorem dX0_smallestOf_24 : decode cX0_smallestOf 24 = .ok (.iload_n 2, 1) := by decide +kernel
theorem dX0_smallestOf_25 : decode cX0_smallestOf 25 = .ok (.iaload, 1) := by decide +kernel
theorem dX0_smallestOf_26 : decode cX0_smallestOf 26 = .ok (.ior, 1) := by decide +kernel
theorem dX0_smallestOf_27 : decode cX0_smallestOf 27 = .ok (.iastore, 1) := by decide +kernel
theorem dX0_smallestOf_28 : decode cX0_smallestOf 28 = .ok (.iinc 2 (-1), 3) := by decide +kernel
theorem dX0_smallestOf_31 : decode cX0_smallestOf 31 = .ok (.goto (-28), 3) := by decide +kernel
theorem dX0_smallestOf_34 : decode cX0_smallestOf 34 = .ok (.iconst 0, 1) := by decide +kernel
theorem dX0_smallestOf_35 : decode cX0_smallestOf 35 = .ok (.istore_n 2, 1) := by decide +kernel
theorem dX0_smallestOf_36 : decode cX0_smallestOf 36 = .ok (.iload_n 2, 1) := by decide +kernel
theorem dX0_smallestOf_37 : decode cX0_smallestOf 37 = .ok (.bipush 16, 2) := by decide +kernel
theorem dX0_smallestOf_39 : decode cX0_smallestOf 39 = .ok (.if_icmp .gt 31, 3) := by decide +kernel
theorem dX0_smallestOf_42 : decode cX0_smallestOf 42 = .ok (.aload_n 0, 1) := by decide +kernel
theorem dX0_smallestOf_43 : decode cX0_smallestOf 43 = .ok (.getfield 9, 3) := by decide +kernel
theorem dX0_smallestOf_46 : decode cX0_smallestOf 46 = .ok (.aload_n 0, 1) := by decide +kernel
theorem dX0_smallestOf_47 : decode cX0_smallestOf 47 = .ok (.getfield 15, 3) := by decide +kernel
theorem dX0_smallestOf_50 : decode cX0_smallestOf 50 = .ok (.iconst 0, 1) := by decide +kernel
theorem dX0_smallestOf_51 : decode cX0_smallestOf 51 = .ok (.iload_n 2, 1) := by decide +kernel
theorem dX0_smallestOf_52 : decode cX0_smallestOf 52 = .ok (.iload_n 1, 1) := by decide +kernel
theorem dX0_smallestOf_53 : decode cX0_smallestOf 53 = .ok (.invokestatic 18, 3) := by decide +kernel
theorem dX0_smallestOf_56 : decode cX0_smallestOf 56 = .ok (.istore_n 3, 1) := by decide +kernel
theorem dX0_smallestOf_57 : decode cX0_smallestOf 57 = .ok (.iload_n 3, 1) := by decide +kernel
theorem dX0_smallestOf_58 : decode cX0_smallestOf 58 = .ok (.iconst (-1), 1) := by decide +kernel
theorem dX0_smallestOf_59 : decode cX0_smallestOf 59 = .ok (.if_icmp .eq 5, 3) := by decide +kernel
theorem dX0_smallestOf_62 : decode cX0_smallestOf 62 = .ok (.iload_n 3, 1) := by decide +kernel
theorem dX0_smallestOf_63 : decode cX0_smallestOf 63 = .ok (.ireturn, 1) := by decide +kernel
theorem dX0_smallestOf_64 : decode cX0_smallestOf 64 = .ok (.iinc 2 1, 3) := by decide +kernel
theorem dX0_smallestOf_67 : decode cX0_smallestOf 67 = .ok (.goto (-31), 3) := by decide +kernel
theorem dX0_smallestOf_70 : decode cX0_smallestOf 70 = .ok (.iconst 0, 1) := by decide +kernel
theorem dX0_smallestOf_71 : decode cX0_smallestOf 71 = .ok (.ireturn, 1) := by decide +kernel
theorem dX0_coverFrom_0 : decode cX0_coverFrom 0 = .ok (.iload 4, 2) := by decide +kernel
theorem dX0_coverFrom_2 : decode cX0_coverFrom 2 = .ok (.ifCond .ne 5, 3) := by decide +kernel
theorem dX0_coverFrom_5 : decode cX0_coverFrom 5 = .ok (.iconst 0, 1) := by decide +kernel
theorem dX0_coverFrom_6 : decode cX0_coverFrom 6 = .ok (.ireturn, 1) := by decide +kernel
theorem dX0_coverFrom_7 : decode cX0_coverFrom 7 = .ok (.iload_n 3, 1) := by decide +kernel
theorem dX0_coverFrom_8 : decode cX0_coverFrom 8 = .ok (.ifCond .le 24, 3) := by decide +kernel
theorem dX0_coverFrom_11 : decode cX0_coverFrom 11 = .ok (.iload_n 2, 1) := by decide +kernel
theorem dX0_coverFrom_12 : decode cX0_coverFrom 12 = .ok (.ifCond .lt 20, 3) := by decide +kernel
theorem dX0_coverFrom_15 : decode cX0_coverFrom 15 = .ok (.iload_n 2, 1) := by decide +kernel
theorem dX0_coverFrom_16 : decode cX0_coverFrom 16 = .ok (.bipush 16, 2) := by decide +kernel
theorem dX0_coverFrom_18 : decode cX0_coverFrom 18 = .ok (.if_icmp .ge 14, 3) := by decide +kernel
theorem dX0_coverFrom_21 : decode cX0_coverFrom 21 = .ok (.iload 4, 2) := by decide +kernel
theorem dX0_coverFrom_23 : decode cX0_coverFrom 23 = .ok (.aload_n 1, 1) := by decide +kernel
theorem dX0_coverFrom_24 : decode cX0_coverFrom 24 = .ok (.iload_n 2, 1) := by decide +kernel
theorem dX0_coverFrom_25 : decode cX0_coverFrom 25 = .ok (.iaload, 1) := by decide +kernel
theorem dX0_coverFrom_26 : decode cX0_coverFrom 26 = .ok (.iconst (-1), 1) := by decide +kernel
theorem dX0_coverFrom_27 : decode cX0_coverFrom 27 = .ok (.ixor, 1) := by decide +kernel
theorem dX0_coverFrom_28 : decode cX0_coverFrom 28 = .ok (.iand, 1) := by decide +kernel
theorem dX0_coverFrom_29 : decode cX0_coverFrom 29 = .ok (.ifCond .eq 5, 3) := by decide +kernel
theorem dX0_coverFrom_32 : decode cX0_coverFrom 32 = .ok (.iconst (-1), 1) := by decide +kernel
theorem dX0_coverFrom_33 : decode cX0_coverFrom 33 = .ok (.ireturn, 1) := by decide +kernel
theorem dX0_coverFrom_34 : decode cX0_coverFrom 34 = .ok (.iload 4, 2) := by decide +kernel
theorem dX0_coverFrom_36 : decode cX0_coverFrom 36 = .ok (.aload_n 0, 1) := by decide +kernel
theorem dX0_coverFrom_37 : decode cX0_coverFrom 37 = .ok (.iload_n 2, 1) := by decide +kernel
theorem dX0_coverFrom_38 : decode cX0_coverFrom 38 = .ok (.iaload, 1) := by decide +kernel
theorem dX0_coverFrom_39 : decode cX0_coverFrom 39 = .ok (.iand, 1) := by decide +kernel
theorem dX0_coverFrom_40 : decode cX0_coverFrom 40 = .ok (.ifCond .eq 41, 3) := by decide +kernel
theorem dX0_coverFrom_43 : decode cX0_coverFrom 43 = .ok (.iload 4, 2) := by decide +kernel
theorem dX0_coverFrom_45 : decode cX0_coverFrom 45 = .ok (.aload_n 0, 1) := by decide +kernel
theorem dX0_coverFrom_46 : decode cX0_coverFrom 46 = .ok (.iload_n 2, 1) := by decide +kernel
theorem dX0_coverFrom_47 : decode cX0_coverFrom 47 = .ok (.iaload, 1) := by decide +kernel
theorem dX0_coverFrom_48 : decode cX0_coverFrom 48 = .ok (.iconst (-1), 1) := by decide +kernel
theorem dX0_coverFrom_49 : decode cX0_coverFrom 49 = .ok (.ixor, 1) := by decide +kernel
theorem dX0_coverFrom_50 : decode cX0_coverFrom 50 = .ok (.iand, 1) := by decide +kernel
theorem dX0_coverFrom_51 : decode cX0_coverFrom 51 = .ok (.istore 5, 2) := by decide +kernel
theorem dX0_coverFrom_53 : decode cX0_coverFrom 53 = .ok (.aload_n 0, 1) := by decide +kernel
theorem dX0_coverFrom_54 : decode cX0_coverFrom 54 = .ok (.aload_n 1, 1) := by decide +kernel
theorem dX0_coverFrom_55 : decode cX0_coverFrom 55 = .ok (.iload_n 2, 1) := by decide +kernel
theorem dX0_coverFrom_56 : decode cX0_coverFrom 56 = .ok (.iconst 1, 1) := by decide +kernel
theorem dX0_coverFrom_57 : decode cX0_coverFrom 57 = .ok (.iadd, 1) := by decide +kernel
theorem dX0_coverFrom_58 : decode cX0_coverFrom 58 = .ok (.iload_n 3, 1) := by decide +kernel
theorem dX0_coverFrom_59 : decode cX0_coverFrom 59 = .ok (.iconst 1, 1) := by decide +kernel
theorem dX0_coverFrom_60 : decode cX0_coverFrom 60 = .ok (.isub, 1) := by decide +kernel
theorem dX0_coverFrom_61 : decode cX0_coverFrom 61 = .ok (.iload 5, 2) := by decide +kernel
theorem dX0_coverFrom_63 : decode cX0_coverFrom 63 = .ok (.invokestatic 18, 3) := by decide +kernel
theorem dX0_coverFrom_66 : decode cX0_coverFrom 66 = .ok (.istore 6, 2) := by decide +kernel
theorem dX0_coverFrom_68 : decode cX0_coverFrom 68 = .ok (.iload 6, 2) := by decide +kernel
theorem dX0_coverFrom_70 : decode cX0_coverFrom 70 = .ok (.iconst (-1), 1) := by decide +kernel
theorem dX0_coverFrom_71 : decode cX0_coverFrom 71 = .ok (.if_icmp .eq 10, 3) := by decide +kernel
theorem dX0_coverFrom_74 : decode cX0_coverFrom 74 = .ok (.iload 6, 2) := by decide +kernel
theorem dX0_coverFrom_76 : decode cX0_coverFrom 76 = .ok (.iconst 1, 1) := by decide +kernel
theorem dX0_coverFrom_77 : decode cX0_coverFrom 77 = .ok (.iload_n 2, 1) := by decide +kernel
theorem dX0_coverFrom_78 : decode cX0_coverFrom 78 = .ok (.ishl, 1) := by decide +kernel
theorem dX0_coverFrom_79 : decode cX0_coverFrom 79 = .ok (.ior, 1) := by decide +kernel
theorem dX0_coverFrom_80 : decode cX0_coverFrom 80 = .ok (.ireturn, 1) := by decide +kernel
theorem dX0_coverFrom_81 : decode cX0_coverFrom 81 = .ok (.aload_n 0, 1) := by decide +kernel
theorem dX0_coverFrom_82 : decode cX0_coverFrom 82 = .ok (.aload_n 1, 1) := by decide +kernel
theorem dX0_coverFrom_83 : decode cX0_coverFrom 83 = .ok (.iload_n 2, 1) := by decide +kernel
theorem dX0_coverFrom_84 : decode cX0_coverFrom 84 = .ok (.iconst 1, 1) := by decide +kernel
theorem dX0_coverFrom_85 : decode cX0_coverFrom 85 = .ok (.iadd, 1) := by decide +kernel
theorem dX0_coverFrom_86 : decode cX0_coverFrom 86 = .ok (.iload_n 3, 1) := by decide +kernel
theorem dX0_coverFrom_87 : decode cX0_coverFrom 87 = .ok (.iload 4, 2) := by decide +kernel
theorem dX0_coverFrom_89 : decode cX0_coverFrom 89 = .ok (.invokestatic 18, 3) := by decide +kernel
theorem dX0_coverFrom_92 : decode cX0_coverFrom 92 = .ok (.ireturn, 1) := by decide +kernel
theorem dX1_init_0 : decode cX1_init 0 = .ok (.aload_n 0, 1) := by decide +kernel
theorem dX1_init_1 : decode cX1_init 1 = .ok (.invokespecial 3, 3) := by decide +kernel
theorem dX1_init_4 : decode cX1_init 4 = .ok (.aload_n 0, 1) := by decide +kernel
theorem dX1_init_5 : decode cX1_init 5 = .ok (.bipush 16, 2) := by decide +kernel
theorem dX1_init_7 : decode cX1_init 7 = .ok (.newarray .int, 2) := by decide +kernel
theorem dX1_init_9 : decode cX1_init 9 = .ok (.putfield 9, 3) := by decide +kernel
theorem dX1_init_12 : decode cX1_init 12 = .ok (.aload_n 0, 1) := by decide +kernel
theorem dX1_init_13 : decode cX1_init 13 = .ok (.bipush 16, 2) := by decide +kernel
theorem dX1_init_15 : decode cX1_init 15 = .ok (.newarray .int, 2) := by decide +kernel
theorem dX1_init_17 : decode cX1_init 17 = .ok (.putfield 15, 3) := by decide +kernel
theorem dX1_init_20 : decode cX1_init 20 = .ok (.return_, 1) := by decide +kernel
theorem dX1_grow_0 : decode cX1_grow 0 = .ok (.aload_n 0, 1) := by decide +kernel
theorem dX1_grow_1 : decode cX1_grow 1 = .ok (.getfield 18, 3) := by decide +kernel
theorem dX1_grow_4 : decode cX1_grow 4 = .ok (.istore_n 1, 1) := by decide +kernel
theorem dX1_grow_5 : decode cX1_grow 5 = .ok (.aload_n 0, 1) := by decide +kernel
theorem dX1_grow_6 : decode cX1_grow 6 = .ok (.dup, 1) := by decide +kernel
theorem dX1_grow_7 : decode cX1_grow 7 = .ok (.getfield 18, 3) := by decide +kernel
theorem dX1_grow_10 : decode cX1_grow 10 = .ok (.iconst 1, 1) := by decide +kernel
theorem dX1_grow_11 : decode cX1_grow 11 = .ok (.iadd, 1) := by decide +kernel
theorem dX1_grow_12 : decode cX1_grow 12 = .ok (.putfield 18, 3) := by decide +kernel
theorem dX1_grow_15 : decode cX1_grow 15 = .ok (.aload_n 0, 1) := by decide +kernel
theorem dX1_grow_16 : decode cX1_grow 16 = .ok (.iload_n 1, 1) := by decide +kernel
theorem dX1_grow_17 : decode cX1_grow 17 = .ok (.iconst (-1), 1) := by decide +kernel
theorem dX1_grow_18 : decode cX1_grow 18 = .ok (.invokevirtual 22, 3) := by decide +kernel
theorem dX1_grow_21 : decode cX1_grow 21 = .ok (.iload_n 1, 1) := by decide +kernel
theorem dX1_grow_22 : decode cX1_grow 22 = .ok (.ireturn, 1) := by decide +kernel
theorem dX1_hang_0 : decode cX1_hang 0 = .ok (.aload_n 0, 1) := by decide +kernel
theorem dX1_hang_1 : decode cX1_hang 1 = .ok (.getfield 9, 3) := by decide +kernel
theorem dX1_hang_4 : decode cX1_hang 4 = .ok (.iload_n 1, 1) := by decide +kernel
theorem dX1_hang_5 : decode cX1_hang 5 = .ok (.iload_n 2, 1) := by decide +kernel
theorem dX1_hang_6 : decode cX1_hang 6 = .ok (.iastore, 1) := by decide +kernel
theorem dX1_hang_7 : decode cX1_hang 7 = .ok (.iconst 0, 1) := by decide +kernel
theorem dX1_hang_8 : decode cX1_hang 8 = .ok (.istore_n 3, 1) := by decide +kernel
theorem dX1_hang_9 : decode cX1_hang 9 = .ok (.iload_n 3, 1) := by decide +kernel
theorem dX1_hang_10 : decode cX1_hang 10 = .ok (.aload_n 0, 1) := by decide +kernel
theorem dX1_hang_11 : decode cX1_hang 11 = .ok (.getfield 18, 3) := by decide +kernel
theorem dX1_hang_14 : decode cX1_hang 14 = .ok (.if_icmp .ge 20, 3) := by decide +kernel
theorem dX1_hang_17 : decode cX1_hang 17 = .ok (.aload_n 0, 1) := by decide +kernel
theorem dX1_hang_18 : decode cX1_hang 18 = .ok (.getfield 15, 3) := by decide +kernel
theorem dX1_hang_21 : decode cX1_hang 21 = .ok (.iload_n 3, 1) := by decide +kernel
theorem dX1_hang_22 : decode cX1_hang 22 = .ok (.aload_n 0, 1) := by decide +kernel
theorem dX1_hang_23 : decode cX1_hang 23 = .ok (.iload_n 3, 1) := by decide +kernel
theorem dX1_hang_24 : decode cX1_hang 24 = .ok (.invokevirtual 26, 3) := by decide +kernel
theorem dX1_hang_27 : decode cX1_hang 27 = .ok (.iastore, 1) := by decide +kernel
theorem dX1_hang_28 : decode cX1_hang 28 = .ok (.iinc 3 1, 3) := by decide +kernel
theorem dX1_hang_31 : decode cX1_hang 31 = .ok (.goto (-22), 3) := by decide +kernel
theorem dX1_hang_34 : decode cX1_hang 34 = .ok (.return_, 1) := by decide +kernel
theorem dX1_lineFrom_0 : decode cX1_lineFrom 0 = .ok (.iconst 0, 1) := by decide +kernel
theorem dX1_lineFrom_1 : decode cX1_lineFrom 1 = .ok (.istore_n 2, 1) := by decide +kernel
theorem dX1_lineFrom_2 : decode cX1_lineFrom 2 = .ok (.iload_n 1, 1) := by decide +kernel
theorem dX1_lineFrom_3 : decode cX1_lineFrom 3 = .ok (.istore_n 3, 1) := by decide +kernel
theorem dX1_lineFrom_4 : decode cX1_lineFrom 4 = .ok (.iconst 0, 1) := by decide +kernel
theorem dX1_lineFrom_5 : decode cX1_lineFrom 5 = .ok (.istore 4, 2) := by decide +kernel
theorem dX1_lineFrom_7 : decode cX1_lineFrom 7 = .ok (.iload 4, 2) := by decide +kernel
theorem dX1_lineFrom_9 : decode cX1_lineFrom 9 = .ok (.bipush 16, 2) := by decide +kernel
theorem dX1_lineFrom_11 : decode cX1_lineFrom 11 = .ok (.if_icmp .ge 34, 3) := by decide +kernel
theorem dX1_lineFrom_14 : decode cX1_lineFrom 14 = .ok (.iload_n 3, 1) := by decide +kernel
theorem dX1_lineFrom_15 : decode cX1_lineFrom 15 = .ok (.ifCond .lt 30, 3) := by decide +kernel
theorem dX1_lineFrom_18 : decode cX1_lineFrom 18 = .ok (.iload_n 3, 1) := by decide +kernel
theorem dX1_lineFrom_19 : decode cX1_lineFrom 19 = .ok (.aload_n 0, 1) := by decide +kernel
theorem dX1_lineFrom_20 : decode cX1_lineFrom 20 = .ok (.getfield 18, 3) := by decide +kernel
theorem dX1_lineFrom_23 : decode cX1_lineFrom 23 = .ok (.if_icmp .ge 22, 3) := by decide +kernel
theorem dX1_lineFrom_26 : decode cX1_lineFrom 26 = .ok (.iload_n 2, 1) := by decide +kernel
theorem dX1_lineFrom_27 : decode cX1_lineFrom 27 = .ok (.iconst 1, 1) := by decide +kernel
theorem dX1_lineFrom_28 : decode cX1_lineFrom 28 = .ok (.iload_n 3, 1) := by decide +kernel
theorem dX1_lineFrom_29 : decode cX1_lineFrom 29 = .ok (.ishl, 1) := by decide +kernel
theorem dX1_lineFrom_30 : decode cX1_lineFrom 30 = .ok (.ior, 1) := by decide +kernel
theorem dX1_lineFrom_31 : decode cX1_lineFrom 31 = .ok (.istore_n 2, 1) := by decide +kernel
theorem dX1_lineFrom_32 : decode cX1_lineFrom 32 = .ok (.aload_n 0, 1) := by decide +kernel
theorem dX1_lineFrom_33 : decode cX1_lineFrom 33 = .ok (.getfield 9, 3) := by decide +kernel
theorem dX1_lineFrom_36 : decode cX1_lineFrom 36 = .ok (.iload_n 3, 1) := by decide +kernel
theorem dX1_lineFrom_37 : decode cX1_lineFrom 37 = .ok (.iaload, 1) := by decide +kernel
theorem dX1_lineFrom_38 : decode cX1_lineFrom 38 = .ok (.istore_n 3, 1) := by decide +kernel
theorem dX1_lineFrom_39 : decode cX1_lineFrom 39 = .ok (.iinc 4 1, 3) := by decide +kernel
theorem dX1_lineFrom_42 : decode cX1_lineFrom 42 = .ok (.goto (-35), 3) := by decide +kernel
theorem dX1_lineFrom_45 : decode cX1_lineFrom 45 = .ok (.iload_n 2, 1) := by decide +kernel
theorem dX1_lineFrom_46 : decode cX1_lineFrom 46 = .ok (.ireturn, 1) := by decide +kernel
theorem dX1_linesOf_0 : decode cX1_linesOf 0 = .ok (.iconst 0, 1) := by decide +kernel
theorem dX1_linesOf_1 : decode cX1_linesOf 1 = .ok (.istore_n 2, 1) := by decide +kernel
theorem dX1_linesOf_2 : decode cX1_linesOf 2 = .ok (.iconst 0, 1) := by decide +kernel
theorem dX1_linesOf_3 : decode cX1_linesOf 3 = .ok (.istore_n 3, 1) := by decide +kernel
theorem dX1_linesOf_4 : decode cX1_linesOf 4 = .ok (.iload_n 3, 1) := by decide +kernel
theorem dX1_linesOf_5 : decode cX1_linesOf 5 = .ok (.aload_n 0, 1) := by decide +kernel
theorem dX1_linesOf_6 : decode cX1_linesOf 6 = .ok (.getfield 18, 3) := by decide +kernel
theorem dX1_linesOf_9 : decode cX1_linesOf 9 = .ok (.if_icmp .ge 26, 3) := by decide +kernel
theorem dX1_linesOf_12 : decode cX1_linesOf 12 = .ok (.iload_n 3, 1) := by decide +kernel
theorem dX1_linesOf_13 : decode cX1_linesOf 13 = .ok (.iload_n 1, 1) := by decide +kernel
theorem dX1_linesOf_14 : decode cX1_linesOf 14 = .ok (.invokestatic 30, 3) := by decide +kernel
theorem dX1_linesOf_17 : decode cX1_linesOf 17 = .ok (.ifCond .eq 12, 3) := by decide +kernel
theorem dX1_linesOf_20 : decode cX1_linesOf 20 = .ok (.iload_n 2, 1) := by decide +kernel
theorem dX1_linesOf_21 : decode cX1_linesOf 21 = .ok (.aload_n 0, 1) := by decide +kernel
theorem dX1_linesOf_22 : decode cX1_linesOf 22 = .ok (.getfield 15, 3) := by decide +kernel
theorem dX1_linesOf_25 : decode cX1_linesOf 25 = .ok (.iload_n 3, 1) := by decide +kernel
theorem dX1_linesOf_26 : decode cX1_linesOf 26 = .ok (.iaload, 1) := by decide +kernel
theorem dX1_linesOf_27 : decode cX1_linesOf 27 = .ok (.ior, 1) := by decide +kernel
theorem dX1_linesOf_28 : decode cX1_linesOf 28 = .ok (.istore_n 2, 1) := by decide +kernel
theorem dX1_linesOf_29 : decode cX1_linesOf 29 = .ok (.iinc 3 1, 3) := by decide +kernel
theorem dX1_linesOf_32 : decode cX1_linesOf 32 = .ok (.goto (-28), 3) := by decide +kernel
theorem dX1_linesOf_35 : decode cX1_linesOf 35 = .ok (.iload_n 2, 1) := by decide +kernel
theorem dX1_linesOf_36 : decode cX1_linesOf 36 = .ok (.ireturn, 1) := by decide +kernel
theorem dX1_standsBelow_0 : decode cX1_standsBelow 0 = .ok (.iload_n 1, 1) := by decide +kernel
theorem dX1_standsBelow_1 : decode cX1_standsBelow 1 = .ok (.iload_n 2, 1) := by decide +kernel
theorem dX1_standsBelow_2 : decode cX1_standsBelow 2 = .ok (.if_icmp .eq 20, 3) := by decide +kernel
theorem dX1_standsBelow_5 : decode cX1_standsBelow 5 = .ok (.iload_n 2, 1) := by decide +kernel
theorem dX1_standsBelow_6 : decode cX1_standsBelow 6 = .ok (.aload_n 0, 1) := by decide +kernel
theorem dX1_standsBelow_7 : decode cX1_standsBelow 7 = .ok (.getfield 15, 3) := by decide +kernel
theorem dX1_standsBelow_10 : decode cX1_standsBelow 10 = .ok (.iload_n 1, 1) := by decide +kernel
theorem dX1_standsBelow_11 : decode cX1_standsBelow 11 = .ok (.iaload, 1) := by decide +kernel
theorem dX1_standsBelow_12 : decode cX1_standsBelow 12 = .ok (.invokestatic 30, 3) := by decide +kernel
theorem dX1_standsBelow_15 : decode cX1_standsBelow 15 = .ok (.ifCond .eq 7, 3) := by decide +kernel
theorem dX1_standsBelow_18 : decode cX1_standsBelow 18 = .ok (.iconst 1, 1) := by decide +kernel
theorem dX1_standsBelow_19 : decode cX1_standsBelow 19 = .ok (.goto 4, 3) := by decide +kernel
theorem dX1_standsBelow_22 : decode cX1_standsBelow 22 = .ok (.iconst 0, 1) := by decide +kernel
theorem dX1_standsBelow_23 : decode cX1_standsBelow 23 = .ok (.ireturn, 1) := by decide +kernel
theorem dX1_canHang_0 : decode cX1_canHang 0 = .ok (.iload_n 1, 1) := by decide +kernel
theorem dX1_canHang_1 : decode cX1_canHang 1 = .ok (.iload_n 2, 1) := by decide +kernel
theorem dX1_canHang_2 : decode cX1_canHang 2 = .ok (.if_icmp .eq 16, 3) := by decide +kernel
theorem dX1_canHang_5 : decode cX1_canHang 5 = .ok (.aload_n 0, 1) := by decide +kernel
theorem dX1_canHang_6 : decode cX1_canHang 6 = .ok (.iload_n 2, 1) := by decide +kernel
theorem dX1_canHang_7 : decode cX1_canHang 7 = .ok (.iload_n 1, 1) := by decide +kernel
theorem dX1_canHang_8 : decode cX1_canHang 8 = .ok (.invokevirtual 34, 3) := by decide +kernel
theorem dX1_canHang_11 : decode cX1_canHang 11 = .ok (.ifCond .ne 7, 3) := by decide +kernel
theorem dX1_canHang_14 : decode cX1_canHang 14 = .ok (.iconst 1, 1) := by decide +kernel
theorem dX1_canHang_15 : decode cX1_canHang 15 = .ok (.goto 4, 3) := by decide +kernel
theorem dX1_canHang_18 : decode cX1_canHang 18 = .ok (.iconst 0, 1) := by decide +kernel
theorem dX1_canHang_19 : decode cX1_canHang 19 = .ok (.ireturn, 1) := by decide +kernel
theorem dX1_countAbove_0 : decode cX1_countAbove 0 = .ok (.aload_n 0, 1) := by decide +kernel
theorem dX1_countAbove_1 : decode cX1_countAbove 1 = .ok (.getfield 15, 3) := by decide +kernel
theorem dX1_countAbove_4 : decode cX1_countAbove 4 = .ok (.iload_n 1, 1) := by decide +kernel
theorem dX1_countAbove_5 : decode cX1_countAbove 5 = .ok (.iaload, 1) := by decide +kernel
theorem dX1_countAbove_6 : decode cX1_countAbove 6 = .ok (.invokestatic 37, 3) := by decide +kernel
theorem dX1_countAbove_9 : decode cX1_countAbove 9 = .ok (.iconst 1, 1) := by decide +kernel
theorem dX1_countAbove_10 : decode cX1_countAbove 10 = .ok (.isub, 1) := by decide +kernel
theorem dX1_countAbove_11 : decode cX1_countAbove 11 = .ok (.ireturn, 1) := by decide +kernel
theorem dX1_countBelow_0 : decode cX1_countBelow 0 = .ok (.iconst 0, 1) := by decide +kernel
theorem dX1_countBelow_1 : decode cX1_countBelow 1 = .ok (.istore_n 2, 1) := by decide +kernel
theorem dX1_countBelow_2 : decode cX1_countBelow 2 = .ok (.iconst 0, 1) := by decide +kernel
theorem dX1_countBelow_3 : decode cX1_countBelow 3 = .ok (.istore_n 3, 1) := by decide +kernel
theorem dX1_countBelow_4 : decode cX1_countBelow 4 = .ok (.iload_n 3, 1) := by decide +kernel
theorem dX1_countBelow_5 : decode cX1_countBelow 5 = .ok (.aload_n 0, 1) := by decide +kernel
theorem dX1_countBelow_6 : decode cX1_countBelow 6 = .ok (.getfield 18, 3) := by decide +kernel
theorem dX1_countBelow_9 : decode cX1_countBelow 9 = .ok (.if_icmp .ge 21, 3) := by decide +kernel
theorem dX1_countBelow_12 : decode cX1_countBelow 12 = .ok (.aload_n 0, 1) := by decide +kernel
theorem dX1_countBelow_13 : decode cX1_countBelow 13 = .ok (.iload_n 3, 1) := by decide +kernel
theorem dX1_countBelow_14 : decode cX1_countBelow 14 = .ok (.iload_n 1, 1) := by decide +kernel
theorem dX1_countBelow_15 : decode cX1_countBelow 15 = .ok (.invokevirtual 34, 3) := by decide +kernel
theorem dX1_countBelow_18 : decode cX1_countBelow 18 = .ok (.ifCond .eq 6, 3) := by decide +kernel
theorem dX1_countBelow_21 : decode cX1_countBelow 21 = .ok (.iinc 2 1, 3) := by decide +kernel
theorem dX1_countBelow_24 : decode cX1_countBelow 24 = .ok (.iinc 3 1, 3) := by decide +kernel
theorem dX1_countBelow_27 : decode cX1_countBelow 27 = .ok (.goto (-23), 3) := by decide +kernel
theorem dX1_countBelow_30 : decode cX1_countBelow 30 = .ok (.iload_n 2, 1) := by decide +kernel
theorem dX1_countBelow_31 : decode cX1_countBelow 31 = .ok (.ireturn, 1) := by decide +kernel
theorem dX1_lowestOf_0 : decode cX1_lowestOf 0 = .ok (.iconst (-1), 1) := by decide +kernel
theorem dX1_lowestOf_1 : decode cX1_lowestOf 1 = .ok (.istore_n 2, 1) := by decide +kernel
theorem dX1_lowestOf_2 : decode cX1_lowestOf 2 = .ok (.iconst (-1), 1) := by decide +kernel
theorem dX1_lowestOf_3 : decode cX1_lowestOf 3 = .ok (.istore_n 3, 1) := by decide +kernel
theorem dX1_lowestOf_4 : decode cX1_lowestOf 4 = .ok (.iconst 0, 1) := by decide +kernel
theorem dX1_lowestOf_5 : decode cX1_lowestOf 5 = .ok (.istore 4, 2) := by decide +kernel
theorem dX1_lowestOf_7 : decode cX1_lowestOf 7 = .ok (.iload 4, 2) := by decide +kernel
theorem dX1_lowestOf_9 : decode cX1_lowestOf 9 = .ok (.aload_n 0, 1) := by decide +kernel
theorem dX1_lowestOf_10 : decode cX1_lowestOf 10 = .ok (.getfield 18, 3) := by decide +kernel
theorem dX1_lowestOf_13 : decode cX1_lowestOf 13 = .ok (.if_icmp .ge 38, 3) := by decide +kernel
theorem dX1_lowestOf_16 : decode cX1_lowestOf 16 = .ok (.iload 4, 2) := by decide +kernel
theorem dX1_lowestOf_18 : decode cX1_lowestOf 18 = .ok (.iload_n 1, 1) := by decide +kernel
theorem dX1_lowestOf_19 : decode cX1_lowestOf 19 = .ok (.invokestatic 30, 3) := by decide +kernel
theorem dX1_lowestOf_22 : decode cX1_lowestOf 22 = .ok (.ifCond .eq 23, 3) := by decide +kernel
theorem dX1_lowestOf_25 : decode cX1_lowestOf 25 = .ok (.aload_n 0, 1) := by decide +kernel
theorem dX1_lowestOf_26 : decode cX1_lowestOf 26 = .ok (.iload 4, 2) := by decide +kernel
theorem dX1_lowestOf_28 : decode cX1_lowestOf 28 = .ok (.invokevirtual 42, 3) := by decide +kernel
theorem dX1_lowestOf_31 : decode cX1_lowestOf 31 = .ok (.iload_n 3, 1) := by decide +kernel
theorem dX1_lowestOf_32 : decode cX1_lowestOf 32 = .ok (.if_icmp .le 13, 3) := by decide +kernel
theorem dX1_lowestOf_35 : decode cX1_lowestOf 35 = .ok (.aload_n 0, 1) := by decide +kernel
theorem dX1_lowestOf_36 : decode cX1_lowestOf 36 = .ok (.iload 4, 2) := by decide +kernel
theorem dX1_lowestOf_38 : decode cX1_lowestOf 38 = .ok (.invokevirtual 42, 3) := by decide +kernel
theorem dX1_lowestOf_41 : decode cX1_lowestOf 41 = .ok (.istore_n 3, 1) := by decide +kernel
theorem dX1_lowestOf_42 : decode cX1_lowestOf 42 = .ok (.iload 4, 2) := by decide +kernel
theorem dX1_lowestOf_44 : decode cX1_lowestOf 44 = .ok (.istore_n 2, 1) := by decide +kernel
theorem dX1_lowestOf_45 : decode cX1_lowestOf 45 = .ok (.iinc 4 1, 3) := by decide +kernel
theorem dX1_lowestOf_48 : decode cX1_lowestOf 48 = .ok (.goto (-41), 3) := by decide +kernel
theorem dX1_lowestOf_51 : decode cX1_lowestOf 51 = .ok (.iload_n 2, 1) := by decide +kernel
theorem dX1_lowestOf_52 : decode cX1_lowestOf 52 = .ok (.ireturn, 1) := by decide +kernel
theorem dX2_init_0 : decode cX2_init 0 = .ok (.aload_n 0, 1) := by decide +kernel
theorem dX2_init_1 : decode cX2_init 1 = .ok (.invokespecial 3, 3) := by decide +kernel
theorem dX2_init_4 : decode cX2_init 4 = .ok (.aload_n 0, 1) := by decide +kernel
theorem dX2_init_5 : decode cX2_init 5 = .ok (.bipush 20, 2) := by decide +kernel
theorem dX2_init_7 : decode cX2_init 7 = .ok (.newarray .int, 2) := by decide +kernel
theorem dX2_init_9 : decode cX2_init 9 = .ok (.putfield 9, 3) := by decide +kernel
theorem dX2_init_12 : decode cX2_init 12 = .ok (.aload_n 0, 1) := by decide +kernel
theorem dX2_init_13 : decode cX2_init 13 = .ok (.bipush 20, 2) := by decide +kernel
theorem dX2_init_15 : decode cX2_init 15 = .ok (.newarray .int, 2) := by decide +kernel
theorem dX2_init_17 : decode cX2_init 17 = .ok (.putfield 15, 3) := by decide +kernel
theorem dX2_init_20 : decode cX2_init 20 = .ok (.aload_n 0, 1) := by decide +kernel
theorem dX2_init_21 : decode cX2_init 21 = .ok (.bipush 20, 2) := by decide +kernel
theorem dX2_init_23 : decode cX2_init 23 = .ok (.newarray .int, 2) := by decide +kernel
theorem dX2_init_25 : decode cX2_init 25 = .ok (.putfield 18, 3) := by decide +kernel
theorem dX2_init_28 : decode cX2_init 28 = .ok (.aload_n 0, 1) := by decide +kernel
theorem dX2_init_29 : decode cX2_init 29 = .ok (.bipush 20, 2) := by decide +kernel
theorem dX2_init_31 : decode cX2_init 31 = .ok (.newarray .int, 2) := by decide +kernel
theorem dX2_init_33 : decode cX2_init 33 = .ok (.putfield 21, 3) := by decide +kernel
theorem dX2_init_36 : decode cX2_init 36 = .ok (.return_, 1) := by decide +kernel
theorem dX2_add_0 : decode cX2_add 0 = .ok (.aload_n 0, 1) := by decide +kernel
theorem dX2_add_1 : decode cX2_add 1 = .ok (.getfield 24, 3) := by decide +kernel
theorem dX2_add_4 : decode cX2_add 4 = .ok (.istore 4, 2) := by decide +kernel
theorem dX2_add_6 : decode cX2_add 6 = .ok (.aload_n 0, 1) := by decide +kernel
theorem dX2_add_7 : decode cX2_add 7 = .ok (.dup, 1) := by decide +kernel
theorem dX2_add_8 : decode cX2_add 8 = .ok (.getfield 24, 3) := by decide +kernel
theorem dX2_add_11 : decode cX2_add 11 = .ok (.iconst 1, 1) := by decide +kernel
theorem dX2_add_12 : decode cX2_add 12 = .ok (.iadd, 1) := by decide +kernel
theorem dX2_add_13 : decode cX2_add 13 = .ok (.putfield 24, 3) := by decide +kernel
theorem dX2_add_16 : decode cX2_add 16 = .ok (.aload_n 0, 1) := by decide +kernel
theorem dX2_add_17 : decode cX2_add 17 = .ok (.getfield 9, 3) := by decide +kernel
theorem dX2_add_20 : decode cX2_add 20 = .ok (.iload 4, 2) := by decide +kernel
theorem dX2_add_22 : decode cX2_add 22 = .ok (.iload_n 1, 1) := by decide +kernel
theorem dX2_add_23 : decode cX2_add 23 = .ok (.iastore, 1) := by decide +kernel
theorem dX2_add_24 : decode cX2_add 24 = .ok (.aload_n 0, 1) := by decide +kernel
theorem dX2_add_25 : decode cX2_add 25 = .ok (.getfield 15, 3) := by decide +kernel
theorem dX2_add_28 : decode cX2_add 28 = .ok (.iload 4, 2) := by decide +kernel
theorem dX2_add_30 : decode cX2_add 30 = .ok (.iload_n 2, 1) := by decide +kernel
theorem dX2_add_31 : decode cX2_add 31 = .ok (.iastore, 1) := by decide +kernel
theorem dX2_add_32 : decode cX2_add 32 = .ok (.aload_n 0, 1) := by decide +kernel
theorem dX2_add_33 : decode cX2_add 33 = .ok (.getfield 18, 3) := by decide +kernel
theorem dX2_add_36 : decode cX2_add 36 = .ok (.iload 4, 2) := by decide +kernel
theorem dX2_add_38 : decode cX2_add 38 = .ok (.iload_n 3, 1) := by decide +kernel
theorem dX2_add_39 : decode cX2_add 39 = .ok (.iastore, 1) := by decide +kernel
theorem dX2_add_40 : decode cX2_add 40 = .ok (.iload 4, 2) := by decide +kernel
theorem dX2_add_42 : decode cX2_add 42 = .ok (.ireturn, 1) := by decide +kernel
theorem dX2_combine_0 : decode cX2_combine 0 = .ok (.aload_n 0, 1) := by decide +kernel
theorem dX2_combine_1 : decode cX2_combine 1 = .ok (.aload_n 0, 1) := by decide +kernel
theorem dX2_combine_2 : decode cX2_combine 2 = .ok (.getfield 15, 3) := by decide +kernel
theorem dX2_combine_5 : decode cX2_combine 5 = .ok (.iload_n 1, 1) := by decide +kernel
theorem dX2_combine_6 : decode cX2_combine 6 = .ok (.iaload, 1) := by decide +kernel
theorem dX2_combine_7 : decode cX2_combine 7 = .ok (.iload_n 1, 1) := by decide +kernel
theorem dX2_combine_8 : decode cX2_combine 8 = .ok (.invokevirtual 28, 3) := by decide +kernel
theorem dX2_combine_11 : decode cX2_combine 11 = .ok (.istore_n 3, 1) := by decide +kernel
theorem dX2_combine_12 : decode cX2_combine 12 = .ok (.aload_n 0, 1) := by decide +kernel
theorem dX2_combine_13 : decode cX2_combine 13 = .ok (.aload_n 0, 1) := by decide +kernel
theorem dX2_combine_14 : decode cX2_combine 14 = .ok (.getfield 18, 3) := by decide +kernel
theorem dX2_combine_17 : decode cX2_combine 17 = .ok (.iload_n 1, 1) := by decide +kernel
theorem dX2_combine_18 : decode cX2_combine 18 = .ok (.iaload, 1) := by decide +kernel
theorem dX2_combine_19 : decode cX2_combine 19 = .ok (.iload_n 1, 1) := by decide +kernel
theorem dX2_combine_20 : decode cX2_combine 20 = .ok (.invokevirtual 28, 3) := by decide +kernel
theorem dX2_combine_23 : decode cX2_combine 23 = .ok (.istore 4, 2) := by decide +kernel
theorem dX2_combine_25 : decode cX2_combine 25 = .ok (.aload_n 0, 1) := by decide +kernel
theorem dX2_combine_26 : decode cX2_combine 26 = .ok (.getfield 9, 3) := by decide +kernel
theorem dX2_combine_29 : decode cX2_combine 29 = .ok (.iload_n 1, 1) := by decide +kernel
theorem dX2_combine_30 : decode cX2_combine 30 = .ok (.iaload, 1) := by decide +kernel
theorem dX2_combine_31 : decode cX2_combine 31 = .ok (.iconst 1, 1) := by decide +kernel
theorem dX2_combine_32 : decode cX2_combine 32 = .ok (.if_icmp .ne 16, 3) := by decide +kernel
theorem dX2_combine_35 : decode cX2_combine 35 = .ok (.aload_n 0, 1) := by decide +kernel
theorem dX2_combine_36 : decode cX2_combine 36 = .ok (.getfield 21, 3) := by decide +kernel
theorem dX2_combine_39 : decode cX2_combine 39 = .ok (.iload_n 1, 1) := by decide +kernel
theorem dX2_combine_40 : decode cX2_combine 40 = .ok (.iload_n 3, 1) := by decide +kernel
theorem dX2_combine_41 : decode cX2_combine 41 = .ok (.iload 4, 2) := by decide +kernel
theorem dX2_combine_43 : decode cX2_combine 43 = .ok (.iand, 1) := by decide +kernel
theorem dX2_combine_44 : decode cX2_combine 44 = .ok (.iastore, 1) := by decide +kernel
theorem dX2_combine_45 : decode cX2_combine 45 = .ok (.goto 37, 3) := by decide +kernel
theorem dX2_combine_48 : decode cX2_combine 48 = .ok (.aload_n 0, 1) := by decide +kernel
theorem dX2_combine_49 : decode cX2_combine 49 = .ok (.getfield 9, 3) := by decide +kernel
theorem dX2_combine_52 : decode cX2_combine 52 = .ok (.iload_n 1, 1) := by decide +kernel
theorem dX2_combine_53 : decode cX2_combine 53 = .ok (.iaload, 1) := by decide +kernel
theorem dX2_combine_54 : decode cX2_combine 54 = .ok (.iconst 2, 1) := by decide +kernel
theorem dX2_combine_55 : decode cX2_combine 55 = .ok (.if_icmp .ne 16, 3) := by decide +kernel
theorem dX2_combine_58 : decode cX2_combine 58 = .ok (.aload_n 0, 1) := by decide +kernel
theorem dX2_combine_59 : decode cX2_combine 59 = .ok (.getfield 21, 3) := by decide +kernel
theorem dX2_combine_62 : decode cX2_combine 62 = .ok (.iload_n 1, 1) := by decide +kernel
theorem dX2_combine_63 : decode cX2_combine 63 = .ok (.iload_n 3, 1) := by decide +kernel
theorem dX2_combine_64 : decode cX2_combine 64 = .ok (.iload 4, 2) := by decide +kernel
theorem dX2_combine_66 : decode cX2_combine 66 = .ok (.ior, 1) := by decide +kernel
theorem dX2_combine_67 : decode cX2_combine 67 = .ok (.iastore, 1) := by decide +kernel
theorem dX2_combine_68 : decode cX2_combine 68 = .ok (.goto 14, 3) := by decide +kernel
theorem dX2_combine_71 : decode cX2_combine 71 = .ok (.aload_n 0, 1) := by decide +kernel
theorem dX2_combine_72 : decode cX2_combine 72 = .ok (.getfield 21, 3) := by decide +kernel
theorem dX2_combine_75 : decode cX2_combine 75 = .ok (.iload_n 1, 1) := by decide +kernel
theorem dX2_combine_76 : decode cX2_combine 76 = .ok (.iload_n 2, 1) := by decide +kernel
theorem dX2_combine_77 : decode cX2_combine 77 = .ok (.iload_n 3, 1) := by decide +kernel
theorem dX2_combine_78 : decode cX2_combine 78 = .ok (.iconst (-1), 1) := by decide +kernel
theorem dX2_combine_79 : decode cX2_combine 79 = .ok (.ixor, 1) := by decide +kernel
theorem dX2_combine_80 : decode cX2_combine 80 = .ok (.iand, 1) := by decide +kernel
theorem dX2_combine_81 : decode cX2_combine 81 = .ok (.iastore, 1) := by decide +kernel
theorem dX2_combine_82 : decode cX2_combine 82 = .ok (.return_, 1) := by decide +kernel
theorem dX2_matchedAhead_0 : decode cX2_matchedAhead 0 = .ok (.iload_n 1, 1) := by decide +kernel
theorem dX2_matchedAhead_1 : decode cX2_matchedAhead 1 = .ok (.ifCond .lt 17, 3) := by decide +kernel
theorem dX2_matchedAhead_4 : decode cX2_matchedAhead 4 = .ok (.iload_n 1, 1) := by decide +kernel
theorem dX2_matchedAhead_5 : decode cX2_matchedAhead 5 = .ok (.iload_n 2, 1) := by decide +kernel
theorem dX2_matchedAhead_6 : decode cX2_matchedAhead 6 = .ok (.if_icmp .ge 12, 3) := by decide +kernel
theorem dX2_matchedAhead_9 : decode cX2_matchedAhead 9 = .ok (.aload_n 0, 1) := by decide +kernel
theorem dX2_matchedAhead_10 : decode cX2_matchedAhead 10 = .ok (.getfield 21, 3) := by decide +kernel
theorem dX2_matchedAhead_13 : decode cX2_matchedAhead 13 = .ok (.iload_n 1, 1) := by decide +kernel
theorem dX2_matchedAhead_14 : decode cX2_matchedAhead 14 = .ok (.iaload, 1) := by decide +kernel
theorem dX2_matchedAhead_15 : decode cX2_matchedAhead 15 = .ok (.goto 4, 3) := by decide +kernel
theorem dX2_matchedAhead_18 : decode cX2_matchedAhead 18 = .ok (.iconst 0, 1) := by decide +kernel
theorem dX2_matchedAhead_19 : decode cX2_matchedAhead 19 = .ok (.ireturn, 1) := by decide +kernel
theorem dX3_init_0 : decode cX3_init 0 = .ok (.aload_n 0, 1) := by decide +kernel
theorem dX3_init_1 : decode cX3_init 1 = .ok (.invokespecial 1, 3) := by decide +kernel
theorem dX3_init_4 : decode cX3_init 4 = .ok (.aload_n 0, 1) := by decide +kernel
theorem dX3_init_5 : decode cX3_init 5 = .ok (.new 7, 3) := by decide +kernel
theorem dX3_init_8 : decode cX3_init 8 = .ok (.dup, 1) := by decide +kernel
theorem dX3_init_9 : decode cX3_init 9 = .ok (.invokespecial 9, 3) := by decide +kernel
theorem dX3_init_12 : decode cX3_init 12 = .ok (.putfield 10, 3) := by decide +kernel
theorem dX3_init_15 : decode cX3_init 15 = .ok (.aload_n 0, 1) := by decide +kernel
theorem dX3_init_16 : decode cX3_init 16 = .ok (.new 16, 3) := by decide +kernel
theorem dX3_init_19 : decode cX3_init 19 = .ok (.dup, 1) := by decide +kernel
theorem dX3_init_20 : decode cX3_init 20 = .ok (.invokespecial 18, 3) := by decide +kernel
theorem dX3_init_23 : decode cX3_init 23 = .ok (.putfield 19, 3) := by decide +kernel
theorem dX3_init_26 : decode cX3_init 26 = .ok (.aload_n 0, 1) := by decide +kernel
theorem dX3_init_27 : decode cX3_init 27 = .ok (.new 23, 3) := by decide +kernel
theorem dX3_init_30 : decode cX3_init 30 = .ok (.dup, 1) := by decide +kernel
theorem dX3_init_31 : decode cX3_init 31 = .ok (.invokespecial 25, 3) := by decide +kernel
theorem dX3_init_34 : decode cX3_init 34 = .ok (.putfield 26, 3) := by decide +kernel
theorem dX3_init_37 : decode cX3_init 37 = .ok (.aload_n 0, 1) := by decide +kernel
theorem dX3_init_38 : decode cX3_init 38 = .ok (.bipush 24, 2) := by decide +kernel
theorem dX3_init_40 : decode cX3_init 40 = .ok (.newarray .int, 2) := by decide +kernel
theorem dX3_init_42 : decode cX3_init 42 = .ok (.putfield 30, 3) := by decide +kernel
theorem dX3_init_45 : decode cX3_init 45 = .ok (.aload_n 0, 1) := by decide +kernel
theorem dX3_init_46 : decode cX3_init 46 = .ok (.bipush 24, 2) := by decide +kernel
theorem dX3_init_48 : decode cX3_init 48 = .ok (.newarray .int, 2) := by decide +kernel
theorem dX3_init_50 : decode cX3_init 50 = .ok (.putfield 34, 3) := by decide +kernel
theorem dX3_init_53 : decode cX3_init 53 = .ok (.aload_n 0, 1) := by decide +kernel
theorem dX3_init_54 : decode cX3_init 54 = .ok (.bipush 24, 2) := by decide +kernel
theorem dX3_init_56 : decode cX3_init 56 = .ok (.newarray .int, 2) := by decide +kernel
theorem dX3_init_58 : decode cX3_init 58 = .ok (.putfield 37, 3) := by decide +kernel
theorem dX3_init_61 : decode cX3_init 61 = .ok (.aload_n 0, 1) := by decide +kernel
theorem dX3_init_62 : decode cX3_init 62 = .ok (.bipush 24, 2) := by decide +kernel
theorem dX3_init_64 : decode cX3_init 64 = .ok (.newarray .int, 2) := by decide +kernel
theorem dX3_init_66 : decode cX3_init 66 = .ok (.putfield 40, 3) := by decide +kernel
theorem dX3_init_69 : decode cX3_init 69 = .ok (.return_, 1) := by decide +kernel
theorem dX3_addTag_0 : decode cX3_addTag 0 = .ok (.aload_n 0, 1) := by decide +kernel
theorem dX3_addTag_1 : decode cX3_addTag 1 = .ok (.getfield 10, 3) := by decide +kernel
theorem dX3_addTag_4 : decode cX3_addTag 4 = .ok (.getfield 43, 3) := by decide +kernel
theorem dX3_addTag_7 : decode cX3_addTag 7 = .ok (.bipush 16, 2) := by decide +kernel
theorem dX3_addTag_9 : decode cX3_addTag 9 = .ok (.if_icmp .lt 13, 3) := by decide +kernel
theorem dX3_addTag_12 : decode cX3_addTag 12 = .ok (.new 47, 3) := by decide +kernel
theorem dX3_addTag_15 : decode cX3_addTag 15 = .ok (.dup, 1) := by decide +kernel
theorem dX3_addTag_16 : decode cX3_addTag 16 = .ok (.ldc 49, 2) := by decide +kernel
theorem dX3_addTag_18 : decode cX3_addTag 18 = .ok (.invokespecial 51, 3) := by decide +kernel
theorem dX3_addTag_21 : decode cX3_addTag 21 = .ok (.athrow, 1) := by decide +kernel
theorem dX3_addTag_22 : decode cX3_addTag 22 = .ok (.aload_n 0, 1) := by decide +kernel
theorem dX3_addTag_23 : decode cX3_addTag 23 = .ok (.getfield 10, 3) := by decide +kernel
theorem dX3_addTag_26 : decode cX3_addTag 26 = .ok (.invokevirtual 54, 3) := by decide +kernel
theorem dX3_addTag_29 : decode cX3_addTag 29 = .ok (.ireturn, 1) := by decide +kernel
theorem dX3_putUnder_0 : decode cX3_putUnder 0 = .ok (.aload_n 0, 1) := by decide +kernel
theorem dX3_putUnder_1 : decode cX3_putUnder 1 = .ok (.iload_n 1, 1) := by decide +kernel
theorem dX3_putUnder_2 : decode cX3_putUnder 2 = .ok (.iload_n 2, 1) := by decide +kernel
theorem dX3_putUnder_3 : decode cX3_putUnder 3 = .ok (.invokevirtual 58, 3) := by decide +kernel
theorem dX3_putUnder_6 : decode cX3_putUnder 6 = .ok (.aload_n 0, 1) := by decide +kernel
theorem dX3_putUnder_7 : decode cX3_putUnder 7 = .ok (.iload_n 1, 1) := by decide +kernel
theorem dX3_putUnder_8 : decode cX3_putUnder 8 = .ok (.iload_n 2, 1) := by decide +kernel
theorem dX3_putUnder_9 : decode cX3_putUnder 9 = .ok (.invokevirtual 62, 3) := by decide +kernel
theorem dX3_putUnder_12 : decode cX3_putUnder 12 = .ok (.aload_n 0, 1) := by decide +kernel
theorem dX3_putUnder_13 : decode cX3_putUnder 13 = .ok (.getfield 10, 3) := by decide +kernel
theorem dX3_putUnder_16 : decode cX3_putUnder 16 = .ok (.iload_n 1, 1) := by decide +kernel
theorem dX3_putUnder_17 : decode cX3_putUnder 17 = .ok (.invokevirtual 65, 3) := by decide +kernel
theorem dX3_putUnder_20 : decode cX3_putUnder 20 = .ok (.ireturn, 1) := by decide +kernel
theorem dX3_freeTag_0 : decode cX3_freeTag 0 = .ok (.aload_n 0, 1) := by decide +kernel
theorem dX3_freeTag_1 : decode cX3_freeTag 1 = .ok (.iload_n 1, 1) := by decide +kernel
theorem dX3_freeTag_2 : decode cX3_freeTag 2 = .ok (.invokevirtual 69, 3) := by decide +kernel
theorem dX3_freeTag_5 : decode cX3_freeTag 5 = .ok (.aload_n 0, 1) := by decide +kernel
theorem dX3_freeTag_6 : decode cX3_freeTag 6 = .ok (.getfield 10, 3) := by decide +kernel
theorem dX3_freeTag_9 : decode cX3_freeTag 9 = .ok (.getfield 73, 3) := by decide +kernel
theorem dX3_freeTag_12 : decode cX3_freeTag 12 = .ok (.iload_n 1, 1) := by decide +kernel
theorem dX3_freeTag_13 : decode cX3_freeTag 13 = .ok (.iaload, 1) := by decide +kernel
theorem dX3_freeTag_14 : decode cX3_freeTag 14 = .ok (.istore_n 2, 1) := by decide +kernel
theorem dX3_freeTag_15 : decode cX3_freeTag 15 = .ok (.aload_n 0, 1) := by decide +kernel
theorem dX3_freeTag_16 : decode cX3_freeTag 16 = .ok (.iload_n 1, 1) := by decide +kernel
theorem dX3_freeTag_17 : decode cX3_freeTag 17 = .ok (.iconst (-1), 1) := by decide +kernel
theorem dX3_freeTag_18 : decode cX3_freeTag 18 = .ok (.invokevirtual 62, 3) := by decide +kernel
theorem dX3_freeTag_21 : decode cX3_freeTag 21 = .ok (.iload_n 2, 1) := by decide +kernel
theorem dX3_freeTag_22 : decode cX3_freeTag 22 = .ok (.ireturn, 1) := by decide +kernel
theorem dX3_addDream_0 : decode cX3_addDream 0 = .ok (.aload_n 0, 1) := by decide +kernel
theorem dX3_addDream_1 : decode cX3_addDream 1 = .ok (.iload_n 1, 1) := by decide +kernel
theorem dX3_addDream_2 : decode cX3_addDream 2 = .ok (.invokevirtual 76, 3) := by decide +kernel
theorem dX3_addDream_5 : decode cX3_addDream 5 = .ok (.iload_n 2, 1) := by decide +kernel
theorem dX3_addDream_6 : decode cX3_addDream 6 = .ok (.iconst 1, 1) := by decide +kernel
theorem dX3_addDream_7 : decode cX3_addDream 7 = .ok (.if_icmp .lt 9, 3) := by decide +kernel
theorem dX3_addDream_10 : decode cX3_addDream 10 = .ok (.iload_n 2, 1) := by decide +kernel
theorem dX3_addDream_11 : decode cX3_addDream 11 = .ok (.bipush 9, 2) := by decide +kernel
theorem dX3_addDream_13 : decode cX3_addDream 13 = .ok (.if_icmp .le 13, 3) := by decide +kernel
theorem dX3_addDream_16 : decode cX3_addDream 16 = .ok (.new 79, 3) := by decide +kernel
theorem dX3_addDream_19 : decode cX3_addDream 19 = .ok (.dup, 1) := by decide +kernel
theorem dX3_addDream_20 : decode cX3_addDream 20 = .ok (.ldc 81, 2) := by decide +kernel
theorem dX3_addDream_22 : decode cX3_addDream 22 = .ok (.invokespecial 83, 3) := by decide +kernel
theorem dX3_addDream_25 : decode cX3_addDream 25 = .ok (.athrow, 1) := by decide +kernel
theorem dX3_addDream_26 : decode cX3_addDream 26 = .ok (.aload_n 0, 1) := by decide +kernel
theorem dX3_addDream_27 : decode cX3_addDream 27 = .ok (.getfield 84, 3) := by decide +kernel
theorem dX3_addDream_30 : decode cX3_addDream 30 = .ok (.bipush 24, 2) := by decide +kernel
theorem dX3_addDream_32 : decode cX3_addDream 32 = .ok (.if_icmp .lt 13, 3) := by decide +kernel
theorem dX3_addDream_35 : decode cX3_addDream 35 = .ok (.new 47, 3) := by decide +kernel
theorem dX3_addDream_38 : decode cX3_addDream 38 = .ok (.dup, 1) := by decide +kernel
theorem dX3_addDream_39 : decode cX3_addDream 39 = .ok (.ldc 87, 2) := by decide +kernel
theorem dX3_addDream_41 : decode cX3_addDream 41 = .ok (.invokespecial 51, 3) := by decide +kernel
theorem dX3_addDream_44 : decode cX3_addDream 44 = .ok (.athrow, 1) := by decide +kernel
theorem dX3_addDream_45 : decode cX3_addDream 45 = .ok (.aload_n 0, 1) := by decide +kernel
theorem dX3_addDream_46 : decode cX3_addDream 46 = .ok (.getfield 84, 3) := by decide +kernel
theorem dX3_addDream_49 : decode cX3_addDream 49 = .ok (.istore_n 3, 1) := by decide +kernel
theorem dX3_addDream_50 : decode cX3_addDream 50 = .ok (.aload_n 0, 1) := by decide +kernel
theorem dX3_addDream_51 : decode cX3_addDream 51 = .ok (.dup, 1) := by decide +kernel
theorem dX3_addDream_52 : decode cX3_addDream 52 = .ok (.getfield 84, 3) := by decide +kernel
theorem dX3_addDream_55 : decode cX3_addDream 55 = .ok (.iconst 1, 1) := by decide +kernel
theorem dX3_addDream_56 : decode cX3_addDream 56 = .ok (.iadd, 1) := by decide +kernel
theorem dX3_addDream_57 : decode cX3_addDream 57 = .ok (.putfield 84, 3) := by decide +kernel
theorem dX3_addDream_60 : decode cX3_addDream 60 = .ok (.aload_n 0, 1) := by decide +kernel
theorem dX3_addDream_61 : decode cX3_addDream 61 = .ok (.getfield 37, 3) := by decide +kernel
theorem dX3_addDream_64 : decode cX3_addDream 64 = .ok (.iload_n 3, 1) := by decide +kernel
theorem dX3_addDream_65 : decode cX3_addDream 65 = .ok (.iload_n 2, 1) := by decide +kernel
theorem dX3_addDream_66 : decode cX3_addDream 66 = .ok (.iastore, 1) := by decide +kernel
theorem dX3_addDream_67 : decode cX3_addDream 67 = .ok (.aload_n 0, 1) := by decide +kernel
theorem dX3_addDream_68 : decode cX3_addDream 68 = .ok (.getfield 40, 3) := by decide +kernel
theorem dX3_addDream_71 : decode cX3_addDream 71 = .ok (.iload_n 3, 1) := by decide +kernel
theorem dX3_addDream_72 : decode cX3_addDream 72 = .ok (.aload_n 0, 1) := by decide +kernel
theorem dX3_addDream_73 : decode cX3_addDream 73 = .ok (.getfield 89, 3) := by decide +kernel
theorem dX3_addDream_76 : decode cX3_addDream 76 = .ok (.iastore, 1) := by decide +kernel
theorem dX3_addDream_77 : decode cX3_addDream 77 = .ok (.aload_n 0, 1) := by decide +kernel
theorem dX3_addDream_78 : decode cX3_addDream 78 = .ok (.iload_n 3, 1) := by decide +kernel
theorem dX3_addDream_79 : decode cX3_addDream 79 = .ok (.iconst 1, 1) := by decide +kernel
theorem dX3_addDream_80 : decode cX3_addDream 80 = .ok (.iload_n 1, 1) := by decide +kernel
theorem dX3_addDream_81 : decode cX3_addDream 81 = .ok (.ishl, 1) := by decide +kernel
theorem dX3_addDream_82 : decode cX3_addDream 82 = .ok (.invokevirtual 92, 3) := by decide +kernel
theorem dX3_addDream_85 : decode cX3_addDream 85 = .ok (.iload_n 3, 1) := by decide +kernel
theorem dX3_addDream_86 : decode cX3_addDream 86 = .ok (.ireturn, 1) := by decide +kernel
theorem dX3_tagDream_0 : decode cX3_tagDream 0 = .ok (.aload_n 0, 1) := by decide +kernel
theorem dX3_tagDream_1 : decode cX3_tagDream 1 = .ok (.iload_n 1, 1) := by decide +kernel
theorem dX3_tagDream_2 : decode cX3_tagDream 2 = .ok (.invokevirtual 95, 3) := by decide +kernel
theorem dX3_tagDream_5 : decode cX3_tagDream 5 = .ok (.aload_n 0, 1) := by decide +kernel
theorem dX3_tagDream_6 : decode cX3_tagDream 6 = .ok (.iload_n 2, 1) := by decide +kernel
theorem dX3_tagDream_7 : decode cX3_tagDream 7 = .ok (.invokevirtual 76, 3) := by decide +kernel
theorem dX3_tagDream_10 : decode cX3_tagDream 10 = .ok (.iload_n 2, 1) := by decide +kernel
theorem dX3_tagDream_11 : decode cX3_tagDream 11 = .ok (.aload_n 0, 1) := by decide +kernel
theorem dX3_tagDream_12 : decode cX3_tagDream 12 = .ok (.getfield 30, 3) := by decide +kernel
theorem dX3_tagDream_15 : decode cX3_tagDream 15 = .ok (.iload_n 1, 1) := by decide +kernel
theorem dX3_tagDream_16 : decode cX3_tagDream 16 = .ok (.iaload, 1) := by decide +kernel
theorem dX3_tagDream_17 : decode cX3_tagDream 17 = .ok (.invokestatic 98, 3) := by decide +kernel
theorem dX3_tagDream_20 : decode cX3_tagDream 20 = .ok (.ifCond .eq 13, 3) := by decide +kernel
theorem dX3_tagDream_23 : decode cX3_tagDream 23 = .ok (.new 47, 3) := by decide +kernel
theorem dX3_tagDream_26 : decode cX3_tagDream 26 = .ok (.dup, 1) := by decide +kernel
theorem dX3_tagDream_27 : decode cX3_tagDream 27 = .ok (.ldc 102, 2) := by decide +kernel
theorem dX3_tagDream_29 : decode cX3_tagDream 29 = .ok (.invokespecial 51, 3) := by decide +kernel
theorem dX3_tagDream_32 : decode cX3_tagDream 32 = .ok (.athrow, 1) := by decide +kernel
theorem dX3_tagDream_33 : decode cX3_tagDream 33 = .ok (.aload_n 0, 1) := by decide +kernel
theorem dX3_tagDream_34 : decode cX3_tagDream 34 = .ok (.iload_n 1, 1) := by decide +kernel
theorem dX3_tagDream_35 : decode cX3_tagDream 35 = .ok (.aload_n 0, 1) := by decide +kernel
theorem dX3_tagDream_36 : decode cX3_tagDream 36 = .ok (.getfield 30, 3) := by decide +kernel
theorem dX3_tagDream_39 : decode cX3_tagDream 39 = .ok (.iload_n 1, 1) := by decide +kernel
theorem dX3_tagDream_40 : decode cX3_tagDream 40 = .ok (.iaload, 1) := by decide +kernel
theorem dX3_tagDream_41 : decode cX3_tagDream 41 = .ok (.iconst 1, 1) := by decide +kernel
theorem dX3_tagDream_42 : decode cX3_tagDream 42 = .ok (.iload_n 2, 1) := by decide +kernel
theorem dX3_tagDream_43 : decode cX3_tagDream 43 = .ok (.ishl, 1) := by decide +kernel
theorem dX3_tagDream_44 : decode cX3_tagDream 44 = .ok (.ior, 1) := by decide +kernel
theorem dX3_tagDream_45 : decode cX3_tagDream 45 = .ok (.invokevirtual 92, 3) := by decide +kernel
theorem dX3_tagDream_48 : decode cX3_tagDream 48 = .ok (.aload_n 0, 1) := by decide +kernel
theorem dX3_tagDream_49 : decode cX3_tagDream 49 = .ok (.getfield 30, 3) := by decide +kernel
theorem dX3_tagDream_52 : decode cX3_tagDream 52 = .ok (.iload_n 1, 1) := by decide +kernel
theorem dX3_tagDream_53 : decode cX3_tagDream 53 = .ok (.iaload, 1) := by decide +kernel
theorem dX3_tagDream_54 : decode cX3_tagDream 54 = .ok (.invokestatic 104, 3) := by decide +kernel
theorem dX3_tagDream_57 : decode cX3_tagDream 57 = .ok (.ireturn, 1) := by decide +kernel
theorem dX3_untagDream_0 : decode cX3_untagDream 0 = .ok (.aload_n 0, 1) := by decide +kernel
theorem dX3_untagDream_1 : decode cX3_untagDream 1 = .ok (.iload_n 1, 1) := by decide +kernel
theorem dX3_untagDream_2 : decode cX3_untagDream 2 = .ok (.invokevirtual 95, 3) := by decide +kernel
theorem dX3_untagDream_5 : decode cX3_untagDream 5 = .ok (.aload_n 0, 1) := by decide +kernel
theorem dX3_untagDream_6 : decode cX3_untagDream 6 = .ok (.iload_n 2, 1) := by decide +kernel
theorem dX3_untagDream_7 : decode cX3_untagDream 7 = .ok (.invokevirtual 76, 3) := by decide +kernel
theorem dX3_untagDream_10 : decode cX3_untagDream 10 = .ok (.iload_n 2, 1) := by decide +kernel
theorem dX3_untagDream_11 : decode cX3_untagDream 11 = .ok (.aload_n 0, 1) := by decide +kernel
theorem dX3_untagDream_12 : decode cX3_untagDream 12 = .ok (.getfield 30, 3) := by decide +kernel
theorem dX3_untagDream_15 : decode cX3_untagDream 15 = .ok (.iload_n 1, 1) := by decide +kernel
theorem dX3_untagDream_16 : decode cX3_untagDream 16 = .ok (.iaload, 1) := by decide +kernel
theorem dX3_untagDream_17 : decode cX3_untagDream 17 = .ok (.invokestatic 98, 3) := by decide +kernel
theorem dX3_untagDream_20 : decode cX3_untagDream 20 = .ok (.ifCond .ne 13, 3) := by decide +kernel
theorem dX3_untagDream_23 : decode cX3_untagDream 23 = .ok (.new 47, 3) := by decide +kernel
theorem dX3_untagDream_26 : decode cX3_untagDream 26 = .ok (.dup, 1) := by decide +kernel
theorem dX3_untagDream_27 : decode cX3_untagDream 27 = .ok (.ldc 109, 2) := by decide +kernel
theorem dX3_untagDream_29 : decode cX3_untagDream 29 = .ok (.invokespecial 51, 3) := by decide +kernel
theorem dX3_untagDream_32 : decode cX3_untagDream 32 = .ok (.athrow, 1) := by decide +kernel
theorem dX3_untagDream_33 : decode cX3_untagDream 33 = .ok (.aload_n 0, 1) := by decide +kernel
theorem dX3_untagDream_34 : decode cX3_untagDream 34 = .ok (.getfield 30, 3) := by decide +kernel
theorem dX3_untagDream_37 : decode cX3_untagDream 37 = .ok (.iload_n 1, 1) := by decide +kernel
theorem dX3_untagDream_38 : decode cX3_untagDream 38 = .ok (.iaload, 1) := by decide +kernel
theorem dX3_untagDream_39 : decode cX3_untagDream 39 = .ok (.iconst 1, 1) := by decide +kernel
theorem dX3_untagDream_40 : decode cX3_untagDream 40 = .ok (.iload_n 2, 1) := by decide +kernel
theorem dX3_untagDream_41 : decode cX3_untagDream 41 = .ok (.ishl, 1) := by decide +kernel
theorem dX3_untagDream_42 : decode cX3_untagDream 42 = .ok (.if_icmp .ne 13, 3) := by decide +kernel
theorem dX3_untagDream_45 : decode cX3_untagDream 45 = .ok (.new 47, 3) := by decide +kernel
theorem dX3_untagDream_48 : decode cX3_untagDream 48 = .ok (.dup, 1) := by decide +kernel
theorem dX3_untagDream_49 : decode cX3_untagDream 49 = .ok (.ldc 111, 2) := by decide +kernel
theorem dX3_untagDream_51 : decode cX3_untagDream 51 = .ok (.invokespecial 51, 3) := by decide +kernel
theorem dX3_untagDream_54 : decode cX3_untagDream 54 = .ok (.athrow, 1) := by decide +kernel
theorem dX3_untagDream_55 : decode cX3_untagDream 55 = .ok (.aload_n 0, 1) := by decide +kernel
theorem dX3_untagDream_56 : decode cX3_untagDream 56 = .ok (.iload_n 1, 1) := by decide +kernel
theorem dX3_untagDream_57 : decode cX3_untagDream 57 = .ok (.aload_n 0, 1) := by decide +kernel
theorem dX3_untagDream_58 : decode cX3_untagDream 58 = .ok (.getfield 30, 3) := by decide +kernel
theorem dX3_untagDream_61 : decode cX3_untagDream 61 = .ok (.iload_n 1, 1) := by decide +kernel
theorem dX3_untagDream_62 : decode cX3_untagDream 62 = .ok (.iaload, 1) := by decide +kernel
theorem dX3_untagDream_63 : decode cX3_untagDream 63 = .ok (.iconst 1, 1) := by decide +kernel
theorem dX3_untagDream_64 : decode cX3_untagDream 64 = .ok (.iload_n 2, 1) := by decide +kernel
theorem dX3_untagDream_65 : decode cX3_untagDream 65 = .ok (.ishl, 1) := by decide +kernel
theorem dX3_untagDream_66 : decode cX3_untagDream 66 = .ok (.iconst (-1), 1) := by decide +kernel
theorem dX3_untagDream_67 : decode cX3_untagDream 67 = .ok (.ixor, 1) := by decide +kernel
theorem dX3_untagDream_68 : decode cX3_untagDream 68 = .ok (.iand, 1) := by decide +kernel
theorem dX3_untagDream_69 : decode cX3_untagDream 69 = .ok (.invokevirtual 92, 3) := by decide +kernel
theorem dX3_untagDream_72 : decode cX3_untagDream 72 = .ok (.aload_n 0, 1) := by decide +kernel
theorem dX3_untagDream_73 : decode cX3_untagDream 73 = .ok (.getfield 30, 3) := by decide +kernel
theorem dX3_untagDream_76 : decode cX3_untagDream 76 = .ok (.iload_n 1, 1) := by decide +kernel
theorem dX3_untagDream_77 : decode cX3_untagDream 77 = .ok (.iaload, 1) := by decide +kernel
theorem dX3_untagDream_78 : decode cX3_untagDream 78 = .ok (.invokestatic 104, 3) := by decide +kernel
theorem dX3_untagDream_81 : decode cX3_untagDream 81 = .ok (.ireturn, 1) := by decide +kernel
theorem dX3_recall_0 : decode cX3_recall 0 = .ok (.aload_n 0, 1) := by decide +kernel
theorem dX3_recall_1 : decode cX3_recall 1 = .ok (.iload_n 1, 1) := by decide +kernel
theorem dX3_recall_2 : decode cX3_recall 2 = .ok (.invokevirtual 95, 3) := by decide +kernel
theorem dX3_recall_5 : decode cX3_recall 5 = .ok (.iload_n 2, 1) := by decide +kernel
theorem dX3_recall_6 : decode cX3_recall 6 = .ok (.ifCond .lt 9, 3) := by decide +kernel
theorem dX3_recall_9 : decode cX3_recall 9 = .ok (.iload_n 2, 1) := by decide +kernel
theorem dX3_recall_10 : decode cX3_recall 10 = .ok (.bipush 9, 2) := by decide +kernel
theorem dX3_recall_12 : decode cX3_recall 12 = .ok (.if_icmp .le 13, 3) := by decide +kernel
theorem dX3_recall_15 : decode cX3_recall 15 = .ok (.new 79, 3) := by decide +kernel
theorem dX3_recall_18 : decode cX3_recall 18 = .ok (.dup, 1) := by decide +kernel
theorem dX3_recall_19 : decode cX3_recall 19 = .ok (.ldc 113, 2) := by decide +kernel
theorem dX3_recall_21 : decode cX3_recall 21 = .ok (.invokespecial 83, 3) := by decide +kernel
theorem dX3_recall_24 : decode cX3_recall 24 = .ok (.athrow, 1) := by decide +kernel
theorem dX3_recall_25 : decode cX3_recall 25 = .ok (.aload_n 0, 1) := by decide +kernel
theorem dX3_recall_26 : decode cX3_recall 26 = .ok (.getfield 37, 3) := by decide +kernel
theorem dX3_recall_29 : decode cX3_recall 29 = .ok (.iload_n 1, 1) := by decide +kernel
theorem dX3_recall_30 : decode cX3_recall 30 = .ok (.iaload, 1) := by decide +kernel
theorem dX3_recall_31 : decode cX3_recall 31 = .ok (.istore_n 3, 1) := by decide +kernel
theorem dX3_recall_32 : decode cX3_recall 32 = .ok (.aload_n 0, 1) := by decide +kernel
theorem dX3_recall_33 : decode cX3_recall 33 = .ok (.getfield 37, 3) := by decide +kernel
theorem dX3_recall_36 : decode cX3_recall 36 = .ok (.iload_n 1, 1) := by decide +kernel
theorem dX3_recall_37 : decode cX3_recall 37 = .ok (.iload_n 2, 1) := by decide +kernel
theorem dX3_recall_38 : decode cX3_recall 38 = .ok (.iastore, 1) := by decide +kernel
theorem dX3_recall_39 : decode cX3_recall 39 = .ok (.iload_n 3, 1) := by decide +kernel
theorem dX3_recall_40 : decode cX3_recall 40 = .ok (.ireturn, 1) := by decide +kernel
theorem dX3_passNights_0 : decode cX3_passNights 0 = .ok (.aload_n 0, 1) := by decide +kernel
theorem dX3_passNights_1 : decode cX3_passNights 1 = .ok (.iload_n 1, 1) := by decide +kernel
theorem dX3_passNights_2 : decode cX3_passNights 2 = .ok (.invokevirtual 115, 3) := by decide +kernel
theorem dX3_passNights_5 : decode cX3_passNights 5 = .ok (.iconst 0, 1) := by decide +kernel
theorem dX3_passNights_6 : decode cX3_passNights 6 = .ok (.istore_n 2, 1) := by decide +kernel
theorem dX3_passNights_7 : decode cX3_passNights 7 = .ok (.iload_n 2, 1) := by decide +kernel
theorem dX3_passNights_8 : decode cX3_passNights 8 = .ok (.aload_n 0, 1) := by decide +kernel
theorem dX3_passNights_9 : decode cX3_passNights 9 = .ok (.getfield 84, 3) := by decide +kernel
theorem dX3_passNights_12 : decode cX3_passNights 12 = .ok (.if_icmp .ge 21, 3) := by decide +kernel
theorem dX3_passNights_15 : decode cX3_passNights 15 = .ok (.aload_n 0, 1) := by decide +kernel
theorem dX3_passNights_16 : decode cX3_passNights 16 = .ok (.getfield 37, 3) := by decide +kernel
theorem dX3_passNights_19 : decode cX3_passNights 19 = .ok (.iload_n 2, 1) := by decide +kernel
theorem dX3_passNights_20 : decode cX3_passNights 20 = .ok (.aload_n 0, 1) := by decide +kernel
theorem dX3_passNights_21 : decode cX3_passNights 21 = .ok (.iload_n 2, 1) := by decide +kernel
theorem dX3_passNights_22 : decode cX3_passNights 22 = .ok (.iload_n 1, 1) := by decide +kernel
theorem dX3_passNights_23 : decode cX3_passNights 23 = .ok (.invokevirtual 118, 3) := by decide +kernel
theorem dX3_passNights_26 : decode cX3_passNights 26 = .ok (.iastore, 1) := by decide +kernel
theorem dX3_passNights_27 : decode cX3_passNights 27 = .ok (.iinc 2 1, 3) := by decide +kernel
theorem dX3_passNights_30 : decode cX3_passNights 30 = .ok (.goto (-23), 3) := by decide +kernel
theorem dX3_passNights_33 : decode cX3_passNights 33 = .ok (.aload_n 0, 1) := by decide +kernel
theorem dX3_passNights_34 : decode cX3_passNights 34 = .ok (.dup, 1) := by decide +kernel
theorem dX3_passNights_35 : decode cX3_passNights 35 = .ok (.getfield 89, 3) := by decide +kernel
theorem dX3_passNights_38 : decode cX3_passNights 38 = .ok (.iload_n 1, 1) := by decide +kernel
theorem dX3_passNights_39 : decode cX3_passNights 39 = .ok (.iadd, 1) := by decide +kernel
theorem dX3_passNights_40 : decode cX3_passNights 40 = .ok (.putfield 89, 3) := by decide +kernel
theorem dX3_passNights_43 : decode cX3_passNights 43 = .ok (.aload_n 0, 1) := by decide +kernel
theorem dX3_passNights_44 : decode cX3_passNights 44 = .ok (.iconst 0, 1) := by decide +kernel
theorem dX3_passNights_45 : decode cX3_passNights 45 = .ok (.invokevirtual 122, 3) := by decide +kernel
theorem dX3_passNights_48 : decode cX3_passNights 48 = .ok (.ireturn, 1) := by decide +kernel
theorem dX3_addTagTerm_0 : decode cX3_addTagTerm 0 = .ok (.aload_n 0, 1) := by decide +kernel
theorem dX3_addTagTerm_1 : decode cX3_addTagTerm 1 = .ok (.iload_n 1, 1) := by decide +kernel
theorem dX3_addTagTerm_2 : decode cX3_addTagTerm 2 = .ok (.invokevirtual 76, 3) := by decide +kernel
theorem dX3_addTagTerm_5 : decode cX3_addTagTerm 5 = .ok (.aload_n 0, 1) := by decide +kernel
theorem dX3_addTagTerm_6 : decode cX3_addTagTerm 6 = .ok (.invokevirtual 125, 3) := by decide +kernel
theorem dX3_addTagTerm_9 : decode cX3_addTagTerm 9 = .ok (.aload_n 0, 1) := by decide +kernel
theorem dX3_addTagTerm_10 : decode cX3_addTagTerm 10 = .ok (.iconst 0, 1) := by decide +kernel
theorem dX3_addTagTerm_11 : decode cX3_addTagTerm 11 = .ok (.iload_n 1, 1) := by decide +kernel
theorem dX3_addTagTerm_12 : decode cX3_addTagTerm 12 = .ok (.iload_n 1, 1) := by decide +kernel
theorem dX3_addTagTerm_13 : decode cX3_addTagTerm 13 = .ok (.invokevirtual 128, 3) := by decide +kernel
theorem dX3_addTagTerm_16 : decode cX3_addTagTerm 16 = .ok (.ireturn, 1) := by decide +kernel
theorem dX3_addBothTerm_0 : decode cX3_addBothTerm 0 = .ok (.aload_n 0, 1) := by decide +kernel
theorem dX3_addBothTerm_1 : decode cX3_addBothTerm 1 = .ok (.iload_n 1, 1) := by decide +kernel
theorem dX3_addBothTerm_2 : decode cX3_addBothTerm 2 = .ok (.invokevirtual 132, 3) := by decide +kernel
theorem dX3_addBothTerm_5 : decode cX3_addBothTerm 5 = .ok (.aload_n 0, 1) := by decide +kernel
theorem dX3_addBothTerm_6 : decode cX3_addBothTerm 6 = .ok (.iload_n 2, 1) := by decide +kernel
theorem dX3_addBothTerm_7 : decode cX3_addBothTerm 7 = .ok (.invokevirtual 132, 3) := by decide +kernel
theorem dX3_addBothTerm_10 : decode cX3_addBothTerm 10 = .ok (.aload_n 0, 1) := by decide +kernel
theorem dX3_addBothTerm_11 : decode cX3_addBothTerm 11 = .ok (.invokevirtual 125, 3) := by decide +kernel
theorem dX3_addBothTerm_14 : decode cX3_addBothTerm 14 = .ok (.aload_n 0, 1) := by decide +kernel
theorem dX3_addBothTerm_15 : decode cX3_addBothTerm 15 = .ok (.iconst 1, 1) := by decide +kernel
theorem dX3_addBothTerm_16 : decode cX3_addBothTerm 16 = .ok (.iload_n 1, 1) := by decide +kernel
theorem dX3_addBothTerm_17 : decode cX3_addBothTerm 17 = .ok (.iload_n 2, 1) := by decide +kernel
theorem dX3_addBothTerm_18 : decode cX3_addBothTerm 18 = .ok (.invokevirtual 128, 3) := by decide +kernel
theorem dX3_addBothTerm_21 : decode cX3_addBothTerm 21 = .ok (.ireturn, 1) := by decide +kernel
theorem dX3_addEitherTerm_0 : decode cX3_addEitherTerm 0 = .ok (.aload_n 0, 1) := by decide +kernel
theorem dX3_addEitherTerm_1 : decode cX3_addEitherTerm 1 = .ok (.iload_n 1, 1) := by decide +kernel
theorem dX3_addEitherTerm_2 : decode cX3_addEitherTerm 2 = .ok (.invokevirtual 132, 3) := by decide +kernel
theorem dX3_addEitherTerm_5 : decode cX3_addEitherTerm 5 = .ok (.aload_n 0, 1) := by decide +kernel
theorem dX3_addEitherTerm_6 : decode cX3_addEitherTerm 6 = .ok (.iload_n 2, 1) := by decide +kernel
theorem dX3_addEitherTerm_7 : decode cX3_addEitherTerm 7 = .ok (.invokevirtual 132, 3) := by decide +kernel
theorem dX3_addEitherTerm_10 : decode cX3_addEitherTerm 10 = .ok (.aload_n 0, 1) := by decide +kernel
theorem dX3_addEitherTerm_11 : decode cX3_addEitherTerm 11 = .ok (.invokevirtual 125, 3) := by decide +kernel
theorem dX3_addEitherTerm_14 : decode cX3_addEitherTerm 14 = .ok (.aload_n 0, 1) := by decide +kernel
theorem dX3_addEitherTerm_15 : decode cX3_addEitherTerm 15 = .ok (.iconst 2, 1) := by decide +kernel
theorem dX3_addEitherTerm_16 : decode cX3_addEitherTerm 16 = .ok (.iload_n 1, 1) := by decide +kernel
theorem dX3_addEitherTerm_17 : decode cX3_addEitherTerm 17 = .ok (.iload_n 2, 1) := by decide +kernel
theorem dX3_addEitherTerm_18 : decode cX3_addEitherTerm 18 = .ok (.invokevirtual 128, 3) := by decide +kernel
theorem dX3_addEitherTerm_21 : decode cX3_addEitherTerm 21 = .ok (.ireturn, 1) := by decide +kernel
theorem dX3_addWithoutTerm_0 : decode cX3_addWithoutTerm 0 = .ok (.aload_n 0, 1) := by decide +kernel
theorem dX3_addWithoutTerm_1 : decode cX3_addWithoutTerm 1 = .ok (.iload_n 1, 1) := by decide +kernel
theorem dX3_addWithoutTerm_2 : decode cX3_addWithoutTerm 2 = .ok (.invokevirtual 132, 3) := by decide +kernel
theorem dX3_addWithoutTerm_5 : decode cX3_addWithoutTerm 5 = .ok (.aload_n 0, 1) := by decide +kernel
theorem dX3_addWithoutTerm_6 : decode cX3_addWithoutTerm 6 = .ok (.invokevirtual 125, 3) := by decide +kernel
theorem dX3_addWithoutTerm_9 : decode cX3_addWithoutTerm 9 = .ok (.aload_n 0, 1) := by decide +kernel
theorem dX3_addWithoutTerm_10 : decode cX3_addWithoutTerm 10 = .ok (.iconst 3, 1) := by decide +kernel
theorem dX3_addWithoutTerm_11 : decode cX3_addWithoutTerm 11 = .ok (.iload_n 1, 1) := by decide +kernel
theorem dX3_addWithoutTerm_12 : decode cX3_addWithoutTerm 12 = .ok (.iload_n 1, 1) := by decide +kernel
theorem dX3_addWithoutTerm_13 : decode cX3_addWithoutTerm 13 = .ok (.invokevirtual 128, 3) := by decide +kernel
theorem dX3_addWithoutTerm_16 : decode cX3_addWithoutTerm 16 = .ok (.ireturn, 1) := by decide +kernel
theorem dX3_clearTerms_0 : decode cX3_clearTerms 0 = .ok (.aload_n 0, 1) := by decide +kernel
theorem dX3_clearTerms_1 : decode cX3_clearTerms 1 = .ok (.getfield 19, 3) := by decide +kernel
theorem dX3_clearTerms_4 : decode cX3_clearTerms 4 = .ok (.getfield 135, 3) := by decide +kernel
theorem dX3_clearTerms_7 : decode cX3_clearTerms 7 = .ok (.istore_n 1, 1) := by decide +kernel
theorem dX3_clearTerms_8 : decode cX3_clearTerms 8 = .ok (.aload_n 0, 1) := by decide +kernel
theorem dX3_clearTerms_9 : decode cX3_clearTerms 9 = .ok (.getfield 19, 3) := by decide +kernel
theorem dX3_clearTerms_12 : decode cX3_clearTerms 12 = .ok (.iconst 0, 1) := by decide +kernel
theorem dX3_clearTerms_13 : decode cX3_clearTerms 13 = .ok (.putfield 135, 3) := by decide +kernel
theorem dX3_clearTerms_16 : decode cX3_clearTerms 16 = .ok (.iload_n 1, 1) := by decide +kernel
theorem dX3_clearTerms_17 : decode cX3_clearTerms 17 = .ok (.ireturn, 1) := by decide +kernel
theorem dX3_hasParent_0 : decode cX3_hasParent 0 = .ok (.aload_n 0, 1) := by decide +kernel
theorem dX3_hasParent_1 : decode cX3_hasParent 1 = .ok (.iload_n 1, 1) := by decide +kernel
theorem dX3_hasParent_2 : decode cX3_hasParent 2 = .ok (.invokevirtual 76, 3) := by decide +kernel
theorem dX3_hasParent_5 : decode cX3_hasParent 5 = .ok (.aload_n 0, 1) := by decide +kernel
theorem dX3_hasParent_6 : decode cX3_hasParent 6 = .ok (.getfield 10, 3) := by decide +kernel
theorem dX3_hasParent_9 : decode cX3_hasParent 9 = .ok (.getfield 73, 3) := by decide +kernel
theorem dX3_hasParent_12 : decode cX3_hasParent 12 = .ok (.iload_n 1, 1) := by decide +kernel
theorem dX3_hasParent_13 : decode cX3_hasParent 13 = .ok (.iaload, 1) := by decide +kernel
theorem dX3_hasParent_14 : decode cX3_hasParent 14 = .ok (.iconst (-1), 1) := by decide +kernel
theorem dX3_hasParent_15 : decode cX3_hasParent 15 = .ok (.if_icmp .eq 7, 3) := by decide +kernel
theorem dX3_hasParent_18 : decode cX3_hasParent 18 = .ok (.iconst 1, 1) := by decide +kernel
theorem dX3_hasParent_19 : decode cX3_hasParent 19 = .ok (.goto 4, 3) := by decide +kernel
theorem dX3_hasParent_22 : decode cX3_hasParent 22 = .ok (.iconst 0, 1) := by decide +kernel
theorem dX3_hasParent_23 : decode cX3_hasParent 23 = .ok (.ireturn, 1) := by decide +kernel
theorem dX3_parentOf_0 : decode cX3_parentOf 0 = .ok (.aload_n 0, 1) := by decide +kernel
theorem dX3_parentOf_1 : decode cX3_parentOf 1 = .ok (.iload_n 1, 1) := by decide +kernel
theorem dX3_parentOf_2 : decode cX3_parentOf 2 = .ok (.invokevirtual 69, 3) := by decide +kernel
theorem dX3_parentOf_5 : decode cX3_parentOf 5 = .ok (.aload_n 0, 1) := by decide +kernel
theorem dX3_parentOf_6 : decode cX3_parentOf 6 = .ok (.getfield 10, 3) := by decide +kernel
theorem dX3_parentOf_9 : decode cX3_parentOf 9 = .ok (.getfield 73, 3) := by decide +kernel
theorem dX3_parentOf_12 : decode cX3_parentOf 12 = .ok (.iload_n 1, 1) := by decide +kernel
theorem dX3_parentOf_13 : decode cX3_parentOf 13 = .ok (.iaload, 1) := by decide +kernel
theorem dX3_parentOf_14 : decode cX3_parentOf 14 = .ok (.ireturn, 1) := by decide +kernel
theorem dX3_tagsAbove_0 : decode cX3_tagsAbove 0 = .ok (.aload_n 0, 1) := by decide +kernel
theorem dX3_tagsAbove_1 : decode cX3_tagsAbove 1 = .ok (.iload_n 1, 1) := by decide +kernel
theorem dX3_tagsAbove_2 : decode cX3_tagsAbove 2 = .ok (.invokevirtual 76, 3) := by decide +kernel
theorem dX3_tagsAbove_5 : decode cX3_tagsAbove 5 = .ok (.aload_n 0, 1) := by decide +kernel
theorem dX3_tagsAbove_6 : decode cX3_tagsAbove 6 = .ok (.getfield 10, 3) := by decide +kernel
theorem dX3_tagsAbove_9 : decode cX3_tagsAbove 9 = .ok (.iload_n 1, 1) := by decide +kernel
theorem dX3_tagsAbove_10 : decode cX3_tagsAbove 10 = .ok (.invokevirtual 65, 3) := by decide +kernel
theorem dX3_tagsAbove_13 : decode cX3_tagsAbove 13 = .ok (.ireturn, 1) := by decide +kernel
theorem dX3_tagsBelow_0 : decode cX3_tagsBelow 0 = .ok (.aload_n 0, 1) := by decide +kernel
theorem dX3_tagsBelow_1 : decode cX3_tagsBelow 1 = .ok (.iload_n 1, 1) := by decide +kernel
theorem dX3_tagsBelow_2 : decode cX3_tagsBelow 2 = .ok (.invokevirtual 76, 3) := by decide +kernel
theorem dX3_tagsBelow_5 : decode cX3_tagsBelow 5 = .ok (.aload_n 0, 1) := by decide +kernel
theorem dX3_tagsBelow_6 : decode cX3_tagsBelow 6 = .ok (.getfield 10, 3) := by decide +kernel
theorem dX3_tagsBelow_9 : decode cX3_tagsBelow 9 = .ok (.iload_n 1, 1) := by decide +kernel
theorem dX3_tagsBelow_10 : decode cX3_tagsBelow 10 = .ok (.invokevirtual 136, 3) := by decide +kernel
theorem dX3_tagsBelow_13 : decode cX3_tagsBelow 13 = .ok (.ireturn, 1) := by decide +kernel
theorem dX3_isBelow_0 : decode cX3_isBelow 0 = .ok (.aload_n 0, 1) := by decide +kernel
theorem dX3_isBelow_1 : decode cX3_isBelow 1 = .ok (.iload_n 1, 1) := by decide +kernel
theorem dX3_isBelow_2 : decode cX3_isBelow 2 = .ok (.invokevirtual 76, 3) := by decide +kernel
theorem dX3_isBelow_5 : decode cX3_isBelow 5 = .ok (.aload_n 0, 1) := by decide +kernel
theorem dX3_isBelow_6 : decode cX3_isBelow 6 = .ok (.iload_n 2, 1) := by decide +kernel
theorem dX3_isBelow_7 : decode cX3_isBelow 7 = .ok (.invokevirtual 76, 3) := by decide +kernel
theorem dX3_isBelow_10 : decode cX3_isBelow 10 = .ok (.aload_n 0, 1) := by decide +kernel
theorem dX3_isBelow_11 : decode cX3_isBelow 11 = .ok (.getfield 10, 3) := by decide +kernel
theorem dX3_isBelow_14 : decode cX3_isBelow 14 = .ok (.iload_n 1, 1) := by decide +kernel
theorem dX3_isBelow_15 : decode cX3_isBelow 15 = .ok (.iload_n 2, 1) := by decide +kernel
theorem dX3_isBelow_16 : decode cX3_isBelow 16 = .ok (.invokevirtual 139, 3) := by decide +kernel
theorem dX3_isBelow_19 : decode cX3_isBelow 19 = .ok (.ireturn, 1) := by decide +kernel
theorem dX3_nearestAbove_0 : decode cX3_nearestAbove 0 = .ok (.aload_n 0, 1) := by decide +kernel
theorem dX3_nearestAbove_1 : decode cX3_nearestAbove 1 = .ok (.iload_n 1, 1) := by decide +kernel
theorem dX3_nearestAbove_2 : decode cX3_nearestAbove 2 = .ok (.invokevirtual 76, 3) := by decide +kernel
theorem dX3_nearestAbove_5 : decode cX3_nearestAbove 5 = .ok (.aload_n 0, 1) := by decide +kernel
theorem dX3_nearestAbove_6 : decode cX3_nearestAbove 6 = .ok (.iload_n 2, 1) := by decide +kernel
theorem dX3_nearestAbove_7 : decode cX3_nearestAbove 7 = .ok (.invokevirtual 76, 3) := by decide +kernel
theorem dX3_nearestAbove_10 : decode cX3_nearestAbove 10 = .ok (.aload_n 0, 1) := by decide +kernel
theorem dX3_nearestAbove_11 : decode cX3_nearestAbove 11 = .ok (.getfield 10, 3) := by decide +kernel
theorem dX3_nearestAbove_14 : decode cX3_nearestAbove 14 = .ok (.aload_n 0, 1) := by decide +kernel
theorem dX3_nearestAbove_15 : decode cX3_nearestAbove 15 = .ok (.getfield 10, 3) := by decide +kernel
theorem dX3_nearestAbove_18 : decode cX3_nearestAbove 18 = .ok (.getfield 142, 3) := by decide +kernel
theorem dX3_nearestAbove_21 : decode cX3_nearestAbove 21 = .ok (.iload_n 1, 1) := by decide +kernel
theorem dX3_nearestAbove_22 : decode cX3_nearestAbove 22 = .ok (.iaload, 1) := by decide +kernel
theorem dX3_nearestAbove_23 : decode cX3_nearestAbove 23 = .ok (.aload_n 0, 1) := by decide +kernel
theorem dX3_nearestAbove_24 : decode cX3_nearestAbove 24 = .ok (.getfield 10, 3) := by decide +kernel
theorem dX3_nearestAbove_27 : decode cX3_nearestAbove 27 = .ok (.getfield 142, 3) := by decide +kernel
theorem dX3_nearestAbove_30 : decode cX3_nearestAbove 30 = .ok (.iload_n 2, 1) := by decide +kernel
theorem dX3_nearestAbove_31 : decode cX3_nearestAbove 31 = .ok (.iaload, 1) := by decide +kernel
theorem dX3_nearestAbove_32 : decode cX3_nearestAbove 32 = .ok (.iand, 1) := by decide +kernel
theorem dX3_nearestAbove_33 : decode cX3_nearestAbove 33 = .ok (.invokevirtual 145, 3) := by decide +kernel
theorem dX3_nearestAbove_36 : decode cX3_nearestAbove 36 = .ok (.ireturn, 1) := by decide +kernel
theorem dX3_dreamsWith_0 : decode cX3_dreamsWith 0 = .ok (.aload_n 0, 1) := by decide +kernel
theorem dX3_dreamsWith_1 : decode cX3_dreamsWith 1 = .ok (.iload_n 1, 1) := by decide +kernel
theorem dX3_dreamsWith_2 : decode cX3_dreamsWith 2 = .ok (.invokevirtual 76, 3) := by decide +kernel
theorem dX3_dreamsWith_5 : decode cX3_dreamsWith 5 = .ok (.aload_n 0, 1) := by decide +kernel
theorem dX3_dreamsWith_6 : decode cX3_dreamsWith 6 = .ok (.iload_n 1, 1) := by decide +kernel
theorem dX3_dreamsWith_7 : decode cX3_dreamsWith 7 = .ok (.invokevirtual 148, 3) := by decide +kernel
theorem dX3_dreamsWith_10 : decode cX3_dreamsWith 10 = .ok (.invokestatic 104, 3) := by decide +kernel
theorem dX3_dreamsWith_13 : decode cX3_dreamsWith 13 = .ok (.ireturn, 1) := by decide +kernel
theorem dX3_hasOwnTag_0 : decode cX3_hasOwnTag 0 = .ok (.aload_n 0, 1) := by decide +kernel
theorem dX3_hasOwnTag_1 : decode cX3_hasOwnTag 1 = .ok (.iload_n 1, 1) := by decide +kernel
theorem dX3_hasOwnTag_2 : decode cX3_hasOwnTag 2 = .ok (.invokevirtual 95, 3) := by decide +kernel
theorem dX3_hasOwnTag_5 : decode cX3_hasOwnTag 5 = .ok (.aload_n 0, 1) := by decide +kernel
theorem dX3_hasOwnTag_6 : decode cX3_hasOwnTag 6 = .ok (.iload_n 2, 1) := by decide +kernel
theorem dX3_hasOwnTag_7 : decode cX3_hasOwnTag 7 = .ok (.invokevirtual 76, 3) := by decide +kernel
theorem dX3_hasOwnTag_10 : decode cX3_hasOwnTag 10 = .ok (.iload_n 2, 1) := by decide +kernel
theorem dX3_hasOwnTag_11 : decode cX3_hasOwnTag 11 = .ok (.aload_n 0, 1) := by decide +kernel
theorem dX3_hasOwnTag_12 : decode cX3_hasOwnTag 12 = .ok (.getfield 30, 3) := by decide +kernel
theorem dX3_hasOwnTag_15 : decode cX3_hasOwnTag 15 = .ok (.iload_n 1, 1) := by decide +kernel
theorem dX3_hasOwnTag_16 : decode cX3_hasOwnTag 16 = .ok (.iaload, 1) := by decide +kernel
theorem dX3_hasOwnTag_17 : decode cX3_hasOwnTag 17 = .ok (.invokestatic 98, 3) := by decide +kernel
theorem dX3_hasOwnTag_20 : decode cX3_hasOwnTag 20 = .ok (.ireturn, 1) := by decide +kernel
theorem dX3_hasTag_0 : decode cX3_hasTag 0 = .ok (.aload_n 0, 1) := by decide +kernel
theorem dX3_hasTag_1 : decode cX3_hasTag 1 = .ok (.iload_n 1, 1) := by decide +kernel
theorem dX3_hasTag_2 : decode cX3_hasTag 2 = .ok (.invokevirtual 95, 3) := by decide +kernel
theorem dX3_hasTag_5 : decode cX3_hasTag 5 = .ok (.aload_n 0, 1) := by decide +kernel
theorem dX3_hasTag_6 : decode cX3_hasTag 6 = .ok (.iload_n 2, 1) := by decide +kernel
theorem dX3_hasTag_7 : decode cX3_hasTag 7 = .ok (.invokevirtual 76, 3) := by decide +kernel
theorem dX3_hasTag_10 : decode cX3_hasTag 10 = .ok (.iload_n 2, 1) := by decide +kernel
theorem dX3_hasTag_11 : decode cX3_hasTag 11 = .ok (.aload_n 0, 1) := by decide +kernel
theorem dX3_hasTag_12 : decode cX3_hasTag 12 = .ok (.getfield 34, 3) := by decide +kernel
theorem dX3_hasTag_15 : decode cX3_hasTag 15 = .ok (.iload_n 1, 1) := by decide +kernel
theorem dX3_hasTag_16 : decode cX3_hasTag 16 = .ok (.iaload, 1) := by decide +kernel
theorem dX3_hasTag_17 : decode cX3_hasTag 17 = .ok (.invokestatic 98, 3) := by decide +kernel
theorem dX3_hasTag_20 : decode cX3_hasTag 20 = .ok (.ireturn, 1) := by decide +kernel
theorem dX3_tagsOf_0 : decode cX3_tagsOf 0 = .ok (.aload_n 0, 1) := by decide +kernel
theorem dX3_tagsOf_1 : decode cX3_tagsOf 1 = .ok (.iload_n 1, 1) := by decide +kernel
theorem dX3_tagsOf_2 : decode cX3_tagsOf 2 = .ok (.invokevirtual 95, 3) := by decide +kernel
theorem dX3_tagsOf_5 : decode cX3_tagsOf 5 = .ok (.aload_n 0, 1) := by decide +kernel
theorem dX3_tagsOf_6 : decode cX3_tagsOf 6 = .ok (.getfield 34, 3) := by decide +kernel
theorem dX3_tagsOf_9 : decode cX3_tagsOf 9 = .ok (.iload_n 1, 1) := by decide +kernel
theorem dX3_tagsOf_10 : decode cX3_tagsOf 10 = .ok (.iaload, 1) := by decide +kernel
theorem dX3_tagsOf_11 : decode cX3_tagsOf 11 = .ok (.invokestatic 104, 3) := by decide +kernel
theorem dX3_tagsOf_14 : decode cX3_tagsOf 14 = .ok (.ireturn, 1) := by decide +kernel
theorem dX3_vividnessOf_0 : decode cX3_vividnessOf 0 = .ok (.aload_n 0, 1) := by decide +kernel
theorem dX3_vividnessOf_1 : decode cX3_vividnessOf 1 = .ok (.iload_n 1, 1) := by decide +kernel
theorem dX3_vividnessOf_2 : decode cX3_vividnessOf 2 = .ok (.invokevirtual 95, 3) := by decide +kernel
theorem dX3_vividnessOf_5 : decode cX3_vividnessOf 5 = .ok (.aload_n 0, 1) := by decide +kernel
theorem dX3_vividnessOf_6 : decode cX3_vividnessOf 6 = .ok (.getfield 37, 3) := by decide +kernel
theorem dX3_vividnessOf_9 : decode cX3_vividnessOf 9 = .ok (.iload_n 1, 1) := by decide +kernel
theorem dX3_vividnessOf_10 : decode cX3_vividnessOf 10 = .ok (.iaload, 1) := by decide +kernel
theorem dX3_vividnessOf_11 : decode cX3_vividnessOf 11 = .ok (.ireturn, 1) := by decide +kernel
theorem dX3_nightOf_0 : decode cX3_nightOf 0 = .ok (.aload_n 0, 1) := by decide +kernel
theorem dX3_nightOf_1 : decode cX3_nightOf 1 = .ok (.iload_n 1, 1) := by decide +kernel
theorem dX3_nightOf_2 : decode cX3_nightOf 2 = .ok (.invokevirtual 95, 3) := by decide +kernel
theorem dX3_nightOf_5 : decode cX3_nightOf 5 = .ok (.aload_n 0, 1) := by decide +kernel
theorem dX3_nightOf_6 : decode cX3_nightOf 6 = .ok (.getfield 40, 3) := by decide +kernel
theorem dX3_nightOf_9 : decode cX3_nightOf 9 = .ok (.iload_n 1, 1) := by decide +kernel
theorem dX3_nightOf_10 : decode cX3_nightOf 10 = .ok (.iaload, 1) := by decide +kernel
theorem dX3_nightOf_11 : decode cX3_nightOf 11 = .ok (.ireturn, 1) := by decide +kernel
theorem dX3_matches_0 : decode cX3_matches 0 = .ok (.aload_n 0, 1) := by decide +kernel
theorem dX3_matches_1 : decode cX3_matches 1 = .ok (.iload_n 1, 1) := by decide +kernel
theorem dX3_matches_2 : decode cX3_matches 2 = .ok (.invokevirtual 132, 3) := by decide +kernel
theorem dX3_matches_5 : decode cX3_matches 5 = .ok (.aload_n 0, 1) := by decide +kernel
theorem dX3_matches_6 : decode cX3_matches 6 = .ok (.iload_n 2, 1) := by decide +kernel
theorem dX3_matches_7 : decode cX3_matches 7 = .ok (.invokevirtual 95, 3) := by decide +kernel
theorem dX3_matches_10 : decode cX3_matches 10 = .ok (.iload_n 2, 1) := by decide +kernel
theorem dX3_matches_11 : decode cX3_matches 11 = .ok (.aload_n 0, 1) := by decide +kernel
theorem dX3_matches_12 : decode cX3_matches 12 = .ok (.getfield 19, 3) := by decide +kernel
theorem dX3_matches_15 : decode cX3_matches 15 = .ok (.getfield 151, 3) := by decide +kernel
theorem dX3_matches_18 : decode cX3_matches 18 = .ok (.iload_n 1, 1) := by decide +kernel
theorem dX3_matches_19 : decode cX3_matches 19 = .ok (.iaload, 1) := by decide +kernel
theorem dX3_matches_20 : decode cX3_matches 20 = .ok (.invokestatic 98, 3) := by decide +kernel
theorem dX3_matches_23 : decode cX3_matches 23 = .ok (.ireturn, 1) := by decide +kernel
theorem dX3_matchesOf_0 : decode cX3_matchesOf 0 = .ok (.aload_n 0, 1) := by decide +kernel
theorem dX3_matchesOf_1 : decode cX3_matchesOf 1 = .ok (.iload_n 1, 1) := by decide +kernel
theorem dX3_matchesOf_2 : decode cX3_matchesOf 2 = .ok (.invokevirtual 132, 3) := by decide +kernel
theorem dX3_matchesOf_5 : decode cX3_matchesOf 5 = .ok (.aload_n 0, 1) := by decide +kernel
theorem dX3_matchesOf_6 : decode cX3_matchesOf 6 = .ok (.getfield 19, 3) := by decide +kernel
theorem dX3_matchesOf_9 : decode cX3_matchesOf 9 = .ok (.getfield 151, 3) := by decide +kernel
theorem dX3_matchesOf_12 : decode cX3_matchesOf 12 = .ok (.iload_n 1, 1) := by decide +kernel
theorem dX3_matchesOf_13 : decode cX3_matchesOf 13 = .ok (.iaload, 1) := by decide +kernel
theorem dX3_matchesOf_14 : decode cX3_matchesOf 14 = .ok (.invokestatic 104, 3) := by decide +kernel
theorem dX3_matchesOf_17 : decode cX3_matchesOf 17 = .ok (.ireturn, 1) := by decide +kernel
theorem dX3_commonTags_0 : decode cX3_commonTags 0 = .ok (.aload_n 0, 1) := by decide +kernel
theorem dX3_commonTags_1 : decode cX3_commonTags 1 = .ok (.iload_n 1, 1) := by decide +kernel
theorem dX3_commonTags_2 : decode cX3_commonTags 2 = .ok (.invokevirtual 132, 3) := by decide +kernel
theorem dX3_commonTags_5 : decode cX3_commonTags 5 = .ok (.aload_n 0, 1) := by decide +kernel
theorem dX3_commonTags_6 : decode cX3_commonTags 6 = .ok (.aload_n 0, 1) := by decide +kernel
theorem dX3_commonTags_7 : decode cX3_commonTags 7 = .ok (.getfield 19, 3) := by decide +kernel
theorem dX3_commonTags_10 : decode cX3_commonTags 10 = .ok (.getfield 151, 3) := by decide +kernel
theorem dX3_commonTags_13 : decode cX3_commonTags 13 = .ok (.iload_n 1, 1) := by decide +kernel
theorem dX3_commonTags_14 : decode cX3_commonTags 14 = .ok (.iaload, 1) := by decide +kernel
theorem dX3_commonTags_15 : decode cX3_commonTags 15 = .ok (.invokevirtual 157, 3) := by decide +kernel
theorem dX3_commonTags_18 : decode cX3_commonTags 18 = .ok (.invokestatic 104, 3) := by decide +kernel
theorem dX3_commonTags_21 : decode cX3_commonTags 21 = .ok (.ireturn, 1) := by decide +kernel
theorem dX3_matchSame_0 : decode cX3_matchSame 0 = .ok (.aload_n 0, 1) := by decide +kernel
theorem dX3_matchSame_1 : decode cX3_matchSame 1 = .ok (.iload_n 1, 1) := by decide +kernel
theorem dX3_matchSame_2 : decode cX3_matchSame 2 = .ok (.invokevirtual 132, 3) := by decide +kernel
theorem dX3_matchSame_5 : decode cX3_matchSame 5 = .ok (.aload_n 0, 1) := by decide +kernel
theorem dX3_matchSame_6 : decode cX3_matchSame 6 = .ok (.iload_n 2, 1) := by decide +kernel
theorem dX3_matchSame_7 : decode cX3_matchSame 7 = .ok (.invokevirtual 132, 3) := by decide +kernel
theorem dX3_matchSame_10 : decode cX3_matchSame 10 = .ok (.aload_n 0, 1) := by decide +kernel
theorem dX3_matchSame_11 : decode cX3_matchSame 11 = .ok (.getfield 19, 3) := by decide +kernel
theorem dX3_matchSame_14 : decode cX3_matchSame 14 = .ok (.getfield 151, 3) := by decide +kernel
theorem dX3_matchSame_17 : decode cX3_matchSame 17 = .ok (.iload_n 1, 1) := by decide +kernel
theorem dX3_matchSame_18 : decode cX3_matchSame 18 = .ok (.iaload, 1) := by decide +kernel
theorem dX3_matchSame_19 : decode cX3_matchSame 19 = .ok (.aload_n 0, 1) := by decide +kernel
theorem dX3_matchSame_20 : decode cX3_matchSame 20 = .ok (.getfield 19, 3) := by decide +kernel
theorem dX3_matchSame_23 : decode cX3_matchSame 23 = .ok (.getfield 151, 3) := by decide +kernel
theorem dX3_matchSame_26 : decode cX3_matchSame 26 = .ok (.iload_n 2, 1) := by decide +kernel
theorem dX3_matchSame_27 : decode cX3_matchSame 27 = .ok (.iaload, 1) := by decide +kernel
theorem dX3_matchSame_28 : decode cX3_matchSame 28 = .ok (.if_icmp .ne 7, 3) := by decide +kernel
theorem dX3_matchSame_31 : decode cX3_matchSame 31 = .ok (.iconst 1, 1) := by decide +kernel
theorem dX3_matchSame_32 : decode cX3_matchSame 32 = .ok (.goto 4, 3) := by decide +kernel
theorem dX3_matchSame_35 : decode cX3_matchSame 35 = .ok (.iconst 0, 1) := by decide +kernel
theorem dX3_matchSame_36 : decode cX3_matchSame 36 = .ok (.ireturn, 1) := by decide +kernel
theorem dX3_coverSize_0 : decode cX3_coverSize 0 = .ok (.aload_n 0, 1) := by decide +kernel
theorem dX3_coverSize_1 : decode cX3_coverSize 1 = .ok (.iload_n 1, 1) := by decide +kernel
theorem dX3_coverSize_2 : decode cX3_coverSize 2 = .ok (.invokevirtual 132, 3) := by decide +kernel
theorem dX3_coverSize_5 : decode cX3_coverSize 5 = .ok (.aload_n 0, 1) := by decide +kernel
theorem dX3_coverSize_6 : decode cX3_coverSize 6 = .ok (.iload_n 1, 1) := by decide +kernel
theorem dX3_coverSize_7 : decode cX3_coverSize 7 = .ok (.invokevirtual 160, 3) := by decide +kernel
theorem dX3_coverSize_10 : decode cX3_coverSize 10 = .ok (.invokestatic 104, 3) := by decide +kernel
theorem dX3_coverSize_13 : decode cX3_coverSize 13 = .ok (.ireturn, 1) := by decide +kernel
theorem dX3_tags_0 : decode cX3_tags 0 = .ok (.aload_n 0, 1) := by decide +kernel
theorem dX3_tags_1 : decode cX3_tags 1 = .ok (.getfield 10, 3) := by decide +kernel
theorem dX3_tags_4 : decode cX3_tags 4 = .ok (.getfield 43, 3) := by decide +kernel
theorem dX3_tags_7 : decode cX3_tags 7 = .ok (.ireturn, 1) := by decide +kernel
theorem dX3_dreams_0 : decode cX3_dreams 0 = .ok (.aload_n 0, 1) := by decide +kernel
theorem dX3_dreams_1 : decode cX3_dreams 1 = .ok (.getfield 84, 3) := by decide +kernel
theorem dX3_dreams_4 : decode cX3_dreams 4 = .ok (.ireturn, 1) := by decide +kernel
theorem dX3_terms_0 : decode cX3_terms 0 = .ok (.aload_n 0, 1) := by decide +kernel
theorem dX3_terms_1 : decode cX3_terms 1 = .ok (.getfield 19, 3) := by decide +kernel
theorem dX3_terms_4 : decode cX3_terms 4 = .ok (.getfield 135, 3) := by decide +kernel
theorem dX3_terms_7 : decode cX3_terms 7 = .ok (.ireturn, 1) := by decide +kernel
theorem dX3_nights_0 : decode cX3_nights 0 = .ok (.aload_n 0, 1) := by decide +kernel
theorem dX3_nights_1 : decode cX3_nights 1 = .ok (.getfield 89, 3) := by decide +kernel
theorem dX3_nights_4 : decode cX3_nights 4 = .ok (.ireturn, 1) := by decide +kernel
theorem dX3_fadedDreams_0 : decode cX3_fadedDreams 0 = .ok (.aload_n 0, 1) := by decide +kernel
theorem dX3_fadedDreams_1 : decode cX3_fadedDreams 1 = .ok (.iconst 0, 1) := by decide +kernel
theorem dX3_fadedDreams_2 : decode cX3_fadedDreams 2 = .ok (.invokevirtual 122, 3) := by decide +kernel
theorem dX3_fadedDreams_5 : decode cX3_fadedDreams 5 = .ok (.ireturn, 1) := by decide +kernel
theorem dX3_meanVividness_0 : decode cX3_meanVividness 0 = .ok (.aload_n 0, 1) := by decide +kernel
theorem dX3_meanVividness_1 : decode cX3_meanVividness 1 = .ok (.getfield 84, 3) := by decide +kernel
theorem dX3_meanVividness_4 : decode cX3_meanVividness 4 = .ok (.ifCond .ne 5, 3) := by decide +kernel
theorem dX3_meanVividness_7 : decode cX3_meanVividness 7 = .ok (.dconst 0, 1) := by decide +kernel
theorem dX3_meanVividness_8 : decode cX3_meanVividness 8 = .ok (.dreturn, 1) := by decide +kernel
theorem dX3_meanVividness_9 : decode cX3_meanVividness 9 = .ok (.iconst 0, 1) := by decide +kernel
theorem dX3_meanVividness_10 : decode cX3_meanVividness 10 = .ok (.istore_n 1, 1) := by decide +kernel
theorem dX3_meanVividness_11 : decode cX3_meanVividness 11 = .ok (.iconst 0, 1) := by decide +kernel
theorem dX3_meanVividness_12 : decode cX3_meanVividness 12 = .ok (.istore_n 2, 1) := by decide +kernel
theorem dX3_meanVividness_13 : decode cX3_meanVividness 13 = .ok (.iload_n 2, 1) := by decide +kernel
theorem dX3_meanVividness_14 : decode cX3_meanVividness 14 = .ok (.aload_n 0, 1) := by decide +kernel
theorem dX3_meanVividness_15 : decode cX3_meanVividness 15 = .ok (.getfield 84, 3) := by decide +kernel
theorem dX3_meanVividness_18 : decode cX3_meanVividness 18 = .ok (.if_icmp .ge 18, 3) := by decide +kernel
theorem dX3_meanVividness_21 : decode cX3_meanVividness 21 = .ok (.iload_n 1, 1) := by decide +kernel
theorem dX3_meanVividness_22 : decode cX3_meanVividness 22 = .ok (.aload_n 0, 1) := by decide +kernel
theorem dX3_meanVividness_23 : decode cX3_meanVividness 23 = .ok (.getfield 37, 3) := by decide +kernel
theorem dX3_meanVividness_26 : decode cX3_meanVividness 26 = .ok (.iload_n 2, 1) := by decide +kernel
theorem dX3_meanVividness_27 : decode cX3_meanVividness 27 = .ok (.iaload, 1) := by decide +kernel
theorem dX3_meanVividness_28 : decode cX3_meanVividness 28 = .ok (.iadd, 1) := by decide +kernel
theorem dX3_meanVividness_29 : decode cX3_meanVividness 29 = .ok (.istore_n 1, 1) := by decide +kernel
theorem dX3_meanVividness_30 : decode cX3_meanVividness 30 = .ok (.iinc 2 1, 3) := by decide +kernel
theorem dX3_meanVividness_33 : decode cX3_meanVividness 33 = .ok (.goto (-20), 3) := by decide +kernel
theorem dX3_meanVividness_36 : decode cX3_meanVividness 36 = .ok (.iload_n 1, 1) := by decide +kernel
theorem dX3_meanVividness_37 : decode cX3_meanVividness 37 = .ok (.i2d, 1) := by decide +kernel
theorem dX3_meanVividness_38 : decode cX3_meanVividness 38 = .ok (.aload_n 0, 1) := by decide +kernel
theorem dX3_meanVividness_39 : decode cX3_meanVividness 39 = .ok (.getfield 84, 3) := by decide +kernel
theorem dX3_meanVividness_42 : decode cX3_meanVividness 42 = .ok (.i2d, 1) := by decide +kernel
theorem dX3_meanVividness_43 : decode cX3_meanVividness 43 = .ok (.ddiv, 1) := by decide +kernel
theorem dX3_meanVividness_44 : decode cX3_meanVividness 44 = .ok (.dreturn, 1) := by decide +kernel
theorem dX3_requireTag_0 : decode cX3_requireTag 0 = .ok (.iload_n 1, 1) := by decide +kernel
theorem dX3_requireTag_1 : decode cX3_requireTag 1 = .ok (.ifCond .lt 14, 3) := by decide +kernel
theorem dX3_requireTag_4 : decode cX3_requireTag 4 = .ok (.iload_n 1, 1) := by decide +kernel
theorem dX3_requireTag_5 : decode cX3_requireTag 5 = .ok (.aload_n 0, 1) := by decide +kernel
theorem dX3_requireTag_6 : decode cX3_requireTag 6 = .ok (.getfield 10, 3) := by decide +kernel
theorem dX3_requireTag_9 : decode cX3_requireTag 9 = .ok (.getfield 43, 3) := by decide +kernel
theorem dX3_requireTag_12 : decode cX3_requireTag 12 = .ok (.if_icmp .lt 13, 3) := by decide +kernel
theorem dX3_requireTag_15 : decode cX3_requireTag 15 = .ok (.new 166, 3) := by decide +kernel
theorem dX3_requireTag_18 : decode cX3_requireTag 18 = .ok (.dup, 1) := by decide +kernel
theorem dX3_requireTag_19 : decode cX3_requireTag 19 = .ok (.ldc 193, 2) := by decide +kernel
theorem dX3_requireTag_21 : decode cX3_requireTag 21 = .ok (.invokespecial 170, 3) := by decide +kernel
theorem dX3_requireTag_24 : decode cX3_requireTag 24 = .ok (.athrow, 1) := by decide +kernel
theorem dX3_requireTag_25 : decode cX3_requireTag 25 = .ok (.return_, 1) := by decide +kernel
theorem dX3_requireDream_0 : decode cX3_requireDream 0 = .ok (.iload_n 1, 1) := by decide +kernel
theorem dX3_requireDream_1 : decode cX3_requireDream 1 = .ok (.ifCond .lt 11, 3) := by decide +kernel
theorem dX3_requireDream_4 : decode cX3_requireDream 4 = .ok (.iload_n 1, 1) := by decide +kernel
theorem dX3_requireDream_5 : decode cX3_requireDream 5 = .ok (.aload_n 0, 1) := by decide +kernel
theorem dX3_requireDream_6 : decode cX3_requireDream 6 = .ok (.getfield 84, 3) := by decide +kernel
theorem dX3_requireDream_9 : decode cX3_requireDream 9 = .ok (.if_icmp .lt 13, 3) := by decide +kernel
theorem dX3_requireDream_12 : decode cX3_requireDream 12 = .ok (.new 166, 3) := by decide +kernel
theorem dX3_requireDream_15 : decode cX3_requireDream 15 = .ok (.dup, 1) := by decide +kernel
theorem dX3_requireDream_16 : decode cX3_requireDream 16 = .ok (.ldc 195, 2) := by decide +kernel
theorem dX3_requireDream_18 : decode cX3_requireDream 18 = .ok (.invokespecial 170, 3) := by decide +kernel
theorem dX3_requireDream_21 : decode cX3_requireDream 21 = .ok (.athrow, 1) := by decide +kernel
theorem dX3_requireDream_22 : decode cX3_requireDream 22 = .ok (.return_, 1) := by decide +kernel
theorem dX3_requireTerm_0 : decode cX3_requireTerm 0 = .ok (.iload_n 1, 1) := by decide +kernel
theorem dX3_requireTerm_1 : decode cX3_requireTerm 1 = .ok (.ifCond .lt 14, 3) := by decide +kernel
theorem dX3_requireTerm_4 : decode cX3_requireTerm 4 = .ok (.iload_n 1, 1) := by decide +kernel
theorem dX3_requireTerm_5 : decode cX3_requireTerm 5 = .ok (.aload_n 0, 1) := by decide +kernel
theorem dX3_requireTerm_6 : decode cX3_requireTerm 6 = .ok (.getfield 19, 3) := by decide +kernel
theorem dX3_requireTerm_9 : decode cX3_requireTerm 9 = .ok (.getfield 135, 3) := by decide +kernel
theorem dX3_requireTerm_12 : decode cX3_requireTerm 12 = .ok (.if_icmp .lt 13, 3) := by decide +kernel
theorem dX3_requireTerm_15 : decode cX3_requireTerm 15 = .ok (.new 166, 3) := by decide +kernel
theorem dX3_requireTerm_18 : decode cX3_requireTerm 18 = .ok (.dup, 1) := by decide +kernel
theorem dX3_requireTerm_19 : decode cX3_requireTerm 19 = .ok (.ldc 197, 2) := by decide +kernel
theorem dX3_requireTerm_21 : decode cX3_requireTerm 21 = .ok (.invokespecial 170, 3) := by decide +kernel
theorem dX3_requireTerm_24 : decode cX3_requireTerm 24 = .ok (.athrow, 1) := by decide +kernel
theorem dX3_requireTerm_25 : decode cX3_requireTerm 25 = .ok (.return_, 1) := by decide +kernel
theorem dX3_requireParent_0 : decode cX3_requireParent 0 = .ok (.aload_n 0, 1) := by decide +kernel
theorem dX3_requireParent_1 : decode cX3_requireParent 1 = .ok (.iload_n 1, 1) := by decide +kernel
theorem dX3_requireParent_2 : decode cX3_requireParent 2 = .ok (.invokevirtual 76, 3) := by decide +kernel
theorem dX3_requireParent_5 : decode cX3_requireParent 5 = .ok (.aload_n 0, 1) := by decide +kernel
theorem dX3_requireParent_6 : decode cX3_requireParent 6 = .ok (.getfield 10, 3) := by decide +kernel
theorem dX3_requireParent_9 : decode cX3_requireParent 9 = .ok (.getfield 73, 3) := by decide +kernel
theorem dX3_requireParent_12 : decode cX3_requireParent 12 = .ok (.iload_n 1, 1) := by decide +kernel
theorem dX3_requireParent_13 : decode cX3_requireParent 13 = .ok (.iaload, 1) := by decide +kernel
theorem dX3_requireParent_14 : decode cX3_requireParent 14 = .ok (.iconst (-1), 1) := by decide +kernel
theorem dX3_requireParent_15 : decode cX3_requireParent 15 = .ok (.if_icmp .ne 13, 3) := by decide +kernel
theorem dX3_requireParent_18 : decode cX3_requireParent 18 = .ok (.new 47, 3) := by decide +kernel
theorem dX3_requireParent_21 : decode cX3_requireParent 21 = .ok (.dup, 1) := by decide +kernel
theorem dX3_requireParent_22 : decode cX3_requireParent 22 = .ok (.ldc 199, 2) := by decide +kernel
theorem dX3_requireParent_24 : decode cX3_requireParent 24 = .ok (.invokespecial 51, 3) := by decide +kernel
theorem dX3_requireParent_27 : decode cX3_requireParent 27 = .ok (.athrow, 1) := by decide +kernel
theorem dX3_requireParent_28 : decode cX3_requireParent 28 = .ok (.return_, 1) := by decide +kernel
theorem dX3_requirePlaceUnder_0 : decode cX3_requirePlaceUnder 0 = .ok (.aload_n 0, 1) := by decide +kernel
theorem dX3_requirePlaceUnder_1 : decode cX3_requirePlaceUnder 1 = .ok (.iload_n 1, 1) := by decide +kernel
theorem dX3_requirePlaceUnder_2 : decode cX3_requirePlaceUnder 2 = .ok (.invokevirtual 76, 3) := by decide +kernel
theorem dX3_requirePlaceUnder_5 : decode cX3_requirePlaceUnder 5 = .ok (.aload_n 0, 1) := by decide +kernel
theorem dX3_requirePlaceUnder_6 : decode cX3_requirePlaceUnder 6 = .ok (.iload_n 2, 1) := by decide +kernel
theorem dX3_requirePlaceUnder_7 : decode cX3_requirePlaceUnder 7 = .ok (.invokevirtual 76, 3) := by decide +kernel
theorem dX3_requirePlaceUnder_10 : decode cX3_requirePlaceUnder 10 = .ok (.iload_n 1, 1) := by decide +kernel
theorem dX3_requirePlaceUnder_11 : decode cX3_requirePlaceUnder 11 = .ok (.iload_n 2, 1) := by decide +kernel
theorem dX3_requirePlaceUnder_12 : decode cX3_requirePlaceUnder 12 = .ok (.if_icmp .ne 13, 3) := by decide +kernel
theorem dX3_requirePlaceUnder_15 : decode cX3_requirePlaceUnder 15 = .ok (.new 79, 3) := by decide +kernel
theorem dX3_requirePlaceUnder_18 : decode cX3_requirePlaceUnder 18 = .ok (.dup, 1) := by decide +kernel
theorem dX3_requirePlaceUnder_19 : decode cX3_requirePlaceUnder 19 = .ok (.ldc 201, 2) := by decide +kernel
theorem dX3_requirePlaceUnder_21 : decode cX3_requirePlaceUnder 21 = .ok (.invokespecial 83, 3) := by decide +kernel
theorem dX3_requirePlaceUnder_24 : decode cX3_requirePlaceUnder 24 = .ok (.athrow, 1) := by decide +kernel
theorem dX3_requirePlaceUnder_25 : decode cX3_requirePlaceUnder 25 = .ok (.aload_n 0, 1) := by decide +kernel
theorem dX3_requirePlaceUnder_26 : decode cX3_requirePlaceUnder 26 = .ok (.getfield 10, 3) := by decide +kernel
theorem dX3_requirePlaceUnder_29 : decode cX3_requirePlaceUnder 29 = .ok (.iload_n 1, 1) := by decide +kernel
theorem dX3_requirePlaceUnder_30 : decode cX3_requirePlaceUnder 30 = .ok (.iload_n 2, 1) := by decide +kernel
theorem dX3_requirePlaceUnder_31 : decode cX3_requirePlaceUnder 31 = .ok (.invokevirtual 174, 3) := by decide +kernel
theorem dX3_requirePlaceUnder_34 : decode cX3_requirePlaceUnder 34 = .ok (.ifCond .ne 13, 3) := by decide +kernel
theorem dX3_requirePlaceUnder_37 : decode cX3_requirePlaceUnder 37 = .ok (.new 47, 3) := by decide +kernel
theorem dX3_requirePlaceUnder_40 : decode cX3_requirePlaceUnder 40 = .ok (.dup, 1) := by decide +kernel
theorem dX3_requirePlaceUnder_41 : decode cX3_requirePlaceUnder 41 = .ok (.ldc 203, 2) := by decide +kernel
theorem dX3_requirePlaceUnder_43 : decode cX3_requirePlaceUnder 43 = .ok (.invokespecial 51, 3) := by decide +kernel
theorem dX3_requirePlaceUnder_46 : decode cX3_requirePlaceUnder 46 = .ok (.athrow, 1) := by decide +kernel
theorem dX3_requirePlaceUnder_47 : decode cX3_requirePlaceUnder 47 = .ok (.return_, 1) := by decide +kernel
theorem dX3_requireNights_0 : decode cX3_requireNights 0 = .ok (.iload_n 1, 1) := by decide +kernel
theorem dX3_requireNights_1 : decode cX3_requireNights 1 = .ok (.iconst 1, 1) := by decide +kernel
theorem dX3_requireNights_2 : decode cX3_requireNights 2 = .ok (.if_icmp .lt 9, 3) := by decide +kernel
theorem dX3_requireNights_5 : decode cX3_requireNights 5 = .ok (.iload_n 1, 1) := by decide +kernel
theorem dX3_requireNights_6 : decode cX3_requireNights 6 = .ok (.bipush 30, 2) := by decide +kernel
theorem dX3_requireNights_8 : decode cX3_requireNights 8 = .ok (.if_icmp .le 13, 3) := by decide +kernel
theorem dX3_requireNights_11 : decode cX3_requireNights 11 = .ok (.new 79, 3) := by decide +kernel
theorem dX3_requireNights_14 : decode cX3_requireNights 14 = .ok (.dup, 1) := by decide +kernel
theorem dX3_requireNights_15 : decode cX3_requireNights 15 = .ok (.ldc 205, 2) := by decide +kernel
theorem dX3_requireNights_17 : decode cX3_requireNights 17 = .ok (.invokespecial 83, 3) := by decide +kernel
theorem dX3_requireNights_20 : decode cX3_requireNights 20 = .ok (.athrow, 1) := by decide +kernel
theorem dX3_requireNights_21 : decode cX3_requireNights 21 = .ok (.return_, 1) := by decide +kernel
theorem dX3_requireRoomForTerm_0 : decode cX3_requireRoomForTerm 0 = .ok (.aload_n 0, 1) := by decide +kernel
theorem dX3_requireRoomForTerm_1 : decode cX3_requireRoomForTerm 1 = .ok (.getfield 19, 3) := by decide +kernel
theorem dX3_requireRoomForTerm_4 : decode cX3_requireRoomForTerm 4 = .ok (.getfield 135, 3) := by decide +kernel
theorem dX3_requireRoomForTerm_7 : decode cX3_requireRoomForTerm 7 = .ok (.bipush 20, 2) := by decide +kernel
theorem dX3_requireRoomForTerm_9 : decode cX3_requireRoomForTerm 9 = .ok (.if_icmp .lt 13, 3) := by decide +kernel
theorem dX3_requireRoomForTerm_12 : decode cX3_requireRoomForTerm 12 = .ok (.new 47, 3) := by decide +kernel
theorem dX3_requireRoomForTerm_15 : decode cX3_requireRoomForTerm 15 = .ok (.dup, 1) := by decide +kernel
theorem dX3_requireRoomForTerm_16 : decode cX3_requireRoomForTerm 16 = .ok (.ldc 207, 2) := by decide +kernel
theorem dX3_requireRoomForTerm_18 : decode cX3_requireRoomForTerm 18 = .ok (.invokespecial 51, 3) := by decide +kernel
theorem dX3_requireRoomForTerm_21 : decode cX3_requireRoomForTerm 21 = .ok (.athrow, 1) := by decide +kernel
theorem dX3_requireRoomForTerm_22 : decode cX3_requireRoomForTerm 22 = .ok (.return_, 1) := by decide +kernel
theorem dX3_moveTag_0 : decode cX3_moveTag 0 = .ok (.aload_n 0, 1) := by decide +kernel
theorem dX3_moveTag_1 : decode cX3_moveTag 1 = .ok (.getfield 10, 3) := by decide +kernel
theorem dX3_moveTag_4 : decode cX3_moveTag 4 = .ok (.iload_n 1, 1) := by decide +kernel
theorem dX3_moveTag_5 : decode cX3_moveTag 5 = .ok (.iload_n 2, 1) := by decide +kernel
theorem dX3_moveTag_6 : decode cX3_moveTag 6 = .ok (.invokevirtual 209, 3) := by decide +kernel
theorem dX3_moveTag_9 : decode cX3_moveTag 9 = .ok (.iconst 0, 1) := by decide +kernel
theorem dX3_moveTag_10 : decode cX3_moveTag 10 = .ok (.istore_n 3, 1) := by decide +kernel
theorem dX3_moveTag_11 : decode cX3_moveTag 11 = .ok (.iload_n 3, 1) := by decide +kernel
theorem dX3_moveTag_12 : decode cX3_moveTag 12 = .ok (.aload_n 0, 1) := by decide +kernel
theorem dX3_moveTag_13 : decode cX3_moveTag 13 = .ok (.getfield 84, 3) := by decide +kernel
theorem dX3_moveTag_16 : decode cX3_moveTag 16 = .ok (.if_icmp .ge 28, 3) := by decide +kernel
theorem dX3_moveTag_19 : decode cX3_moveTag 19 = .ok (.aload_n 0, 1) := by decide +kernel
theorem dX3_moveTag_20 : decode cX3_moveTag 20 = .ok (.getfield 34, 3) := by decide +kernel
theorem dX3_moveTag_23 : decode cX3_moveTag 23 = .ok (.iload_n 3, 1) := by decide +kernel
theorem dX3_moveTag_24 : decode cX3_moveTag 24 = .ok (.aload_n 0, 1) := by decide +kernel
theorem dX3_moveTag_25 : decode cX3_moveTag 25 = .ok (.getfield 10, 3) := by decide +kernel
theorem dX3_moveTag_28 : decode cX3_moveTag 28 = .ok (.aload_n 0, 1) := by decide +kernel
theorem dX3_moveTag_29 : decode cX3_moveTag 29 = .ok (.getfield 30, 3) := by decide +kernel
theorem dX3_moveTag_32 : decode cX3_moveTag 32 = .ok (.iload_n 3, 1) := by decide +kernel
theorem dX3_moveTag_33 : decode cX3_moveTag 33 = .ok (.iaload, 1) := by decide +kernel
theorem dX3_moveTag_34 : decode cX3_moveTag 34 = .ok (.invokevirtual 212, 3) := by decide +kernel
theorem dX3_moveTag_37 : decode cX3_moveTag 37 = .ok (.iastore, 1) := by decide +kernel
theorem dX3_moveTag_38 : decode cX3_moveTag 38 = .ok (.iinc 3 1, 3) := by decide +kernel
theorem dX3_moveTag_41 : decode cX3_moveTag 41 = .ok (.goto (-30), 3) := by decide +kernel
theorem dX3_moveTag_44 : decode cX3_moveTag 44 = .ok (.aload_n 0, 1) := by decide +kernel
theorem dX3_moveTag_45 : decode cX3_moveTag 45 = .ok (.invokevirtual 215, 3) := by decide +kernel
theorem dX3_moveTag_48 : decode cX3_moveTag 48 = .ok (.return_, 1) := by decide +kernel
theorem dX3_setOwnTags_0 : decode cX3_setOwnTags 0 = .ok (.aload_n 0, 1) := by decide +kernel
theorem dX3_setOwnTags_1 : decode cX3_setOwnTags 1 = .ok (.getfield 30, 3) := by decide +kernel
theorem dX3_setOwnTags_4 : decode cX3_setOwnTags 4 = .ok (.iload_n 1, 1) := by decide +kernel
theorem dX3_setOwnTags_5 : decode cX3_setOwnTags 5 = .ok (.iload_n 2, 1) := by decide +kernel
theorem dX3_setOwnTags_6 : decode cX3_setOwnTags 6 = .ok (.iastore, 1) := by decide +kernel
theorem dX3_setOwnTags_7 : decode cX3_setOwnTags 7 = .ok (.aload_n 0, 1) := by decide +kernel
theorem dX3_setOwnTags_8 : decode cX3_setOwnTags 8 = .ok (.getfield 34, 3) := by decide +kernel
theorem dX3_setOwnTags_11 : decode cX3_setOwnTags 11 = .ok (.iload_n 1, 1) := by decide +kernel
theorem dX3_setOwnTags_12 : decode cX3_setOwnTags 12 = .ok (.aload_n 0, 1) := by decide +kernel
theorem dX3_setOwnTags_13 : decode cX3_setOwnTags 13 = .ok (.getfield 10, 3) := by decide +kernel
theorem dX3_setOwnTags_16 : decode cX3_setOwnTags 16 = .ok (.iload_n 2, 1) := by decide +kernel
theorem dX3_setOwnTags_17 : decode cX3_setOwnTags 17 = .ok (.invokevirtual 212, 3) := by decide +kernel
theorem dX3_setOwnTags_20 : decode cX3_setOwnTags 20 = .ok (.iastore, 1) := by decide +kernel
theorem dX3_setOwnTags_21 : decode cX3_setOwnTags 21 = .ok (.aload_n 0, 1) := by decide +kernel
theorem dX3_setOwnTags_22 : decode cX3_setOwnTags 22 = .ok (.invokevirtual 215, 3) := by decide +kernel
theorem dX3_setOwnTags_25 : decode cX3_setOwnTags 25 = .ok (.return_, 1) := by decide +kernel
theorem dX3_addTerm_0 : decode cX3_addTerm 0 = .ok (.aload_n 0, 1) := by decide +kernel
theorem dX3_addTerm_1 : decode cX3_addTerm 1 = .ok (.getfield 19, 3) := by decide +kernel
theorem dX3_addTerm_4 : decode cX3_addTerm 4 = .ok (.iload_n 1, 1) := by decide +kernel
theorem dX3_addTerm_5 : decode cX3_addTerm 5 = .ok (.iload_n 2, 1) := by decide +kernel
theorem dX3_addTerm_6 : decode cX3_addTerm 6 = .ok (.iload_n 3, 1) := by decide +kernel
theorem dX3_addTerm_7 : decode cX3_addTerm 7 = .ok (.invokevirtual 218, 3) := by decide +kernel
theorem dX3_addTerm_10 : decode cX3_addTerm 10 = .ok (.istore 4, 2) := by decide +kernel
theorem dX3_addTerm_12 : decode cX3_addTerm 12 = .ok (.aload_n 0, 1) := by decide +kernel
theorem dX3_addTerm_13 : decode cX3_addTerm 13 = .ok (.invokevirtual 215, 3) := by decide +kernel
theorem dX3_addTerm_16 : decode cX3_addTerm 16 = .ok (.iload 4, 2) := by decide +kernel
theorem dX3_addTerm_18 : decode cX3_addTerm 18 = .ok (.ireturn, 1) := by decide +kernel
theorem dX3_rematchTerms_0 : decode cX3_rematchTerms 0 = .ok (.iconst 0, 1) := by decide +kernel
theorem dX3_rematchTerms_1 : decode cX3_rematchTerms 1 = .ok (.istore_n 1, 1) := by decide +kernel
theorem dX3_rematchTerms_2 : decode cX3_rematchTerms 2 = .ok (.iload_n 1, 1) := by decide +kernel
theorem dX3_rematchTerms_3 : decode cX3_rematchTerms 3 = .ok (.aload_n 0, 1) := by decide +kernel
theorem dX3_rematchTerms_4 : decode cX3_rematchTerms 4 = .ok (.getfield 19, 3) := by decide +kernel
theorem dX3_rematchTerms_7 : decode cX3_rematchTerms 7 = .ok (.getfield 135, 3) := by decide +kernel
theorem dX3_rematchTerms_10 : decode cX3_rematchTerms 10 = .ok (.if_icmp .ge 58, 3) := by decide +kernel
theorem dX3_rematchTerms_13 : decode cX3_rematchTerms 13 = .ok (.aload_n 0, 1) := by decide +kernel
theorem dX3_rematchTerms_14 : decode cX3_rematchTerms 14 = .ok (.getfield 19, 3) := by decide +kernel
theorem dX3_rematchTerms_17 : decode cX3_rematchTerms 17 = .ok (.getfield 221, 3) := by decide +kernel
theorem dX3_rematchTerms_20 : decode cX3_rematchTerms 20 = .ok (.iload_n 1, 1) := by decide +kernel
theorem dX3_rematchTerms_21 : decode cX3_rematchTerms 21 = .ok (.iaload, 1) := by decide +kernel
theorem dX3_rematchTerms_22 : decode cX3_rematchTerms 22 = .ok (.ifCond .ne 28, 3) := by decide +kernel
theorem dX3_rematchTerms_25 : decode cX3_rematchTerms 25 = .ok (.aload_n 0, 1) := by decide +kernel
theorem dX3_rematchTerms_26 : decode cX3_rematchTerms 26 = .ok (.getfield 19, 3) := by decide +kernel
theorem dX3_rematchTerms_29 : decode cX3_rematchTerms 29 = .ok (.getfield 151, 3) := by decide +kernel
theorem dX3_rematchTerms_32 : decode cX3_rematchTerms 32 = .ok (.iload_n 1, 1) := by decide +kernel
theorem dX3_rematchTerms_33 : decode cX3_rematchTerms 33 = .ok (.aload_n 0, 1) := by decide +kernel
theorem dX3_rematchTerms_34 : decode cX3_rematchTerms 34 = .ok (.aload_n 0, 1) := by decide +kernel
theorem dX3_rematchTerms_35 : decode cX3_rematchTerms 35 = .ok (.getfield 19, 3) := by decide +kernel
theorem dX3_rematchTerms_38 : decode cX3_rematchTerms 38 = .ok (.getfield 224, 3) := by decide +kernel
theorem dX3_rematchTerms_41 : decode cX3_rematchTerms 41 = .ok (.iload_n 1, 1) := by decide +kernel
theorem dX3_rematchTerms_42 : decode cX3_rematchTerms 42 = .ok (.iaload, 1) := by decide +kernel
theorem dX3_rematchTerms_43 : decode cX3_rematchTerms 43 = .ok (.invokevirtual 148, 3) := by decide +kernel
theorem dX3_rematchTerms_46 : decode cX3_rematchTerms 46 = .ok (.iastore, 1) := by decide +kernel
theorem dX3_rematchTerms_47 : decode cX3_rematchTerms 47 = .ok (.goto 15, 3) := by decide +kernel
theorem dX3_rematchTerms_50 : decode cX3_rematchTerms 50 = .ok (.aload_n 0, 1) := by decide +kernel
theorem dX3_rematchTerms_51 : decode cX3_rematchTerms 51 = .ok (.getfield 19, 3) := by decide +kernel
theorem dX3_rematchTerms_54 : decode cX3_rematchTerms 54 = .ok (.iload_n 1, 1) := by decide +kernel
theorem dX3_rematchTerms_55 : decode cX3_rematchTerms 55 = .ok (.aload_n 0, 1) := by decide +kernel
theorem dX3_rematchTerms_56 : decode cX3_rematchTerms 56 = .ok (.invokevirtual 227, 3) := by decide +kernel
theorem dX3_rematchTerms_59 : decode cX3_rematchTerms 59 = .ok (.invokevirtual 230, 3) := by decide +kernel
theorem dX3_rematchTerms_62 : decode cX3_rematchTerms 62 = .ok (.iinc 1 1, 3) := by decide +kernel
theorem dX3_rematchTerms_65 : decode cX3_rematchTerms 65 = .ok (.goto (-63), 3) := by decide +kernel
theorem dX3_rematchTerms_68 : decode cX3_rematchTerms 68 = .ok (.return_, 1) := by decide +kernel
theorem dX3_allDreams_0 : decode cX3_allDreams 0 = .ok (.iconst 1, 1) := by decide +kernel
theorem dX3_allDreams_1 : decode cX3_allDreams 1 = .ok (.aload_n 0, 1) := by decide +kernel
theorem dX3_allDreams_2 : decode cX3_allDreams 2 = .ok (.getfield 84, 3) := by decide +kernel
theorem dX3_allDreams_5 : decode cX3_allDreams 5 = .ok (.ishl, 1) := by decide +kernel
theorem dX3_allDreams_6 : decode cX3_allDreams 6 = .ok (.iconst 1, 1) := by decide +kernel
theorem dX3_allDreams_7 : decode cX3_allDreams 7 = .ok (.isub, 1) := by decide +kernel
theorem dX3_allDreams_8 : decode cX3_allDreams 8 = .ok (.ireturn, 1) := by decide +kernel
theorem dX3_dreamsHaving_0 : decode cX3_dreamsHaving 0 = .ok (.iconst 0, 1) := by decide +kernel
theorem dX3_dreamsHaving_1 : decode cX3_dreamsHaving 1 = .ok (.istore_n 2, 1) := by decide +kernel
theorem dX3_dreamsHaving_2 : decode cX3_dreamsHaving 2 = .ok (.iconst 0, 1) := by decide +kernel
theorem dX3_dreamsHaving_3 : decode cX3_dreamsHaving 3 = .ok (.istore_n 3, 1) := by decide +kernel
theorem dX3_dreamsHaving_4 : decode cX3_dreamsHaving 4 = .ok (.iload_n 3, 1) := by decide +kernel
theorem dX3_dreamsHaving_5 : decode cX3_dreamsHaving 5 = .ok (.aload_n 0, 1) := by decide +kernel
theorem dX3_dreamsHaving_6 : decode cX3_dreamsHaving 6 = .ok (.getfield 84, 3) := by decide +kernel
theorem dX3_dreamsHaving_9 : decode cX3_dreamsHaving 9 = .ok (.if_icmp .ge 28, 3) := by decide +kernel
theorem dX3_dreamsHaving_12 : decode cX3_dreamsHaving 12 = .ok (.iload_n 1, 1) := by decide +kernel
theorem dX3_dreamsHaving_13 : decode cX3_dreamsHaving 13 = .ok (.aload_n 0, 1) := by decide +kernel
theorem dX3_dreamsHaving_14 : decode cX3_dreamsHaving 14 = .ok (.getfield 34, 3) := by decide +kernel
theorem dX3_dreamsHaving_17 : decode cX3_dreamsHaving 17 = .ok (.iload_n 3, 1) := by decide +kernel
theorem dX3_dreamsHaving_18 : decode cX3_dreamsHaving 18 = .ok (.iaload, 1) := by decide +kernel
theorem dX3_dreamsHaving_19 : decode cX3_dreamsHaving 19 = .ok (.invokestatic 98, 3) := by decide +kernel
theorem dX3_dreamsHaving_22 : decode cX3_dreamsHaving 22 = .ok (.ifCond .eq 9, 3) := by decide +kernel
theorem dX3_dreamsHaving_25 : decode cX3_dreamsHaving 25 = .ok (.iload_n 2, 1) := by decide +kernel
theorem dX3_dreamsHaving_26 : decode cX3_dreamsHaving 26 = .ok (.iconst 1, 1) := by decide +kernel
theorem dX3_dreamsHaving_27 : decode cX3_dreamsHaving 27 = .ok (.iload_n 3, 1) := by decide +kernel
theorem dX3_dreamsHaving_28 : decode cX3_dreamsHaving 28 = .ok (.ishl, 1) := by decide +kernel
theorem dX3_dreamsHaving_29 : decode cX3_dreamsHaving 29 = .ok (.ior, 1) := by decide +kernel
theorem dX3_dreamsHaving_30 : decode cX3_dreamsHaving 30 = .ok (.istore_n 2, 1) := by decide +kernel
theorem dX3_dreamsHaving_31 : decode cX3_dreamsHaving 31 = .ok (.iinc 3 1, 3) := by decide +kernel
theorem dX3_dreamsHaving_34 : decode cX3_dreamsHaving 34 = .ok (.goto (-30), 3) := by decide +kernel
theorem dX3_dreamsHaving_37 : decode cX3_dreamsHaving 37 = .ok (.iload_n 2, 1) := by decide +kernel
theorem dX3_dreamsHaving_38 : decode cX3_dreamsHaving 38 = .ok (.ireturn, 1) := by decide +kernel
theorem dX3_vividnessAfter_0 : decode cX3_vividnessAfter 0 = .ok (.aload_n 0, 1) := by decide +kernel
theorem dX3_vividnessAfter_1 : decode cX3_vividnessAfter 1 = .ok (.getfield 30, 3) := by decide +kernel
theorem dX3_vividnessAfter_4 : decode cX3_vividnessAfter 4 = .ok (.iload_n 1, 1) := by decide +kernel
theorem dX3_vividnessAfter_5 : decode cX3_vividnessAfter 5 = .ok (.iaload, 1) := by decide +kernel
theorem dX3_vividnessAfter_6 : decode cX3_vividnessAfter 6 = .ok (.aload_n 0, 1) := by decide +kernel
theorem dX3_vividnessAfter_7 : decode cX3_vividnessAfter 7 = .ok (.invokevirtual 233, 3) := by decide +kernel
theorem dX3_vividnessAfter_10 : decode cX3_vividnessAfter 10 = .ok (.iand, 1) := by decide +kernel
theorem dX3_vividnessAfter_11 : decode cX3_vividnessAfter 11 = .ok (.ifCond .eq 7, 3) := by decide +kernel
theorem dX3_vividnessAfter_14 : decode cX3_vividnessAfter 14 = .ok (.iconst 1, 1) := by decide +kernel
theorem dX3_vividnessAfter_15 : decode cX3_vividnessAfter 15 = .ok (.goto 4, 3) := by decide +kernel
theorem dX3_vividnessAfter_18 : decode cX3_vividnessAfter 18 = .ok (.iconst 0, 1) := by decide +kernel
theorem dX3_vividnessAfter_19 : decode cX3_vividnessAfter 19 = .ok (.istore_n 3, 1) := by decide +kernel
theorem dX3_vividnessAfter_20 : decode cX3_vividnessAfter 20 = .ok (.iload_n 3, 1) := by decide +kernel
theorem dX3_vividnessAfter_21 : decode cX3_vividnessAfter 21 = .ok (.ifCond .eq 12, 3) := by decide +kernel
theorem dX3_vividnessAfter_24 : decode cX3_vividnessAfter 24 = .ok (.aload_n 0, 1) := by decide +kernel
theorem dX3_vividnessAfter_25 : decode cX3_vividnessAfter 25 = .ok (.getfield 37, 3) := by decide +kernel
theorem dX3_vividnessAfter_28 : decode cX3_vividnessAfter 28 = .ok (.iload_n 1, 1) := by decide +kernel
theorem dX3_vividnessAfter_29 : decode cX3_vividnessAfter 29 = .ok (.iaload, 1) := by decide +kernel
theorem dX3_vividnessAfter_30 : decode cX3_vividnessAfter 30 = .ok (.goto 15, 3) := by decide +kernel
theorem dX3_vividnessAfter_33 : decode cX3_vividnessAfter 33 = .ok (.iconst 0, 1) := by decide +kernel
theorem dX3_vividnessAfter_34 : decode cX3_vividnessAfter 34 = .ok (.aload_n 0, 1) := by decide +kernel
theorem dX3_vividnessAfter_35 : decode cX3_vividnessAfter 35 = .ok (.getfield 37, 3) := by decide +kernel
theorem dX3_vividnessAfter_38 : decode cX3_vividnessAfter 38 = .ok (.iload_n 1, 1) := by decide +kernel
theorem dX3_vividnessAfter_39 : decode cX3_vividnessAfter 39 = .ok (.iaload, 1) := by decide +kernel
theorem dX3_vividnessAfter_40 : decode cX3_vividnessAfter 40 = .ok (.iload_n 2, 1) := by decide +kernel
theorem dX3_vividnessAfter_41 : decode cX3_vividnessAfter 41 = .ok (.isub, 1) := by decide +kernel
theorem dX3_vividnessAfter_42 : decode cX3_vividnessAfter 42 = .ok (.invokestatic 236, 3) := by decide +kernel
theorem dX3_vividnessAfter_45 : decode cX3_vividnessAfter 45 = .ok (.ireturn, 1) := by decide +kernel
theorem dX3_ownTagsOfLatest_0 : decode cX3_ownTagsOfLatest 0 = .ok (.aload_n 0, 1) := by decide +kernel
theorem dX3_ownTagsOfLatest_1 : decode cX3_ownTagsOfLatest 1 = .ok (.getfield 84, 3) := by decide +kernel
theorem dX3_ownTagsOfLatest_4 : decode cX3_ownTagsOfLatest 4 = .ok (.ifCond .ne 7, 3) := by decide +kernel
theorem dX3_ownTagsOfLatest_7 : decode cX3_ownTagsOfLatest 7 = .ok (.iconst 0, 1) := by decide +kernel
theorem dX3_ownTagsOfLatest_8 : decode cX3_ownTagsOfLatest 8 = .ok (.goto 14, 3) := by decide +kernel
theorem dX3_ownTagsOfLatest_11 : decode cX3_ownTagsOfLatest 11 = .ok (.aload_n 0, 1) := by decide +kernel
theorem dX3_ownTagsOfLatest_12 : decode cX3_ownTagsOfLatest 12 = .ok (.getfield 30, 3) := by decide +kernel
theorem dX3_ownTagsOfLatest_15 : decode cX3_ownTagsOfLatest 15 = .ok (.aload_n 0, 1) := by decide +kernel
theorem dX3_ownTagsOfLatest_16 : decode cX3_ownTagsOfLatest 16 = .ok (.getfield 84, 3) := by decide +kernel
theorem dX3_ownTagsOfLatest_19 : decode cX3_ownTagsOfLatest 19 = .ok (.iconst 1, 1) := by decide +kernel
theorem dX3_ownTagsOfLatest_20 : decode cX3_ownTagsOfLatest 20 = .ok (.isub, 1) := by decide +kernel
theorem dX3_ownTagsOfLatest_21 : decode cX3_ownTagsOfLatest 21 = .ok (.iaload, 1) := by decide +kernel
theorem dX3_ownTagsOfLatest_22 : decode cX3_ownTagsOfLatest 22 = .ok (.ireturn, 1) := by decide +kernel
theorem dX3_countFadedAfter_0 : decode cX3_countFadedAfter 0 = .ok (.iconst 0, 1) := by decide +kernel
theorem dX3_countFadedAfter_1 : decode cX3_countFadedAfter 1 = .ok (.istore_n 2, 1) := by decide +kernel
theorem dX3_countFadedAfter_2 : decode cX3_countFadedAfter 2 = .ok (.iconst 0, 1) := by decide +kernel
theorem dX3_countFadedAfter_3 : decode cX3_countFadedAfter 3 = .ok (.istore_n 3, 1) := by decide +kernel
theorem dX3_countFadedAfter_4 : decode cX3_countFadedAfter 4 = .ok (.iload_n 3, 1) := by decide +kernel
theorem dX3_countFadedAfter_5 : decode cX3_countFadedAfter 5 = .ok (.aload_n 0, 1) := by decide +kernel
theorem dX3_countFadedAfter_6 : decode cX3_countFadedAfter 6 = .ok (.getfield 84, 3) := by decide +kernel
theorem dX3_countFadedAfter_9 : decode cX3_countFadedAfter 9 = .ok (.if_icmp .ge 21, 3) := by decide +kernel
theorem dX3_countFadedAfter_12 : decode cX3_countFadedAfter 12 = .ok (.aload_n 0, 1) := by decide +kernel
theorem dX3_countFadedAfter_13 : decode cX3_countFadedAfter 13 = .ok (.iload_n 3, 1) := by decide +kernel
theorem dX3_countFadedAfter_14 : decode cX3_countFadedAfter 14 = .ok (.iload_n 1, 1) := by decide +kernel
theorem dX3_countFadedAfter_15 : decode cX3_countFadedAfter 15 = .ok (.invokevirtual 118, 3) := by decide +kernel
theorem dX3_countFadedAfter_18 : decode cX3_countFadedAfter 18 = .ok (.ifCond .ne 6, 3) := by decide +kernel
theorem dX3_countFadedAfter_21 : decode cX3_countFadedAfter 21 = .ok (.iinc 2 1, 3) := by decide +kernel
theorem dX3_countFadedAfter_24 : decode cX3_countFadedAfter 24 = .ok (.iinc 3 1, 3) := by decide +kernel
theorem dX3_countFadedAfter_27 : decode cX3_countFadedAfter 27 = .ok (.goto (-23), 3) := by decide +kernel
theorem dX3_countFadedAfter_30 : decode cX3_countFadedAfter 30 = .ok (.iload_n 2, 1) := by decide +kernel
theorem dX3_countFadedAfter_31 : decode cX3_countFadedAfter 31 = .ok (.ireturn, 1) := by decide +kernel
theorem dX3_tagsSharedBy_0 : decode cX3_tagsSharedBy 0 = .ok (.iload_n 1, 1) := by decide +kernel
theorem dX3_tagsSharedBy_1 : decode cX3_tagsSharedBy 1 = .ok (.ifCond .ne 7, 3) := by decide +kernel
theorem dX3_tagsSharedBy_4 : decode cX3_tagsSharedBy 4 = .ok (.iconst 0, 1) := by decide +kernel
theorem dX3_tagsSharedBy_5 : decode cX3_tagsSharedBy 5 = .ok (.goto 5, 3) := by decide +kernel
theorem dX3_tagsSharedBy_8 : decode cX3_tagsSharedBy 8 = .ok (.ldc 241, 2) := by decide +kernel
theorem dX3_tagsSharedBy_10 : decode cX3_tagsSharedBy 10 = .ok (.istore_n 2, 1) := by decide +kernel
theorem dX3_tagsSharedBy_11 : decode cX3_tagsSharedBy 11 = .ok (.iconst 0, 1) := by decide +kernel
theorem dX3_tagsSharedBy_12 : decode cX3_tagsSharedBy 12 = .ok (.istore_n 3, 1) := by decide +kernel
theorem dX3_tagsSharedBy_13 : decode cX3_tagsSharedBy 13 = .ok (.iload_n 3, 1) := by decide +kernel
theorem dX3_tagsSharedBy_14 : decode cX3_tagsSharedBy 14 = .ok (.aload_n 0, 1) := by decide +kernel
theorem dX3_tagsSharedBy_15 : decode cX3_tagsSharedBy 15 = .ok (.getfield 84, 3) := by decide +kernel
theorem dX3_tagsSharedBy_18 : decode cX3_tagsSharedBy 18 = .ok (.if_icmp .ge 26, 3) := by decide +kernel
theorem dX3_tagsSharedBy_21 : decode cX3_tagsSharedBy 21 = .ok (.iload_n 3, 1) := by decide +kernel
theorem dX3_tagsSharedBy_22 : decode cX3_tagsSharedBy 22 = .ok (.iload_n 1, 1) := by decide +kernel
theorem dX3_tagsSharedBy_23 : decode cX3_tagsSharedBy 23 = .ok (.invokestatic 98, 3) := by decide +kernel
theorem dX3_tagsSharedBy_26 : decode cX3_tagsSharedBy 26 = .ok (.ifCond .eq 12, 3) := by decide +kernel
theorem dX3_tagsSharedBy_29 : decode cX3_tagsSharedBy 29 = .ok (.iload_n 2, 1) := by decide +kernel
theorem dX3_tagsSharedBy_30 : decode cX3_tagsSharedBy 30 = .ok (.aload_n 0, 1) := by decide +kernel
theorem dX3_tagsSharedBy_31 : decode cX3_tagsSharedBy 31 = .ok (.getfield 34, 3) := by decide +kernel
theorem dX3_tagsSharedBy_34 : decode cX3_tagsSharedBy 34 = .ok (.iload_n 3, 1) := by decide +kernel
theorem dX3_tagsSharedBy_35 : decode cX3_tagsSharedBy 35 = .ok (.iaload, 1) := by decide +kernel
theorem dX3_tagsSharedBy_36 : decode cX3_tagsSharedBy 36 = .ok (.iand, 1) := by decide +kernel
theorem dX3_tagsSharedBy_37 : decode cX3_tagsSharedBy 37 = .ok (.istore_n 2, 1) := by decide +kernel
theorem dX3_tagsSharedBy_38 : decode cX3_tagsSharedBy 38 = .ok (.iinc 3 1, 3) := by decide +kernel
theorem dX3_tagsSharedBy_41 : decode cX3_tagsSharedBy 41 = .ok (.goto (-28), 3) := by decide +kernel
theorem dX3_tagsSharedBy_44 : decode cX3_tagsSharedBy 44 = .ok (.iload_n 2, 1) := by decide +kernel
theorem dX3_tagsSharedBy_45 : decode cX3_tagsSharedBy 45 = .ok (.ireturn, 1) := by decide +kernel
theorem dX3_smallestCover_0 : decode cX3_smallestCover 0 = .ok (.aload_n 0, 1) := by decide +kernel
theorem dX3_smallestCover_1 : decode cX3_smallestCover 1 = .ok (.getfield 19, 3) := by decide +kernel
theorem dX3_smallestCover_4 : decode cX3_smallestCover 4 = .ok (.getfield 151, 3) := by decide +kernel
theorem dX3_smallestCover_7 : decode cX3_smallestCover 7 = .ok (.iload_n 1, 1) := by decide +kernel
theorem dX3_smallestCover_8 : decode cX3_smallestCover 8 = .ok (.iaload, 1) := by decide +kernel
theorem dX3_smallestCover_9 : decode cX3_smallestCover 9 = .ok (.istore_n 2, 1) := by decide +kernel
theorem dX3_smallestCover_10 : decode cX3_smallestCover 10 = .ok (.iconst 0, 1) := by decide +kernel
theorem dX3_smallestCover_11 : decode cX3_smallestCover 11 = .ok (.istore_n 3, 1) := by decide +kernel
theorem dX3_smallestCover_12 : decode cX3_smallestCover 12 = .ok (.iload_n 3, 1) := by decide +kernel
theorem dX3_smallestCover_13 : decode cX3_smallestCover 13 = .ok (.bipush 16, 2) := by decide +kernel
theorem dX3_smallestCover_15 : decode cX3_smallestCover 15 = .ok (.if_icmp .ge 25, 3) := by decide +kernel
theorem dX3_smallestCover_18 : decode cX3_smallestCover 18 = .ok (.aload_n 0, 1) := by decide +kernel
theorem dX3_smallestCover_19 : decode cX3_smallestCover 19 = .ok (.getfield 26, 3) := by decide +kernel
theorem dX3_smallestCover_22 : decode cX3_smallestCover 22 = .ok (.getfield 242, 3) := by decide +kernel
theorem dX3_smallestCover_25 : decode cX3_smallestCover 25 = .ok (.iload_n 3, 1) := by decide +kernel
theorem dX3_smallestCover_26 : decode cX3_smallestCover 26 = .ok (.aload_n 0, 1) := by decide +kernel
theorem dX3_smallestCover_27 : decode cX3_smallestCover 27 = .ok (.iload_n 3, 1) := by decide +kernel
theorem dX3_smallestCover_28 : decode cX3_smallestCover 28 = .ok (.invokevirtual 148, 3) := by decide +kernel
theorem dX3_smallestCover_31 : decode cX3_smallestCover 31 = .ok (.iload_n 2, 1) := by decide +kernel
theorem dX3_smallestCover_32 : decode cX3_smallestCover 32 = .ok (.iand, 1) := by decide +kernel
theorem dX3_smallestCover_33 : decode cX3_smallestCover 33 = .ok (.iastore, 1) := by decide +kernel
theorem dX3_smallestCover_34 : decode cX3_smallestCover 34 = .ok (.iinc 3 1, 3) := by decide +kernel
theorem dX3_smallestCover_37 : decode cX3_smallestCover 37 = .ok (.goto (-25), 3) := by decide +kernel
theorem dX3_smallestCover_40 : decode cX3_smallestCover 40 = .ok (.aload_n 0, 1) := by decide +kernel
theorem dX3_smallestCover_41 : decode cX3_smallestCover 41 = .ok (.getfield 26, 3) := by decide +kernel
theorem dX3_smallestCover_44 : decode cX3_smallestCover 44 = .ok (.iload_n 2, 1) := by decide +kernel
theorem dX3_smallestCover_45 : decode cX3_smallestCover 45 = .ok (.invokevirtual 245, 3) := by decide +kernel
theorem dX3_smallestCover_48 : decode cX3_smallestCover 48 = .ok (.ireturn, 1) := by decide +kernel
theorem dX3_isIn_0 : decode cX3_isIn 0 = .ok (.iload_n 1, 1) := by decide +kernel
theorem dX3_isIn_1 : decode cX3_isIn 1 = .ok (.iload_n 0, 1) := by decide +kernel
theorem dX3_isIn_2 : decode cX3_isIn 2 = .ok (.ishr, 1) := by decide +kernel
theorem dX3_isIn_3 : decode cX3_isIn 3 = .ok (.iconst 1, 1) := by decide +kernel
theorem dX3_isIn_4 : decode cX3_isIn 4 = .ok (.iand, 1) := by decide +kernel
theorem dX3_isIn_5 : decode cX3_isIn 5 = .ok (.ifCond .eq 7, 3) := by decide +kernel
theorem dX3_isIn_8 : decode cX3_isIn 8 = .ok (.iconst 1, 1) := by decide +kernel
theorem dX3_isIn_9 : decode cX3_isIn 9 = .ok (.goto 4, 3) := by decide +kernel
theorem dX3_isIn_12 : decode cX3_isIn 12 = .ok (.iconst 0, 1) := by decide +kernel
theorem dX3_isIn_13 : decode cX3_isIn 13 = .ok (.ireturn, 1) := by decide +kernel
theorem dX4_init_0 : decode cX4_init 0 = .ok (.aload_n 0, 1) := by decide +kernel
theorem dX4_init_1 : decode cX4_init 1 = .ok (.invokespecial 1, 3) := by decide +kernel
theorem dX4_init_4 : decode cX4_init 4 = .ok (.aload_n 0, 1) := by decide +kernel
theorem dX4_init_5 : decode cX4_init 5 = .ok (.bipush 16, 2) := by decide +kernel
theorem dX4_init_7 : decode cX4_init 7 = .ok (.newarray .int, 2) := by decide +kernel
theorem dX4_init_9 : decode cX4_init 9 = .ok (.putfield 7, 3) := by decide +kernel
theorem dX4_init_12 : decode cX4_init 12 = .ok (.aload_n 0, 1) := by decide +kernel
theorem dX4_init_13 : decode cX4_init 13 = .ok (.bipush 24, 2) := by decide +kernel
theorem dX4_init_15 : decode cX4_init 15 = .ok (.bipush 16, 2) := by decide +kernel
theorem dX4_init_17 : decode cX4_init 17 = .ok (.multianewarray 13 2, 4) := by decide +kernel
theorem dX4_init_21 : decode cX4_init 21 = .ok (.putfield 15, 3) := by decide +kernel
theorem dX4_init_24 : decode cX4_init 24 = .ok (.aload_n 0, 1) := by decide +kernel
theorem dX4_init_25 : decode cX4_init 25 = .ok (.bipush 24, 2) := by decide +kernel
theorem dX4_init_27 : decode cX4_init 27 = .ok (.newarray .int, 2) := by decide +kernel
theorem dX4_init_29 : decode cX4_init 29 = .ok (.putfield 18, 3) := by decide +kernel
theorem dX4_init_32 : decode cX4_init 32 = .ok (.aload_n 0, 1) := by decide +kernel
theorem dX4_init_33 : decode cX4_init 33 = .ok (.bipush 24, 2) := by decide +kernel
theorem dX4_init_35 : decode cX4_init 35 = .ok (.newarray .int, 2) := by decide +kernel
theorem dX4_init_37 : decode cX4_init 37 = .ok (.putfield 21, 3) := by decide +kernel
theorem dX4_init_40 : decode cX4_init 40 = .ok (.aload_n 0, 1) := by decide +kernel
theorem dX4_init_41 : decode cX4_init 41 = .ok (.bipush 20, 2) := by decide +kernel
theorem dX4_init_43 : decode cX4_init 43 = .ok (.anewarray 24, 3) := by decide +kernel
theorem dX4_init_46 : decode cX4_init 46 = .ok (.putfield 25, 3) := by decide +kernel
theorem dX4_init_49 : decode cX4_init 49 = .ok (.return_, 1) := by decide +kernel
theorem dX4_isBelow_0 : decode cX4_isBelow 0 = .ok (.aload_n 0, 1) := by decide +kernel
theorem dX4_isBelow_1 : decode cX4_isBelow 1 = .ok (.getfield 7, 3) := by decide +kernel
theorem dX4_isBelow_4 : decode cX4_isBelow 4 = .ok (.iload_n 1, 1) := by decide +kernel
theorem dX4_isBelow_5 : decode cX4_isBelow 5 = .ok (.iaload, 1) := by decide +kernel
theorem dX4_isBelow_6 : decode cX4_isBelow 6 = .ok (.istore_n 3, 1) := by decide +kernel
theorem dX4_isBelow_7 : decode cX4_isBelow 7 = .ok (.iload_n 3, 1) := by decide +kernel
theorem dX4_isBelow_8 : decode cX4_isBelow 8 = .ok (.ifCond .lt 20, 3) := by decide +kernel
theorem dX4_isBelow_11 : decode cX4_isBelow 11 = .ok (.iload_n 3, 1) := by decide +kernel
theorem dX4_isBelow_12 : decode cX4_isBelow 12 = .ok (.iload_n 2, 1) := by decide +kernel
theorem dX4_isBelow_13 : decode cX4_isBelow 13 = .ok (.if_icmp .ne 5, 3) := by decide +kernel
theorem dX4_isBelow_16 : decode cX4_isBelow 16 = .ok (.iconst 1, 1) := by decide +kernel
theorem dX4_isBelow_17 : decode cX4_isBelow 17 = .ok (.ireturn, 1) := by decide +kernel
theorem dX4_isBelow_18 : decode cX4_isBelow 18 = .ok (.aload_n 0, 1) := by decide +kernel
theorem dX4_isBelow_19 : decode cX4_isBelow 19 = .ok (.getfield 7, 3) := by decide +kernel
theorem dX4_isBelow_22 : decode cX4_isBelow 22 = .ok (.iload_n 3, 1) := by decide +kernel
theorem dX4_isBelow_23 : decode cX4_isBelow 23 = .ok (.iaload, 1) := by decide +kernel
theorem dX4_isBelow_24 : decode cX4_isBelow 24 = .ok (.istore_n 3, 1) := by decide +kernel
theorem dX4_isBelow_25 : decode cX4_isBelow 25 = .ok (.goto (-18), 3) := by decide +kernel
theorem dX4_isBelow_28 : decode cX4_isBelow 28 = .ok (.iconst 0, 1) := by decide +kernel
theorem dX4_isBelow_29 : decode cX4_isBelow 29 = .ok (.ireturn, 1) := by decide +kernel
theorem dX4_hasTag_0 : decode cX4_hasTag 0 = .ok (.iconst 0, 1) := by decide +kernel
theorem dX4_hasTag_1 : decode cX4_hasTag 1 = .ok (.istore_n 3, 1) := by decide +kernel
theorem dX4_hasTag_2 : decode cX4_hasTag 2 = .ok (.iload_n 3, 1) := by decide +kernel
theorem dX4_hasTag_3 : decode cX4_hasTag 3 = .ok (.aload_n 0, 1) := by decide +kernel
theorem dX4_hasTag_4 : decode cX4_hasTag 4 = .ok (.getfield 29, 3) := by decide +kernel
theorem dX4_hasTag_7 : decode cX4_hasTag 7 = .ok (.if_icmp .ge 36, 3) := by decide +kernel
theorem dX4_hasTag_10 : decode cX4_hasTag 10 = .ok (.aload_n 0, 1) := by decide +kernel
theorem dX4_hasTag_11 : decode cX4_hasTag 11 = .ok (.getfield 15, 3) := by decide +kernel
theorem dX4_hasTag_14 : decode cX4_hasTag 14 = .ok (.iload_n 1, 1) := by decide +kernel
theorem dX4_hasTag_15 : decode cX4_hasTag 15 = .ok (.aaload, 1) := by decide +kernel
theorem dX4_hasTag_16 : decode cX4_hasTag 16 = .ok (.iload_n 3, 1) := by decide +kernel
theorem dX4_hasTag_17 : decode cX4_hasTag 17 = .ok (.baload, 1) := by decide +kernel
theorem dX4_hasTag_18 : decode cX4_hasTag 18 = .ok (.ifCond .eq 19, 3) := by decide +kernel
theorem dX4_hasTag_21 : decode cX4_hasTag 21 = .ok (.iload_n 3, 1) := by decide +kernel
theorem dX4_hasTag_22 : decode cX4_hasTag 22 = .ok (.iload_n 2, 1) := by decide +kernel
theorem dX4_hasTag_23 : decode cX4_hasTag 23 = .ok (.if_icmp .eq 12, 3) := by decide +kernel
theorem dX4_hasTag_26 : decode cX4_hasTag 26 = .ok (.aload_n 0, 1) := by decide +kernel
theorem dX4_hasTag_27 : decode cX4_hasTag 27 = .ok (.iload_n 3, 1) := by decide +kernel
theorem dX4_hasTag_28 : decode cX4_hasTag 28 = .ok (.iload_n 2, 1) := by decide +kernel
theorem dX4_hasTag_29 : decode cX4_hasTag 29 = .ok (.invokevirtual 33, 3) := by decide +kernel
theorem dX4_hasTag_32 : decode cX4_hasTag 32 = .ok (.ifCond .eq 5, 3) := by decide +kernel
theorem dX4_hasTag_35 : decode cX4_hasTag 35 = .ok (.iconst 1, 1) := by decide +kernel
theorem dX4_hasTag_36 : decode cX4_hasTag 36 = .ok (.ireturn, 1) := by decide +kernel
theorem dX4_hasTag_37 : decode cX4_hasTag 37 = .ok (.iinc 3 1, 3) := by decide +kernel
theorem dX4_hasTag_40 : decode cX4_hasTag 40 = .ok (.goto (-38), 3) := by decide +kernel
theorem dX4_hasTag_43 : decode cX4_hasTag 43 = .ok (.iconst 0, 1) := by decide +kernel
theorem dX4_hasTag_44 : decode cX4_hasTag 44 = .ok (.ireturn, 1) := by decide +kernel
theorem dX4_ownTags_0 : decode cX4_ownTags 0 = .ok (.iconst 0, 1) := by decide +kernel
theorem dX4_ownTags_1 : decode cX4_ownTags 1 = .ok (.istore_n 2, 1) := by decide +kernel
theorem dX4_ownTags_2 : decode cX4_ownTags 2 = .ok (.aload_n 0, 1) := by decide +kernel
theorem dX4_ownTags_3 : decode cX4_ownTags 3 = .ok (.getfield 15, 3) := by decide +kernel
theorem dX4_ownTags_6 : decode cX4_ownTags 6 = .ok (.iload_n 1, 1) := by decide +kernel
theorem dX4_ownTags_7 : decode cX4_ownTags 7 = .ok (.aaload, 1) := by decide +kernel
theorem dX4_ownTags_8 : decode cX4_ownTags 8 = .ok (.astore_n 3, 1) := by decide +kernel
theorem dX4_ownTags_9 : decode cX4_ownTags 9 = .ok (.aload_n 3, 1) := by decide +kernel
theorem dX4_ownTags_10 : decode cX4_ownTags 10 = .ok (.arraylength, 1) := by decide +kernel
theorem dX4_ownTags_11 : decode cX4_ownTags 11 = .ok (.istore 4, 2) := by decide +kernel
theorem dX4_ownTags_13 : decode cX4_ownTags 13 = .ok (.iconst 0, 1) := by decide +kernel
theorem dX4_ownTags_14 : decode cX4_ownTags 14 = .ok (.istore 5, 2) := by decide +kernel
theorem dX4_ownTags_16 : decode cX4_ownTags 16 = .ok (.iload 5, 2) := by decide +kernel
theorem dX4_ownTags_18 : decode cX4_ownTags 18 = .ok (.iload 4, 2) := by decide +kernel
theorem dX4_ownTags_20 : decode cX4_ownTags 20 = .ok (.if_icmp .ge 28, 3) := by decide +kernel
theorem dX4_ownTags_23 : decode cX4_ownTags 23 = .ok (.aload_n 3, 1) := by decide +kernel
theorem dX4_ownTags_24 : decode cX4_ownTags 24 = .ok (.iload 5, 2) := by decide +kernel
theorem dX4_ownTags_26 : decode cX4_ownTags 26 = .ok (.baload, 1) := by decide +kernel
theorem dX4_ownTags_27 : decode cX4_ownTags 27 = .ok (.istore 6, 2) := by decide +kernel
theorem dX4_ownTags_29 : decode cX4_ownTags 29 = .ok (.iload_n 2, 1) := by decide +kernel
theorem dX4_ownTags_30 : decode cX4_ownTags 30 = .ok (.iload 6, 2) := by decide +kernel
theorem dX4_ownTags_32 : decode cX4_ownTags 32 = .ok (.ifCond .eq 7, 3) := by decide +kernel
theorem dX4_ownTags_35 : decode cX4_ownTags 35 = .ok (.iconst 1, 1) := by decide +kernel
theorem dX4_ownTags_36 : decode cX4_ownTags 36 = .ok (.goto 4, 3) := by decide +kernel
theorem dX4_ownTags_39 : decode cX4_ownTags 39 = .ok (.iconst 0, 1) := by decide +kernel
theorem dX4_ownTags_40 : decode cX4_ownTags 40 = .ok (.iadd, 1) := by decide +kernel
theorem dX4_ownTags_41 : decode cX4_ownTags 41 = .ok (.istore_n 2, 1) := by decide +kernel
theorem dX4_ownTags_42 : decode cX4_ownTags 42 = .ok (.iinc 5 1, 3) := by decide +kernel
theorem dX4_ownTags_45 : decode cX4_ownTags 45 = .ok (.goto (-29), 3) := by decide +kernel
theorem dX4_ownTags_48 : decode cX4_ownTags 48 = .ok (.iload_n 2, 1) := by decide +kernel
theorem dX4_ownTags_49 : decode cX4_ownTags 49 = .ok (.ireturn, 1) := by decide +kernel
theorem dX4_matches_0 : decode cX4_matches 0 = .ok (.aload_n 0, 1) := by decide +kernel
theorem dX4_matches_1 : decode cX4_matches 1 = .ok (.getfield 37, 3) := by decide +kernel
theorem dX4_matches_4 : decode cX4_matches 4 = .ok (.aload_n 0, 1) := by decide +kernel
theorem dX4_matches_5 : decode cX4_matches 5 = .ok (.getfield 40, 3) := by decide +kernel
theorem dX4_matches_8 : decode cX4_matches 8 = .ok (.multianewarray 13 2, 4) := by decide +kernel
theorem dX4_matches_12 : decode cX4_matches 12 = .ok (.astore_n 1, 1) := by decide +kernel
theorem dX4_matches_13 : decode cX4_matches 13 = .ok (.iconst 0, 1) := by decide +kernel
theorem dX4_matches_14 : decode cX4_matches 14 = .ok (.istore_n 2, 1) := by decide +kernel
theorem dX4_matches_15 : decode cX4_matches 15 = .ok (.iload_n 2, 1) := by decide +kernel
theorem dX4_matches_16 : decode cX4_matches 16 = .ok (.aload_n 0, 1) := by decide +kernel
theorem dX4_matches_17 : decode cX4_matches 17 = .ok (.getfield 37, 3) := by decide +kernel
theorem dX4_matches_20 : decode cX4_matches 20 = .ok (.if_icmp .ge 148, 3) := by decide +kernel
theorem dX4_matches_23 : decode cX4_matches 23 = .ok (.aload_n 0, 1) := by decide +kernel
theorem dX4_matches_24 : decode cX4_matches 24 = .ok (.getfield 25, 3) := by decide +kernel
theorem dX4_matches_27 : decode cX4_matches 27 = .ok (.iload_n 2, 1) := by decide +kernel
theorem dX4_matches_28 : decode cX4_matches 28 = .ok (.aaload, 1) := by decide +kernel
theorem dX4_matches_29 : decode cX4_matches 29 = .ok (.astore_n 3, 1) := by decide +kernel
theorem dX4_matches_30 : decode cX4_matches 30 = .ok (.iconst 0, 1) := by decide +kernel
theorem dX4_matches_31 : decode cX4_matches 31 = .ok (.istore 4, 2) := by decide +kernel
theorem dX4_matches_33 : decode cX4_matches 33 = .ok (.iload 4, 2) := by decide +kernel
theorem dX4_matches_35 : decode cX4_matches 35 = .ok (.aload_n 0, 1) := by decide +kernel
theorem dX4_matches_36 : decode cX4_matches 36 = .ok (.getfield 40, 3) := by decide +kernel
theorem dX4_matches_39 : decode cX4_matches 39 = .ok (.if_icmp .ge 123, 3) := by decide +kernel
theorem dX4_matches_42 : decode cX4_matches 42 = .ok (.aload_n 1, 1) := by decide +kernel
theorem dX4_matches_43 : decode cX4_matches 43 = .ok (.iload_n 2, 1) := by decide +kernel
theorem dX4_matches_44 : decode cX4_matches 44 = .ok (.aaload, 1) := by decide +kernel
theorem dX4_matches_45 : decode cX4_matches 45 = .ok (.iload 4, 2) := by decide +kernel
theorem dX4_matches_47 : decode cX4_matches 47 = .ok (.aload_n 3, 1) := by decide +kernel
theorem dX4_matches_48 : decode cX4_matches 48 = .ok (.iconst 0, 1) := by decide +kernel
theorem dX4_matches_49 : decode cX4_matches 49 = .ok (.iaload, 1) := by decide +kernel
theorem dX4_matches_50 : decode cX4_matches 50 = .ok (.ifCond .ne 15, 3) := by decide +kernel
theorem dX4_matches_53 : decode cX4_matches 53 = .ok (.aload_n 0, 1) := by decide +kernel
theorem dX4_matches_54 : decode cX4_matches 54 = .ok (.iload 4, 2) := by decide +kernel
theorem dX4_matches_56 : decode cX4_matches 56 = .ok (.aload_n 3, 1) := by decide +kernel
theorem dX4_matches_57 : decode cX4_matches 57 = .ok (.iconst 1, 1) := by decide +kernel
theorem dX4_matches_58 : decode cX4_matches 58 = .ok (.iaload, 1) := by decide +kernel
theorem dX4_matches_59 : decode cX4_matches 59 = .ok (.invokevirtual 43, 3) := by decide +kernel
theorem dX4_matches_62 : decode cX4_matches 62 = .ok (.goto 93, 3) := by decide +kernel
theorem dX4_matches_65 : decode cX4_matches 65 = .ok (.aload_n 3, 1) := by decide +kernel
theorem dX4_matches_66 : decode cX4_matches 66 = .ok (.iconst 0, 1) := by decide +kernel
theorem dX4_matches_67 : decode cX4_matches 67 = .ok (.iaload, 1) := by decide +kernel
theorem dX4_matches_68 : decode cX4_matches 68 = .ok (.iconst 3, 1) := by decide +kernel
theorem dX4_matches_69 : decode cX4_matches 69 = .ok (.if_icmp .ne 22, 3) := by decide +kernel
theorem dX4_matches_72 : decode cX4_matches 72 = .ok (.aload_n 1, 1) := by decide +kernel
theorem dX4_matches_73 : decode cX4_matches 73 = .ok (.aload_n 3, 1) := by decide +kernel
theorem dX4_matches_74 : decode cX4_matches 74 = .ok (.iconst 1, 1) := by decide +kernel
theorem dX4_matches_75 : decode cX4_matches 75 = .ok (.iaload, 1) := by decide +kernel
theorem dX4_matches_76 : decode cX4_matches 76 = .ok (.aaload, 1) := by decide +kernel
theorem dX4_matches_77 : decode cX4_matches 77 = .ok (.iload 4, 2) := by decide +kernel
theorem dX4_matches_79 : decode cX4_matches 79 = .ok (.baload, 1) := by decide +kernel
theorem dX4_matches_80 : decode cX4_matches 80 = .ok (.ifCond .ne 7, 3) := by decide +kernel
theorem dX4_matches_83 : decode cX4_matches 83 = .ok (.iconst 1, 1) := by decide +kernel
theorem dX4_matches_84 : decode cX4_matches 84 = .ok (.goto 71, 3) := by decide +kernel
theorem dX4_matches_87 : decode cX4_matches 87 = .ok (.iconst 0, 1) := by decide +kernel
theorem dX4_matches_88 : decode cX4_matches 88 = .ok (.goto 67, 3) := by decide +kernel
theorem dX4_matches_91 : decode cX4_matches 91 = .ok (.aload_n 3, 1) := by decide +kernel
theorem dX4_matches_92 : decode cX4_matches 92 = .ok (.iconst 0, 1) := by decide +kernel
theorem dX4_matches_93 : decode cX4_matches 93 = .ok (.iaload, 1) := by decide +kernel
theorem dX4_matches_94 : decode cX4_matches 94 = .ok (.iconst 1, 1) := by decide +kernel
theorem dX4_matches_95 : decode cX4_matches 95 = .ok (.if_icmp .ne 33, 3) := by decide +kernel
theorem dX4_matches_98 : decode cX4_matches 98 = .ok (.aload_n 1, 1) := by decide +kernel
theorem dX4_matches_99 : decode cX4_matches 99 = .ok (.aload_n 3, 1) := by decide +kernel
theorem dX4_matches_100 : decode cX4_matches 100 = .ok (.iconst 1, 1) := by decide +kernel
theorem dX4_matches_101 : decode cX4_matches 101 = .ok (.iaload, 1) := by decide +kernel
theorem dX4_matches_102 : decode cX4_matches 102 = .ok (.aaload, 1) := by decide +kernel
theorem dX4_matches_103 : decode cX4_matches 103 = .ok (.iload 4, 2) := by decide +kernel
theorem dX4_matches_105 : decode cX4_matches 105 = .ok (.baload, 1) := by decide +kernel
theorem dX4_matches_106 : decode cX4_matches 106 = .ok (.ifCond .eq 18, 3) := by decide +kernel
theorem dX4_matches_109 : decode cX4_matches 109 = .ok (.aload_n 1, 1) := by decide +kernel
theorem dX4_matches_110 : decode cX4_matches 110 = .ok (.aload_n 3, 1) := by decide +kernel
theorem dX4_matches_111 : decode cX4_matches 111 = .ok (.iconst 2, 1) := by decide +kernel
theorem dX4_matches_112 : decode cX4_matches 112 = .ok (.iaload, 1) := by decide +kernel
theorem dX4_matches_113 : decode cX4_matches 113 = .ok (.aaload, 1) := by decide +kernel
theorem dX4_matches_114 : decode cX4_matches 114 = .ok (.iload 4, 2) := by decide +kernel
theorem dX4_matches_116 : decode cX4_matches 116 = .ok (.baload, 1) := by decide +kernel
theorem dX4_matches_117 : decode cX4_matches 117 = .ok (.ifCond .eq 7, 3) := by decide +kernel
theorem dX4_matches_120 : decode cX4_matches 120 = .ok (.iconst 1, 1) := by decide +kernel
theorem dX4_matches_121 : decode cX4_matches 121 = .ok (.goto 34, 3) := by decide +kernel
theorem dX4_matches_124 : decode cX4_matches 124 = .ok (.iconst 0, 1) := by decide +kernel
theorem dX4_matches_125 : decode cX4_matches 125 = .ok (.goto 30, 3) := by decide +kernel
theorem dX4_matches_128 : decode cX4_matches 128 = .ok (.aload_n 1, 1) := by decide +kernel
theorem dX4_matches_129 : decode cX4_matches 129 = .ok (.aload_n 3, 1) := by decide +kernel
theorem dX4_matches_130 : decode cX4_matches 130 = .ok (.iconst 1, 1) := by decide +kernel
theorem dX4_matches_131 : decode cX4_matches 131 = .ok (.iaload, 1) := by decide +kernel
theorem dX4_matches_132 : decode cX4_matches 132 = .ok (.aaload, 1) := by decide +kernel
theorem dX4_matches_133 : decode cX4_matches 133 = .ok (.iload 4, 2) := by decide +kernel
theorem dX4_matches_135 : decode cX4_matches 135 = .ok (.baload, 1) := by decide +kernel
theorem dX4_matches_136 : decode cX4_matches 136 = .ok (.ifCond .ne 14, 3) := by decide +kernel
theorem dX4_matches_139 : decode cX4_matches 139 = .ok (.aload_n 1, 1) := by decide +kernel
theorem dX4_matches_140 : decode cX4_matches 140 = .ok (.aload_n 3, 1) := by decide +kernel
theorem dX4_matches_141 : decode cX4_matches 141 = .ok (.iconst 2, 1) := by decide +kernel
theorem dX4_matches_142 : decode cX4_matches 142 = .ok (.iaload, 1) := by decide +kernel
theorem dX4_matches_143 : decode cX4_matches 143 = .ok (.aaload, 1) := by decide +kernel
theorem dX4_matches_144 : decode cX4_matches 144 = .ok (.iload 4, 2) := by decide +kernel
theorem dX4_matches_146 : decode cX4_matches 146 = .ok (.baload, 1) := by decide +kernel
theorem dX4_matches_147 : decode cX4_matches 147 = .ok (.ifCond .eq 7, 3) := by decide +kernel
theorem dX4_matches_150 : decode cX4_matches 150 = .ok (.iconst 1, 1) := by decide +kernel
theorem dX4_matches_151 : decode cX4_matches 151 = .ok (.goto 4, 3) := by decide +kernel
theorem dX4_matches_154 : decode cX4_matches 154 = .ok (.iconst 0, 1) := by decide +kernel
theorem dX4_matches_155 : decode cX4_matches 155 = .ok (.bastore, 1) := by decide +kernel
theorem dX4_matches_156 : decode cX4_matches 156 = .ok (.iinc 4 1, 3) := by decide +kernel
theorem dX4_matches_159 : decode cX4_matches 159 = .ok (.goto (-126), 3) := by decide +kernel
theorem dX4_matches_162 : decode cX4_matches 162 = .ok (.iinc 2 1, 3) := by decide +kernel
theorem dX4_matches_165 : decode cX4_matches 165 = .ok (.goto (-150), 3) := by decide +kernel
theorem dX4_matches_168 : decode cX4_matches 168 = .ok (.aload_n 1, 1) := by decide +kernel
theorem dX4_matches_169 : decode cX4_matches 169 = .ok (.areturn, 1) := by decide +kernel
theorem dX4_later_0 : decode cX4_later 0 = .ok (.iload_n 1, 1) := by decide +kernel
theorem dX4_later_1 : decode cX4_later 1 = .ok (.aload_n 0, 1) := by decide +kernel
theorem dX4_later_2 : decode cX4_later 2 = .ok (.getfield 40, 3) := by decide +kernel
theorem dX4_later_5 : decode cX4_later 5 = .ok (.iconst 1, 1) := by decide +kernel
theorem dX4_later_6 : decode cX4_later 6 = .ok (.isub, 1) := by decide +kernel
theorem dX4_later_7 : decode cX4_later 7 = .ok (.if_icmp .ne 10, 3) := by decide +kernel
theorem dX4_later_10 : decode cX4_later 10 = .ok (.aload_n 0, 1) := by decide +kernel
theorem dX4_later_11 : decode cX4_later 11 = .ok (.getfield 18, 3) := by decide +kernel
theorem dX4_later_14 : decode cX4_later 14 = .ok (.iload_n 1, 1) := by decide +kernel
theorem dX4_later_15 : decode cX4_later 15 = .ok (.iaload, 1) := by decide +kernel
theorem dX4_later_16 : decode cX4_later 16 = .ok (.ireturn, 1) := by decide +kernel
theorem dX4_later_17 : decode cX4_later 17 = .ok (.iconst 0, 1) := by decide +kernel
theorem dX4_later_18 : decode cX4_later 18 = .ok (.istore_n 3, 1) := by decide +kernel
theorem dX4_later_19 : decode cX4_later 19 = .ok (.iload_n 3, 1) := by decide +kernel
theorem dX4_later_20 : decode cX4_later 20 = .ok (.aload_n 0, 1) := by decide +kernel
theorem dX4_later_21 : decode cX4_later 21 = .ok (.getfield 29, 3) := by decide +kernel
theorem dX4_later_24 : decode cX4_later 24 = .ok (.if_icmp .ge 43, 3) := by decide +kernel
theorem dX4_later_27 : decode cX4_later 27 = .ok (.aload_n 0, 1) := by decide +kernel
theorem dX4_later_28 : decode cX4_later 28 = .ok (.getfield 15, 3) := by decide +kernel
theorem dX4_later_31 : decode cX4_later 31 = .ok (.iload_n 1, 1) := by decide +kernel
theorem dX4_later_32 : decode cX4_later 32 = .ok (.aaload, 1) := by decide +kernel
theorem dX4_later_33 : decode cX4_later 33 = .ok (.iload_n 3, 1) := by decide +kernel
theorem dX4_later_34 : decode cX4_later 34 = .ok (.baload, 1) := by decide +kernel
theorem dX4_later_35 : decode cX4_later 35 = .ok (.ifCond .eq 26, 3) := by decide +kernel
theorem dX4_later_38 : decode cX4_later 38 = .ok (.aload_n 0, 1) := by decide +kernel
theorem dX4_later_39 : decode cX4_later 39 = .ok (.getfield 15, 3) := by decide +kernel
theorem dX4_later_42 : decode cX4_later 42 = .ok (.aload_n 0, 1) := by decide +kernel
theorem dX4_later_43 : decode cX4_later 43 = .ok (.getfield 40, 3) := by decide +kernel
theorem dX4_later_46 : decode cX4_later 46 = .ok (.iconst 1, 1) := by decide +kernel
theorem dX4_later_47 : decode cX4_later 47 = .ok (.isub, 1) := by decide +kernel
theorem dX4_later_48 : decode cX4_later 48 = .ok (.aaload, 1) := by decide +kernel
theorem dX4_later_49 : decode cX4_later 49 = .ok (.iload_n 3, 1) := by decide +kernel
theorem dX4_later_50 : decode cX4_later 50 = .ok (.baload, 1) := by decide +kernel
theorem dX4_later_51 : decode cX4_later 51 = .ok (.ifCond .eq 10, 3) := by decide +kernel
theorem dX4_later_54 : decode cX4_later 54 = .ok (.aload_n 0, 1) := by decide +kernel
theorem dX4_later_55 : decode cX4_later 55 = .ok (.getfield 18, 3) := by decide +kernel
theorem dX4_later_58 : decode cX4_later 58 = .ok (.iload_n 1, 1) := by decide +kernel
theorem dX4_later_59 : decode cX4_later 59 = .ok (.iaload, 1) := by decide +kernel
theorem dX4_later_60 : decode cX4_later 60 = .ok (.ireturn, 1) := by decide +kernel
theorem dX4_later_61 : decode cX4_later 61 = .ok (.iinc 3 1, 3) := by decide +kernel
theorem dX4_later_64 : decode cX4_later 64 = .ok (.goto (-45), 3) := by decide +kernel
theorem dX4_later_67 : decode cX4_later 67 = .ok (.aload_n 0, 1) := by decide +kernel
theorem dX4_later_68 : decode cX4_later 68 = .ok (.getfield 18, 3) := by decide +kernel
theorem dX4_later_71 : decode cX4_later 71 = .ok (.iload_n 1, 1) := by decide +kernel
theorem dX4_later_72 : decode cX4_later 72 = .ok (.iaload, 1) := by decide +kernel
theorem dX4_later_73 : decode cX4_later 73 = .ok (.iload_n 2, 1) := by decide +kernel
theorem dX4_later_74 : decode cX4_later 74 = .ok (.if_icmp .le 14, 3) := by decide +kernel
theorem dX4_later_77 : decode cX4_later 77 = .ok (.aload_n 0, 1) := by decide +kernel
theorem dX4_later_78 : decode cX4_later 78 = .ok (.getfield 18, 3) := by decide +kernel
theorem dX4_later_81 : decode cX4_later 81 = .ok (.iload_n 1, 1) := by decide +kernel
theorem dX4_later_82 : decode cX4_later 82 = .ok (.iaload, 1) := by decide +kernel
theorem dX4_later_83 : decode cX4_later 83 = .ok (.iload_n 2, 1) := by decide +kernel
theorem dX4_later_84 : decode cX4_later 84 = .ok (.isub, 1) := by decide +kernel
theorem dX4_later_85 : decode cX4_later 85 = .ok (.goto 4, 3) := by decide +kernel
theorem dX4_later_88 : decode cX4_later 88 = .ok (.iconst 0, 1) := by decide +kernel
theorem dX4_later_89 : decode cX4_later 89 = .ok (.ireturn, 1) := by decide +kernel
theorem dX4_faded_0 : decode cX4_faded 0 = .ok (.iconst 0, 1) := by decide +kernel
theorem dX4_faded_1 : decode cX4_faded 1 = .ok (.istore_n 2, 1) := by decide +kernel
theorem dX4_faded_2 : decode cX4_faded 2 = .ok (.iconst 0, 1) := by decide +kernel
theorem dX4_faded_3 : decode cX4_faded 3 = .ok (.istore_n 3, 1) := by decide +kernel
theorem dX4_faded_4 : decode cX4_faded 4 = .ok (.iload_n 3, 1) := by decide +kernel
theorem dX4_faded_5 : decode cX4_faded 5 = .ok (.aload_n 0, 1) := by decide +kernel
theorem dX4_faded_6 : decode cX4_faded 6 = .ok (.getfield 40, 3) := by decide +kernel
theorem dX4_faded_9 : decode cX4_faded 9 = .ok (.if_icmp .ge 26, 3) := by decide +kernel
theorem dX4_faded_12 : decode cX4_faded 12 = .ok (.iload_n 2, 1) := by decide +kernel
theorem dX4_faded_13 : decode cX4_faded 13 = .ok (.aload_n 0, 1) := by decide +kernel
theorem dX4_faded_14 : decode cX4_faded 14 = .ok (.iload_n 3, 1) := by decide +kernel
theorem dX4_faded_15 : decode cX4_faded 15 = .ok (.iload_n 1, 1) := by decide +kernel
theorem dX4_faded_16 : decode cX4_faded 16 = .ok (.invokevirtual 46, 3) := by decide +kernel
theorem dX4_faded_19 : decode cX4_faded 19 = .ok (.ifCond .ne 7, 3) := by decide +kernel
theorem dX4_faded_22 : decode cX4_faded 22 = .ok (.iconst 1, 1) := by decide +kernel
theorem dX4_faded_23 : decode cX4_faded 23 = .ok (.goto 4, 3) := by decide +kernel
theorem dX4_faded_26 : decode cX4_faded 26 = .ok (.iconst 0, 1) := by decide +kernel
theorem dX4_faded_27 : decode cX4_faded 27 = .ok (.iadd, 1) := by decide +kernel
theorem dX4_faded_28 : decode cX4_faded 28 = .ok (.istore_n 2, 1) := by decide +kernel
theorem dX4_faded_29 : decode cX4_faded 29 = .ok (.iinc 3 1, 3) := by decide +kernel
theorem dX4_faded_32 : decode cX4_faded 32 = .ok (.goto (-28), 3) := by decide +kernel
theorem dX4_faded_35 : decode cX4_faded 35 = .ok (.iload_n 2, 1) := by decide +kernel
theorem dX4_faded_36 : decode cX4_faded 36 = .ok (.ireturn, 1) := by decide +kernel
theorem dX4_isSame_0 : decode cX4_isSame 0 = .ok (.aload_n 1, 1) := by decide +kernel
theorem dX4_isSame_1 : decode cX4_isSame 1 = .ok (.invokevirtual 50, 3) := by decide +kernel
theorem dX4_isSame_4 : decode cX4_isSame 4 = .ok (.aload_n 0, 1) := by decide +kernel
theorem dX4_isSame_5 : decode cX4_isSame 5 = .ok (.getfield 29, 3) := by decide +kernel
theorem dX4_isSame_8 : decode cX4_isSame 8 = .ok (.if_icmp .ne 48, 3) := by decide +kernel
theorem dX4_isSame_11 : decode cX4_isSame 11 = .ok (.aload_n 1, 1) := by decide +kernel
theorem dX4_isSame_12 : decode cX4_isSame 12 = .ok (.invokevirtual 55, 3) := by decide +kernel
theorem dX4_isSame_15 : decode cX4_isSame 15 = .ok (.aload_n 0, 1) := by decide +kernel
theorem dX4_isSame_16 : decode cX4_isSame 16 = .ok (.getfield 40, 3) := by decide +kernel
theorem dX4_isSame_19 : decode cX4_isSame 19 = .ok (.if_icmp .ne 37, 3) := by decide +kernel
theorem dX4_isSame_22 : decode cX4_isSame 22 = .ok (.aload_n 1, 1) := by decide +kernel
theorem dX4_isSame_23 : decode cX4_isSame 23 = .ok (.invokevirtual 57, 3) := by decide +kernel
theorem dX4_isSame_26 : decode cX4_isSame 26 = .ok (.aload_n 0, 1) := by decide +kernel
theorem dX4_isSame_27 : decode cX4_isSame 27 = .ok (.getfield 37, 3) := by decide +kernel
theorem dX4_isSame_30 : decode cX4_isSame 30 = .ok (.if_icmp .ne 26, 3) := by decide +kernel
theorem dX4_isSame_33 : decode cX4_isSame 33 = .ok (.aload_n 1, 1) := by decide +kernel
theorem dX4_isSame_34 : decode cX4_isSame 34 = .ok (.invokevirtual 59, 3) := by decide +kernel
theorem dX4_isSame_37 : decode cX4_isSame 37 = .ok (.aload_n 0, 1) := by decide +kernel
theorem dX4_isSame_38 : decode cX4_isSame 38 = .ok (.getfield 62, 3) := by decide +kernel
theorem dX4_isSame_41 : decode cX4_isSame 41 = .ok (.if_icmp .ne 15, 3) := by decide +kernel
theorem dX4_isSame_44 : decode cX4_isSame 44 = .ok (.aload_n 1, 1) := by decide +kernel
theorem dX4_isSame_45 : decode cX4_isSame 45 = .ok (.invokevirtual 64, 3) := by decide +kernel
theorem dX4_isSame_48 : decode cX4_isSame 48 = .ok (.aload_n 0, 1) := by decide +kernel
theorem dX4_isSame_49 : decode cX4_isSame 49 = .ok (.iconst 0, 1) := by decide +kernel
theorem dX4_isSame_50 : decode cX4_isSame 50 = .ok (.invokevirtual 67, 3) := by decide +kernel
theorem dX4_isSame_53 : decode cX4_isSame 53 = .ok (.if_icmp .eq 5, 3) := by decide +kernel
theorem dX4_isSame_56 : decode cX4_isSame 56 = .ok (.iconst 0, 1) := by decide +kernel
theorem dX4_isSame_57 : decode cX4_isSame 57 = .ok (.ireturn, 1) := by decide +kernel
theorem dX4_isSame_58 : decode cX4_isSame 58 = .ok (.iconst 0, 1) := by decide +kernel
theorem dX4_isSame_59 : decode cX4_isSame 59 = .ok (.istore_n 2, 1) := by decide +kernel
theorem dX4_isSame_60 : decode cX4_isSame 60 = .ok (.iload_n 2, 1) := by decide +kernel
theorem dX4_isSame_61 : decode cX4_isSame 61 = .ok (.aload_n 0, 1) := by decide +kernel
theorem dX4_isSame_62 : decode cX4_isSame 62 = .ok (.getfield 29, 3) := by decide +kernel
theorem dX4_isSame_65 : decode cX4_isSame 65 = .ok (.if_icmp .ge 206, 3) := by decide +kernel
theorem dX4_isSame_68 : decode cX4_isSame 68 = .ok (.iconst 0, 1) := by decide +kernel
theorem dX4_isSame_69 : decode cX4_isSame 69 = .ok (.istore_n 3, 1) := by decide +kernel
theorem dX4_isSame_70 : decode cX4_isSame 70 = .ok (.iconst 0, 1) := by decide +kernel
theorem dX4_isSame_71 : decode cX4_isSame 71 = .ok (.istore 4, 2) := by decide +kernel
theorem dX4_isSame_73 : decode cX4_isSame 73 = .ok (.iconst 0, 1) := by decide +kernel
theorem dX4_isSame_74 : decode cX4_isSame 74 = .ok (.istore 5, 2) := by decide +kernel
theorem dX4_isSame_76 : decode cX4_isSame 76 = .ok (.iconst 0, 1) := by decide +kernel
theorem dX4_isSame_77 : decode cX4_isSame 77 = .ok (.istore 6, 2) := by decide +kernel
theorem dX4_isSame_79 : decode cX4_isSame 79 = .ok (.iload 6, 2) := by decide +kernel
theorem dX4_isSame_81 : decode cX4_isSame 81 = .ok (.aload_n 0, 1) := by decide +kernel
theorem dX4_isSame_82 : decode cX4_isSame 82 = .ok (.getfield 29, 3) := by decide +kernel
theorem dX4_isSame_85 : decode cX4_isSame 85 = .ok (.if_icmp .ge 66, 3) := by decide +kernel
theorem dX4_isSame_88 : decode cX4_isSame 88 = .ok (.iload_n 3, 1) := by decide +kernel
theorem dX4_isSame_89 : decode cX4_isSame 89 = .ok (.aload_n 0, 1) := by decide +kernel
theorem dX4_isSame_90 : decode cX4_isSame 90 = .ok (.iload_n 2, 1) := by decide +kernel
theorem dX4_isSame_91 : decode cX4_isSame 91 = .ok (.iload 6, 2) := by decide +kernel
theorem dX4_isSame_93 : decode cX4_isSame 93 = .ok (.invokevirtual 33, 3) := by decide +kernel
theorem dX4_isSame_96 : decode cX4_isSame 96 = .ok (.ifCond .eq 7, 3) := by decide +kernel
theorem dX4_isSame_99 : decode cX4_isSame 99 = .ok (.iconst 1, 1) := by decide +kernel
theorem dX4_isSame_100 : decode cX4_isSame 100 = .ok (.goto 4, 3) := by decide +kernel
theorem dX4_isSame_103 : decode cX4_isSame 103 = .ok (.iconst 0, 1) := by decide +kernel
theorem dX4_isSame_104 : decode cX4_isSame 104 = .ok (.iadd, 1) := by decide +kernel
theorem dX4_isSame_105 : decode cX4_isSame 105 = .ok (.istore_n 3, 1) := by decide +kernel
theorem dX4_isSame_106 : decode cX4_isSame 106 = .ok (.iload 4, 2) := by decide +kernel
theorem dX4_isSame_108 : decode cX4_isSame 108 = .ok (.aload_n 0, 1) := by decide +kernel
theorem dX4_isSame_109 : decode cX4_isSame 109 = .ok (.iload 6, 2) := by decide +kernel
theorem dX4_isSame_111 : decode cX4_isSame 111 = .ok (.iload_n 2, 1) := by decide +kernel
theorem dX4_isSame_112 : decode cX4_isSame 112 = .ok (.invokevirtual 33, 3) := by decide +kernel
theorem dX4_isSame_115 : decode cX4_isSame 115 = .ok (.ifCond .eq 7, 3) := by decide +kernel
theorem dX4_isSame_118 : decode cX4_isSame 118 = .ok (.iconst 1, 1) := by decide +kernel
theorem dX4_isSame_119 : decode cX4_isSame 119 = .ok (.goto 4, 3) := by decide +kernel
theorem dX4_isSame_122 : decode cX4_isSame 122 = .ok (.iconst 0, 1) := by decide +kernel
theorem dX4_isSame_123 : decode cX4_isSame 123 = .ok (.iadd, 1) := by decide +kernel
theorem dX4_isSame_124 : decode cX4_isSame 124 = .ok (.istore 4, 2) := by decide +kernel
theorem dX4_isSame_126 : decode cX4_isSame 126 = .ok (.aload_n 1, 1) := by decide +kernel
theorem dX4_isSame_127 : decode cX4_isSame 127 = .ok (.iload_n 2, 1) := by decide +kernel
theorem dX4_isSame_128 : decode cX4_isSame 128 = .ok (.iload 6, 2) := by decide +kernel
theorem dX4_isSame_130 : decode cX4_isSame 130 = .ok (.invokevirtual 71, 3) := by decide +kernel
theorem dX4_isSame_133 : decode cX4_isSame 133 = .ok (.aload_n 0, 1) := by decide +kernel
theorem dX4_isSame_134 : decode cX4_isSame 134 = .ok (.iload_n 2, 1) := by decide +kernel
theorem dX4_isSame_135 : decode cX4_isSame 135 = .ok (.iload 6, 2) := by decide +kernel
theorem dX4_isSame_137 : decode cX4_isSame 137 = .ok (.invokevirtual 33, 3) := by decide +kernel
theorem dX4_isSame_140 : decode cX4_isSame 140 = .ok (.if_icmp .eq 5, 3) := by decide +kernel
theorem dX4_isSame_143 : decode cX4_isSame 143 = .ok (.iconst 0, 1) := by decide +kernel
theorem dX4_isSame_144 : decode cX4_isSame 144 = .ok (.ireturn, 1) := by decide +kernel
theorem dX4_isSame_145 : decode cX4_isSame 145 = .ok (.iinc 6 1, 3) := by decide +kernel
theorem dX4_isSame_148 : decode cX4_isSame 148 = .ok (.goto (-69), 3) := by decide +kernel
theorem dX4_isSame_151 : decode cX4_isSame 151 = .ok (.iconst 0, 1) := by decide +kernel
theorem dX4_isSame_152 : decode cX4_isSame 152 = .ok (.istore 6, 2) := by decide +kernel
theorem dX4_isSame_154 : decode cX4_isSame 154 = .ok (.iload 6, 2) := by decide +kernel
theorem dX4_isSame_156 : decode cX4_isSame 156 = .ok (.aload_n 0, 1) := by decide +kernel
theorem dX4_isSame_157 : decode cX4_isSame 157 = .ok (.getfield 40, 3) := by decide +kernel
theorem dX4_isSame_160 : decode cX4_isSame 160 = .ok (.if_icmp .ge 29, 3) := by decide +kernel
theorem dX4_isSame_163 : decode cX4_isSame 163 = .ok (.iload 5, 2) := by decide +kernel
theorem dX4_isSame_165 : decode cX4_isSame 165 = .ok (.aload_n 0, 1) := by decide +kernel
theorem dX4_isSame_166 : decode cX4_isSame 166 = .ok (.iload 6, 2) := by decide +kernel
theorem dX4_isSame_168 : decode cX4_isSame 168 = .ok (.iload_n 2, 1) := by decide +kernel
theorem dX4_isSame_169 : decode cX4_isSame 169 = .ok (.invokevirtual 43, 3) := by decide +kernel
theorem dX4_isSame_172 : decode cX4_isSame 172 = .ok (.ifCond .eq 7, 3) := by decide +kernel
theorem dX4_isSame_175 : decode cX4_isSame 175 = .ok (.iconst 1, 1) := by decide +kernel
theorem dX4_isSame_176 : decode cX4_isSame 176 = .ok (.goto 4, 3) := by decide +kernel
theorem dX4_isSame_179 : decode cX4_isSame 179 = .ok (.iconst 0, 1) := by decide +kernel
theorem dX4_isSame_180 : decode cX4_isSame 180 = .ok (.iadd, 1) := by decide +kernel
theorem dX4_isSame_181 : decode cX4_isSame 181 = .ok (.istore 5, 2) := by decide +kernel
theorem dX4_isSame_183 : decode cX4_isSame 183 = .ok (.iinc 6 1, 3) := by decide +kernel
theorem dX4_isSame_186 : decode cX4_isSame 186 = .ok (.goto (-32), 3) := by decide +kernel
theorem dX4_isSame_189 : decode cX4_isSame 189 = .ok (.aload_n 1, 1) := by decide +kernel
theorem dX4_isSame_190 : decode cX4_isSame 190 = .ok (.iload_n 2, 1) := by decide +kernel
theorem dX4_isSame_191 : decode cX4_isSame 191 = .ok (.invokevirtual 72, 3) := by decide +kernel
theorem dX4_isSame_194 : decode cX4_isSame 194 = .ok (.aload_n 0, 1) := by decide +kernel
theorem dX4_isSame_195 : decode cX4_isSame 195 = .ok (.getfield 7, 3) := by decide +kernel
theorem dX4_isSame_198 : decode cX4_isSame 198 = .ok (.iload_n 2, 1) := by decide +kernel
theorem dX4_isSame_199 : decode cX4_isSame 199 = .ok (.iaload, 1) := by decide +kernel
theorem dX4_isSame_200 : decode cX4_isSame 200 = .ok (.ifCond .lt 7, 3) := by decide +kernel
theorem dX4_isSame_203 : decode cX4_isSame 203 = .ok (.iconst 1, 1) := by decide +kernel
theorem dX4_isSame_204 : decode cX4_isSame 204 = .ok (.goto 4, 3) := by decide +kernel
theorem dX4_isSame_207 : decode cX4_isSame 207 = .ok (.iconst 0, 1) := by decide +kernel
theorem dX4_isSame_208 : decode cX4_isSame 208 = .ok (.if_icmp .ne 55, 3) := by decide +kernel
theorem dX4_isSame_211 : decode cX4_isSame 211 = .ok (.aload_n 0, 1) := by decide +kernel
theorem dX4_isSame_212 : decode cX4_isSame 212 = .ok (.getfield 7, 3) := by decide +kernel
theorem dX4_isSame_215 : decode cX4_isSame 215 = .ok (.iload_n 2, 1) := by decide +kernel
theorem dX4_isSame_216 : decode cX4_isSame 216 = .ok (.iaload, 1) := by decide +kernel
theorem dX4_isSame_217 : decode cX4_isSame 217 = .ok (.ifCond .lt 17, 3) := by decide +kernel
theorem dX4_isSame_220 : decode cX4_isSame 220 = .ok (.aload_n 1, 1) := by decide +kernel
theorem dX4_isSame_221 : decode cX4_isSame 221 = .ok (.iload_n 2, 1) := by decide +kernel
theorem dX4_isSame_222 : decode cX4_isSame 222 = .ok (.invokevirtual 76, 3) := by decide +kernel
theorem dX4_isSame_225 : decode cX4_isSame 225 = .ok (.aload_n 0, 1) := by decide +kernel
theorem dX4_isSame_226 : decode cX4_isSame 226 = .ok (.getfield 7, 3) := by decide +kernel
theorem dX4_isSame_229 : decode cX4_isSame 229 = .ok (.iload_n 2, 1) := by decide +kernel
theorem dX4_isSame_230 : decode cX4_isSame 230 = .ok (.iaload, 1) := by decide +kernel
theorem dX4_isSame_231 : decode cX4_isSame 231 = .ok (.if_icmp .ne 32, 3) := by decide +kernel
theorem dX4_isSame_234 : decode cX4_isSame 234 = .ok (.aload_n 1, 1) := by decide +kernel
theorem dX4_isSame_235 : decode cX4_isSame 235 = .ok (.iload_n 2, 1) := by decide +kernel
theorem dX4_isSame_236 : decode cX4_isSame 236 = .ok (.invokevirtual 79, 3) := by decide +kernel
theorem dX4_isSame_239 : decode cX4_isSame 239 = .ok (.iload_n 3, 1) := by decide +kernel
theorem dX4_isSame_240 : decode cX4_isSame 240 = .ok (.if_icmp .ne 23, 3) := by decide +kernel
theorem dX4_isSame_243 : decode cX4_isSame 243 = .ok (.aload_n 1, 1) := by decide +kernel
theorem dX4_isSame_244 : decode cX4_isSame 244 = .ok (.iload_n 2, 1) := by decide +kernel
theorem dX4_isSame_245 : decode cX4_isSame 245 = .ok (.invokevirtual 82, 3) := by decide +kernel
theorem dX4_isSame_248 : decode cX4_isSame 248 = .ok (.iload 4, 2) := by decide +kernel
theorem dX4_isSame_250 : decode cX4_isSame 250 = .ok (.if_icmp .ne 13, 3) := by decide +kernel
theorem dX4_isSame_253 : decode cX4_isSame 253 = .ok (.aload_n 1, 1) := by decide +kernel
theorem dX4_isSame_254 : decode cX4_isSame 254 = .ok (.iload_n 2, 1) := by decide +kernel
theorem dX4_isSame_255 : decode cX4_isSame 255 = .ok (.invokevirtual 85, 3) := by decide +kernel
theorem dX4_isSame_258 : decode cX4_isSame 258 = .ok (.iload 5, 2) := by decide +kernel
theorem dX4_isSame_260 : decode cX4_isSame 260 = .ok (.if_icmp .eq 5, 3) := by decide +kernel
theorem dX4_isSame_263 : decode cX4_isSame 263 = .ok (.iconst 0, 1) := by decide +kernel
theorem dX4_isSame_264 : decode cX4_isSame 264 = .ok (.ireturn, 1) := by decide +kernel
theorem dX4_isSame_265 : decode cX4_isSame 265 = .ok (.iinc 2 1, 3) := by decide +kernel
theorem dX4_isSame_268 : decode cX4_isSame 268 = .ok (.goto (-208), 3) := by decide +kernel
theorem dX4_isSame_271 : decode cX4_isSame 271 = .ok (.iconst 0, 1) := by decide +kernel
theorem dX4_isSame_272 : decode cX4_isSame 272 = .ok (.istore_n 2, 1) := by decide +kernel
theorem dX4_isSame_273 : decode cX4_isSame 273 = .ok (.iconst 0, 1) := by decide +kernel
theorem dX4_isSame_274 : decode cX4_isSame 274 = .ok (.istore_n 3, 1) := by decide +kernel
theorem dX4_isSame_275 : decode cX4_isSame 275 = .ok (.iload_n 3, 1) := by decide +kernel
theorem dX4_isSame_276 : decode cX4_isSame 276 = .ok (.aload_n 0, 1) := by decide +kernel
theorem dX4_isSame_277 : decode cX4_isSame 277 = .ok (.getfield 40, 3) := by decide +kernel
theorem dX4_isSame_280 : decode cX4_isSame 280 = .ok (.if_icmp .ge 137, 3) := by decide +kernel
theorem dX4_isSame_283 : decode cX4_isSame 283 = .ok (.iconst 0, 1) := by decide +kernel
theorem dX4_isSame_284 : decode cX4_isSame 284 = .ok (.istore 4, 2) := by decide +kernel
theorem dX4_isSame_286 : decode cX4_isSame 286 = .ok (.iconst 0, 1) := by decide +kernel
theorem dX4_isSame_287 : decode cX4_isSame 287 = .ok (.istore 5, 2) := by decide +kernel
theorem dX4_isSame_289 : decode cX4_isSame 289 = .ok (.iload 5, 2) := by decide +kernel
theorem dX4_isSame_291 : decode cX4_isSame 291 = .ok (.aload_n 0, 1) := by decide +kernel
theorem dX4_isSame_292 : decode cX4_isSame 292 = .ok (.getfield 29, 3) := by decide +kernel
theorem dX4_isSame_295 : decode cX4_isSame 295 = .ok (.if_icmp .ge 67, 3) := by decide +kernel
theorem dX4_isSame_298 : decode cX4_isSame 298 = .ok (.iload 4, 2) := by decide +kernel
theorem dX4_isSame_300 : decode cX4_isSame 300 = .ok (.aload_n 0, 1) := by decide +kernel
theorem dX4_isSame_301 : decode cX4_isSame 301 = .ok (.iload_n 3, 1) := by decide +kernel
theorem dX4_isSame_302 : decode cX4_isSame 302 = .ok (.iload 5, 2) := by decide +kernel
theorem dX4_isSame_304 : decode cX4_isSame 304 = .ok (.invokevirtual 43, 3) := by decide +kernel
theorem dX4_isSame_307 : decode cX4_isSame 307 = .ok (.ifCond .eq 7, 3) := by decide +kernel
theorem dX4_isSame_310 : decode cX4_isSame 310 = .ok (.iconst 1, 1) := by decide +kernel
theorem dX4_isSame_311 : decode cX4_isSame 311 = .ok (.goto 4, 3) := by decide +kernel
theorem dX4_isSame_314 : decode cX4_isSame 314 = .ok (.iconst 0, 1) := by decide +kernel
theorem dX4_isSame_315 : decode cX4_isSame 315 = .ok (.iadd, 1) := by decide +kernel
theorem dX4_isSame_316 : decode cX4_isSame 316 = .ok (.istore 4, 2) := by decide +kernel
theorem dX4_isSame_318 : decode cX4_isSame 318 = .ok (.aload_n 1, 1) := by decide +kernel
theorem dX4_isSame_319 : decode cX4_isSame 319 = .ok (.iload_n 3, 1) := by decide +kernel
theorem dX4_isSame_320 : decode cX4_isSame 320 = .ok (.iload 5, 2) := by decide +kernel
theorem dX4_isSame_322 : decode cX4_isSame 322 = .ok (.invokevirtual 88, 3) := by decide +kernel
theorem dX4_isSame_325 : decode cX4_isSame 325 = .ok (.aload_n 0, 1) := by decide +kernel
theorem dX4_isSame_326 : decode cX4_isSame 326 = .ok (.getfield 15, 3) := by decide +kernel
theorem dX4_isSame_329 : decode cX4_isSame 329 = .ok (.iload_n 3, 1) := by decide +kernel
theorem dX4_isSame_330 : decode cX4_isSame 330 = .ok (.aaload, 1) := by decide +kernel
theorem dX4_isSame_331 : decode cX4_isSame 331 = .ok (.iload 5, 2) := by decide +kernel
theorem dX4_isSame_333 : decode cX4_isSame 333 = .ok (.baload, 1) := by decide +kernel
theorem dX4_isSame_334 : decode cX4_isSame 334 = .ok (.if_icmp .ne 20, 3) := by decide +kernel
theorem dX4_isSame_337 : decode cX4_isSame 337 = .ok (.aload_n 1, 1) := by decide +kernel
theorem dX4_isSame_338 : decode cX4_isSame 338 = .ok (.iload_n 3, 1) := by decide +kernel
theorem dX4_isSame_339 : decode cX4_isSame 339 = .ok (.iload 5, 2) := by decide +kernel
theorem dX4_isSame_341 : decode cX4_isSame 341 = .ok (.invokevirtual 91, 3) := by decide +kernel
theorem dX4_isSame_344 : decode cX4_isSame 344 = .ok (.aload_n 0, 1) := by decide +kernel
theorem dX4_isSame_345 : decode cX4_isSame 345 = .ok (.iload_n 3, 1) := by decide +kernel
theorem dX4_isSame_346 : decode cX4_isSame 346 = .ok (.iload 5, 2) := by decide +kernel
theorem dX4_isSame_348 : decode cX4_isSame 348 = .ok (.invokevirtual 43, 3) := by decide +kernel
theorem dX4_isSame_351 : decode cX4_isSame 351 = .ok (.if_icmp .eq 5, 3) := by decide +kernel
theorem dX4_isSame_354 : decode cX4_isSame 354 = .ok (.iconst 0, 1) := by decide +kernel
theorem dX4_isSame_355 : decode cX4_isSame 355 = .ok (.ireturn, 1) := by decide +kernel
theorem dX4_isSame_356 : decode cX4_isSame 356 = .ok (.iinc 5 1, 3) := by decide +kernel
theorem dX4_isSame_359 : decode cX4_isSame 359 = .ok (.goto (-70), 3) := by decide +kernel
theorem dX4_isSame_362 : decode cX4_isSame 362 = .ok (.aload_n 1, 1) := by decide +kernel
theorem dX4_isSame_363 : decode cX4_isSame 363 = .ok (.iload_n 3, 1) := by decide +kernel
theorem dX4_isSame_364 : decode cX4_isSame 364 = .ok (.invokevirtual 92, 3) := by decide +kernel
theorem dX4_isSame_367 : decode cX4_isSame 367 = .ok (.iload 4, 2) := by decide +kernel
theorem dX4_isSame_369 : decode cX4_isSame 369 = .ok (.if_icmp .ne 31, 3) := by decide +kernel
theorem dX4_isSame_372 : decode cX4_isSame 372 = .ok (.aload_n 1, 1) := by decide +kernel
theorem dX4_isSame_373 : decode cX4_isSame 373 = .ok (.iload_n 3, 1) := by decide +kernel
theorem dX4_isSame_374 : decode cX4_isSame 374 = .ok (.invokevirtual 95, 3) := by decide +kernel
theorem dX4_isSame_377 : decode cX4_isSame 377 = .ok (.aload_n 0, 1) := by decide +kernel
theorem dX4_isSame_378 : decode cX4_isSame 378 = .ok (.getfield 18, 3) := by decide +kernel
theorem dX4_isSame_381 : decode cX4_isSame 381 = .ok (.iload_n 3, 1) := by decide +kernel
theorem dX4_isSame_382 : decode cX4_isSame 382 = .ok (.iaload, 1) := by decide +kernel
theorem dX4_isSame_383 : decode cX4_isSame 383 = .ok (.if_icmp .ne 17, 3) := by decide +kernel
theorem dX4_isSame_386 : decode cX4_isSame 386 = .ok (.aload_n 1, 1) := by decide +kernel
theorem dX4_isSame_387 : decode cX4_isSame 387 = .ok (.iload_n 3, 1) := by decide +kernel
theorem dX4_isSame_388 : decode cX4_isSame 388 = .ok (.invokevirtual 98, 3) := by decide +kernel
theorem dX4_isSame_391 : decode cX4_isSame 391 = .ok (.aload_n 0, 1) := by decide +kernel
theorem dX4_isSame_392 : decode cX4_isSame 392 = .ok (.getfield 21, 3) := by decide +kernel
theorem dX4_isSame_395 : decode cX4_isSame 395 = .ok (.iload_n 3, 1) := by decide +kernel
theorem dX4_isSame_396 : decode cX4_isSame 396 = .ok (.iaload, 1) := by decide +kernel
theorem dX4_isSame_397 : decode cX4_isSame 397 = .ok (.if_icmp .eq 5, 3) := by decide +kernel
theorem dX4_isSame_400 : decode cX4_isSame 400 = .ok (.iconst 0, 1) := by decide +kernel
theorem dX4_isSame_401 : decode cX4_isSame 401 = .ok (.ireturn, 1) := by decide +kernel
theorem dX4_isSame_402 : decode cX4_isSame 402 = .ok (.iload_n 2, 1) := by decide +kernel
theorem dX4_isSame_403 : decode cX4_isSame 403 = .ok (.aload_n 0, 1) := by decide +kernel
theorem dX4_isSame_404 : decode cX4_isSame 404 = .ok (.getfield 18, 3) := by decide +kernel
theorem dX4_isSame_407 : decode cX4_isSame 407 = .ok (.iload_n 3, 1) := by decide +kernel
theorem dX4_isSame_408 : decode cX4_isSame 408 = .ok (.iaload, 1) := by decide +kernel
theorem dX4_isSame_409 : decode cX4_isSame 409 = .ok (.iadd, 1) := by decide +kernel
theorem dX4_isSame_410 : decode cX4_isSame 410 = .ok (.istore_n 2, 1) := by decide +kernel
theorem dX4_isSame_411 : decode cX4_isSame 411 = .ok (.iinc 3 1, 3) := by decide +kernel
theorem dX4_isSame_414 : decode cX4_isSame 414 = .ok (.goto (-139), 3) := by decide +kernel
theorem dX4_isSame_417 : decode cX4_isSame 417 = .ok (.aload_n 0, 1) := by decide +kernel
theorem dX4_isSame_418 : decode cX4_isSame 418 = .ok (.invokevirtual 101, 3) := by decide +kernel
theorem dX4_isSame_421 : decode cX4_isSame 421 = .ok (.astore_n 3, 1) := by decide +kernel
theorem dX4_isSame_422 : decode cX4_isSame 422 = .ok (.iconst 0, 1) := by decide +kernel
theorem dX4_isSame_423 : decode cX4_isSame 423 = .ok (.istore 4, 2) := by decide +kernel
theorem dX4_isSame_425 : decode cX4_isSame 425 = .ok (.iload 4, 2) := by decide +kernel
theorem dX4_isSame_427 : decode cX4_isSame 427 = .ok (.aload_n 0, 1) := by decide +kernel
theorem dX4_isSame_428 : decode cX4_isSame 428 = .ok (.getfield 37, 3) := by decide +kernel
theorem dX4_isSame_431 : decode cX4_isSame 431 = .ok (.if_icmp .ge 83, 3) := by decide +kernel
theorem dX4_isSame_434 : decode cX4_isSame 434 = .ok (.iconst 0, 1) := by decide +kernel
theorem dX4_isSame_435 : decode cX4_isSame 435 = .ok (.istore 5, 2) := by decide +kernel
theorem dX4_isSame_437 : decode cX4_isSame 437 = .ok (.iconst 0, 1) := by decide +kernel
theorem dX4_isSame_438 : decode cX4_isSame 438 = .ok (.istore 6, 2) := by decide +kernel
theorem dX4_isSame_440 : decode cX4_isSame 440 = .ok (.iload 6, 2) := by decide +kernel
theorem dX4_isSame_442 : decode cX4_isSame 442 = .ok (.aload_n 0, 1) := by decide +kernel
theorem dX4_isSame_443 : decode cX4_isSame 443 = .ok (.getfield 40, 3) := by decide +kernel
theorem dX4_isSame_446 : decode cX4_isSame 446 = .ok (.if_icmp .ge 49, 3) := by decide +kernel
theorem dX4_isSame_449 : decode cX4_isSame 449 = .ok (.iload 5, 2) := by decide +kernel
theorem dX4_isSame_451 : decode cX4_isSame 451 = .ok (.aload_n 3, 1) := by decide +kernel
theorem dX4_isSame_452 : decode cX4_isSame 452 = .ok (.iload 4, 2) := by decide +kernel
theorem dX4_isSame_454 : decode cX4_isSame 454 = .ok (.aaload, 1) := by decide +kernel
theorem dX4_isSame_455 : decode cX4_isSame 455 = .ok (.iload 6, 2) := by decide +kernel
theorem dX4_isSame_457 : decode cX4_isSame 457 = .ok (.baload, 1) := by decide +kernel
theorem dX4_isSame_458 : decode cX4_isSame 458 = .ok (.ifCond .eq 7, 3) := by decide +kernel
theorem dX4_isSame_461 : decode cX4_isSame 461 = .ok (.iconst 1, 1) := by decide +kernel
theorem dX4_isSame_462 : decode cX4_isSame 462 = .ok (.goto 4, 3) := by decide +kernel
theorem dX4_isSame_465 : decode cX4_isSame 465 = .ok (.iconst 0, 1) := by decide +kernel
theorem dX4_isSame_466 : decode cX4_isSame 466 = .ok (.iadd, 1) := by decide +kernel
theorem dX4_isSame_467 : decode cX4_isSame 467 = .ok (.istore 5, 2) := by decide +kernel
theorem dX4_isSame_469 : decode cX4_isSame 469 = .ok (.aload_n 1, 1) := by decide +kernel
theorem dX4_isSame_470 : decode cX4_isSame 470 = .ok (.iload 4, 2) := by decide +kernel
theorem dX4_isSame_472 : decode cX4_isSame 472 = .ok (.iload 6, 2) := by decide +kernel
theorem dX4_isSame_474 : decode cX4_isSame 474 = .ok (.invokevirtual 105, 3) := by decide +kernel
theorem dX4_isSame_477 : decode cX4_isSame 477 = .ok (.aload_n 3, 1) := by decide +kernel
theorem dX4_isSame_478 : decode cX4_isSame 478 = .ok (.iload 4, 2) := by decide +kernel
theorem dX4_isSame_480 : decode cX4_isSame 480 = .ok (.aaload, 1) := by decide +kernel
theorem dX4_isSame_481 : decode cX4_isSame 481 = .ok (.iload 6, 2) := by decide +kernel
theorem dX4_isSame_483 : decode cX4_isSame 483 = .ok (.baload, 1) := by decide +kernel
theorem dX4_isSame_484 : decode cX4_isSame 484 = .ok (.if_icmp .eq 5, 3) := by decide +kernel
theorem dX4_isSame_487 : decode cX4_isSame 487 = .ok (.iconst 0, 1) := by decide +kernel
theorem dX4_isSame_488 : decode cX4_isSame 488 = .ok (.ireturn, 1) := by decide +kernel
theorem dX4_isSame_489 : decode cX4_isSame 489 = .ok (.iinc 6 1, 3) := by decide +kernel
theorem dX4_isSame_492 : decode cX4_isSame 492 = .ok (.goto (-52), 3) := by decide +kernel
theorem dX4_isSame_495 : decode cX4_isSame 495 = .ok (.aload_n 1, 1) := by decide +kernel
theorem dX4_isSame_496 : decode cX4_isSame 496 = .ok (.iload 4, 2) := by decide +kernel
theorem dX4_isSame_498 : decode cX4_isSame 498 = .ok (.invokevirtual 107, 3) := by decide +kernel
theorem dX4_isSame_501 : decode cX4_isSame 501 = .ok (.iload 5, 2) := by decide +kernel
theorem dX4_isSame_503 : decode cX4_isSame 503 = .ok (.if_icmp .eq 5, 3) := by decide +kernel
theorem dX4_isSame_506 : decode cX4_isSame 506 = .ok (.iconst 0, 1) := by decide +kernel
theorem dX4_isSame_507 : decode cX4_isSame 507 = .ok (.ireturn, 1) := by decide +kernel
theorem dX4_isSame_508 : decode cX4_isSame 508 = .ok (.iinc 4 1, 3) := by decide +kernel
theorem dX4_isSame_511 : decode cX4_isSame 511 = .ok (.goto (-86), 3) := by decide +kernel
theorem dX4_isSame_514 : decode cX4_isSame 514 = .ok (.aload_n 1, 1) := by decide +kernel
theorem dX4_isSame_515 : decode cX4_isSame 515 = .ok (.invokevirtual 110, 3) := by decide +kernel
theorem dX4_isSame_518 : decode cX4_isSame 518 = .ok (.aload_n 0, 1) := by decide +kernel
theorem dX4_isSame_519 : decode cX4_isSame 519 = .ok (.getfield 40, 3) := by decide +kernel
theorem dX4_isSame_522 : decode cX4_isSame 522 = .ok (.ifCond .ne 7, 3) := by decide +kernel
theorem dX4_isSame_525 : decode cX4_isSame 525 = .ok (.dconst 0, 1) := by decide +kernel
theorem dX4_isSame_526 : decode cX4_isSame 526 = .ok (.goto 11, 3) := by decide +kernel
theorem dX4_isSame_529 : decode cX4_isSame 529 = .ok (.iload_n 2, 1) := by decide +kernel
theorem dX4_isSame_530 : decode cX4_isSame 530 = .ok (.i2d, 1) := by decide +kernel
theorem dX4_isSame_531 : decode cX4_isSame 531 = .ok (.aload_n 0, 1) := by decide +kernel
theorem dX4_isSame_532 : decode cX4_isSame 532 = .ok (.getfield 40, 3) := by decide +kernel
theorem dX4_isSame_535 : decode cX4_isSame 535 = .ok (.i2d, 1) := by decide +kernel
theorem dX4_isSame_536 : decode cX4_isSame 536 = .ok (.ddiv, 1) := by decide +kernel
theorem dX4_isSame_537 : decode cX4_isSame 537 = .ok (.dcmp .l, 1) := by decide +kernel
theorem dX4_isSame_538 : decode cX4_isSame 538 = .ok (.ifCond .ne 7, 3) := by decide +kernel
theorem dX4_isSame_541 : decode cX4_isSame 541 = .ok (.iconst 1, 1) := by decide +kernel
theorem dX4_isSame_542 : decode cX4_isSame 542 = .ok (.goto 4, 3) := by decide +kernel
theorem dX4_isSame_545 : decode cX4_isSame 545 = .ok (.iconst 0, 1) := by decide +kernel
theorem dX4_isSame_546 : decode cX4_isSame 546 = .ok (.ireturn, 1) := by decide +kernel
theorem dJ6_bitCount_0f7a4_0 : decode cJ6_bitCount_0f7a4 0 = .ok (.iload_n 0, 1) := by decide +kernel
theorem dJ6_bitCount_0f7a4_1 : decode cJ6_bitCount_0f7a4 1 = .ok (.iload_n 0, 1) := by decide +kernel
theorem dJ6_bitCount_0f7a4_2 : decode cJ6_bitCount_0f7a4 2 = .ok (.iconst 1, 1) := by decide +kernel
theorem dJ6_bitCount_0f7a4_3 : decode cJ6_bitCount_0f7a4 3 = .ok (.iushr, 1) := by decide +kernel
theorem dJ6_bitCount_0f7a4_4 : decode cJ6_bitCount_0f7a4 4 = .ok (.ldc_w 265, 3) := by decide +kernel
theorem dJ6_bitCount_0f7a4_7 : decode cJ6_bitCount_0f7a4 7 = .ok (.iand, 1) := by decide +kernel
theorem dJ6_bitCount_0f7a4_8 : decode cJ6_bitCount_0f7a4 8 = .ok (.isub, 1) := by decide +kernel
theorem dJ6_bitCount_0f7a4_9 : decode cJ6_bitCount_0f7a4 9 = .ok (.istore_n 0, 1) := by decide +kernel
theorem dJ6_bitCount_0f7a4_10 : decode cJ6_bitCount_0f7a4 10 = .ok (.iload_n 0, 1) := by decide +kernel
theorem dJ6_bitCount_0f7a4_11 : decode cJ6_bitCount_0f7a4 11 = .ok (.ldc_w 266, 3) := by decide +kernel
theorem dJ6_bitCount_0f7a4_14 : decode cJ6_bitCount_0f7a4 14 = .ok (.iand, 1) := by decide +kernel
theorem dJ6_bitCount_0f7a4_15 : decode cJ6_bitCount_0f7a4 15 = .ok (.iload_n 0, 1) := by decide +kernel
theorem dJ6_bitCount_0f7a4_16 : decode cJ6_bitCount_0f7a4 16 = .ok (.iconst 2, 1) := by decide +kernel
theorem dJ6_bitCount_0f7a4_17 : decode cJ6_bitCount_0f7a4 17 = .ok (.iushr, 1) := by decide +kernel
theorem dJ6_bitCount_0f7a4_18 : decode cJ6_bitCount_0f7a4 18 = .ok (.ldc_w 266, 3) := by decide +kernel
theorem dJ6_bitCount_0f7a4_21 : decode cJ6_bitCount_0f7a4 21 = .ok (.iand, 1) := by decide +kernel
theorem dJ6_bitCount_0f7a4_22 : decode cJ6_bitCount_0f7a4 22 = .ok (.iadd, 1) := by decide +kernel
theorem dJ6_bitCount_0f7a4_23 : decode cJ6_bitCount_0f7a4 23 = .ok (.istore_n 0, 1) := by decide +kernel
theorem dJ6_bitCount_0f7a4_24 : decode cJ6_bitCount_0f7a4 24 = .ok (.iload_n 0, 1) := by decide +kernel
theorem dJ6_bitCount_0f7a4_25 : decode cJ6_bitCount_0f7a4 25 = .ok (.iload_n 0, 1) := by decide +kernel
theorem dJ6_bitCount_0f7a4_26 : decode cJ6_bitCount_0f7a4 26 = .ok (.iconst 4, 1) := by decide +kernel
theorem dJ6_bitCount_0f7a4_27 : decode cJ6_bitCount_0f7a4 27 = .ok (.iushr, 1) := by decide +kernel
theorem dJ6_bitCount_0f7a4_28 : decode cJ6_bitCount_0f7a4 28 = .ok (.iadd, 1) := by decide +kernel
theorem dJ6_bitCount_0f7a4_29 : decode cJ6_bitCount_0f7a4 29 = .ok (.ldc_w 267, 3) := by decide +kernel
theorem dJ6_bitCount_0f7a4_32 : decode cJ6_bitCount_0f7a4 32 = .ok (.iand, 1) := by decide +kernel
theorem dJ6_bitCount_0f7a4_33 : decode cJ6_bitCount_0f7a4 33 = .ok (.istore_n 0, 1) := by decide +kernel
theorem dJ6_bitCount_0f7a4_34 : decode cJ6_bitCount_0f7a4 34 = .ok (.iload_n 0, 1) := by decide +kernel
theorem dJ6_bitCount_0f7a4_35 : decode cJ6_bitCount_0f7a4 35 = .ok (.iload_n 0, 1) := by decide +kernel
theorem dJ6_bitCount_0f7a4_36 : decode cJ6_bitCount_0f7a4 36 = .ok (.bipush 8, 2) := by decide +kernel
theorem dJ6_bitCount_0f7a4_38 : decode cJ6_bitCount_0f7a4 38 = .ok (.iushr, 1) := by decide +kernel
theorem dJ6_bitCount_0f7a4_39 : decode cJ6_bitCount_0f7a4 39 = .ok (.iadd, 1) := by decide +kernel
theorem dJ6_bitCount_0f7a4_40 : decode cJ6_bitCount_0f7a4 40 = .ok (.istore_n 0, 1) := by decide +kernel
theorem dJ6_bitCount_0f7a4_41 : decode cJ6_bitCount_0f7a4 41 = .ok (.iload_n 0, 1) := by decide +kernel
theorem dJ6_bitCount_0f7a4_42 : decode cJ6_bitCount_0f7a4 42 = .ok (.iload_n 0, 1) := by decide +kernel
theorem dJ6_bitCount_0f7a4_43 : decode cJ6_bitCount_0f7a4 43 = .ok (.bipush 16, 2) := by decide +kernel
theorem dJ6_bitCount_0f7a4_45 : decode cJ6_bitCount_0f7a4 45 = .ok (.iushr, 1) := by decide +kernel
theorem dJ6_bitCount_0f7a4_46 : decode cJ6_bitCount_0f7a4 46 = .ok (.iadd, 1) := by decide +kernel
theorem dJ6_bitCount_0f7a4_47 : decode cJ6_bitCount_0f7a4 47 = .ok (.istore_n 0, 1) := by decide +kernel
theorem dJ6_bitCount_0f7a4_48 : decode cJ6_bitCount_0f7a4 48 = .ok (.iload_n 0, 1) := by decide +kernel
theorem dJ6_bitCount_0f7a4_49 : decode cJ6_bitCount_0f7a4 49 = .ok (.bipush 63, 2) := by decide +kernel
theorem dJ6_bitCount_0f7a4_51 : decode cJ6_bitCount_0f7a4 51 = .ok (.iand, 1) := by decide +kernel
theorem dJ6_bitCount_0f7a4_52 : decode cJ6_bitCount_0f7a4 52 = .ok (.ireturn, 1) := by decide +kernel
theorem dJ9_max_7cf53_0 : decode cJ9_max_7cf53 0 = .ok (.iload_n 0, 1) := by decide +kernel
theorem dJ9_max_7cf53_1 : decode cJ9_max_7cf53 1 = .ok (.iload_n 1, 1) := by decide +kernel
theorem dJ9_max_7cf53_2 : decode cJ9_max_7cf53 2 = .ok (.if_icmp .lt 7, 3) := by decide +kernel
theorem dJ9_max_7cf53_5 : decode cJ9_max_7cf53 5 = .ok (.iload_n 0, 1) := by decide +kernel
theorem dJ9_max_7cf53_6 : decode cJ9_max_7cf53 6 = .ok (.goto 4, 3) := by decide +kernel
theorem dJ9_max_7cf53_9 : decode cJ9_max_7cf53 9 = .ok (.iload_n 1, 1) := by decide +kernel
theorem dJ9_max_7cf53_10 : decode cJ9_max_7cf53 10 = .ok (.ireturn, 1) := by decide +kernel
theorem dL_below_0 : decode cL_below 0 = .ok (.iload_n 0, 1) := by decide +kernel
theorem dL_below_1 : decode cL_below 1 = .ok (.ldc 7, 2) := by decide +kernel
theorem dL_below_3 : decode cL_below 3 = .ok (.iand, 1) := by decide +kernel
theorem dL_below_4 : decode cL_below 4 = .ok (.iload_n 1, 1) := by decide +kernel
theorem dL_below_5 : decode cL_below 5 = .ok (.irem, 1) := by decide +kernel
theorem dL_below_6 : decode cL_below 6 = .ok (.ireturn, 1) := by decide +kernel
theorem dL_cell_0 : decode cL_cell 0 = .ok (.iload_n 1, 1) := by decide +kernel
theorem dL_cell_1 : decode cL_cell 1 = .ok (.aload_n 0, 1) := by decide +kernel
theorem dL_cell_2 : decode cL_cell 2 = .ok (.arraylength, 1) := by decide +kernel
theorem dL_cell_3 : decode cL_cell 3 = .ok (.if_icmp .ge 9, 3) := by decide +kernel
theorem dL_cell_6 : decode cL_cell 6 = .ok (.aload_n 0, 1) := by decide +kernel
theorem dL_cell_7 : decode cL_cell 7 = .ok (.iload_n 1, 1) := by decide +kernel
theorem dL_cell_8 : decode cL_cell 8 = .ok (.iaload, 1) := by decide +kernel
theorem dL_cell_9 : decode cL_cell 9 = .ok (.goto 9, 3) := by decide +kernel
theorem dL_cell_12 : decode cL_cell 12 = .ok (.ldc 8, 2) := by decide +kernel
theorem dL_cell_14 : decode cL_cell 14 = .ok (.iload_n 1, 1) := by decide +kernel
theorem dL_cell_15 : decode cL_cell 15 = .ok (.iconst 3, 1) := by decide +kernel
theorem dL_cell_16 : decode cL_cell 16 = .ok (.iadd, 1) := by decide +kernel
theorem dL_cell_17 : decode cL_cell 17 = .ok (.imul, 1) := by decide +kernel
theorem dL_cell_18 : decode cL_cell 18 = .ok (.ireturn, 1) := by decide +kernel
theorem dL_act_0 : decode cL_act 0 = .ok (.iload_n 2, 1) := by decide +kernel
theorem dL_act_1 : decode cL_act 1 = .ok (.bipush 9, 2) := by decide +kernel
theorem dL_act_3 : decode cL_act 3 = .ok (.ishr, 1) := by decide +kernel
theorem dL_act_4 : decode cL_act 4 = .ok (.bipush 24, 2) := by decide +kernel
theorem dL_act_6 : decode cL_act 6 = .ok (.invokestatic 9, 3) := by decide +kernel
theorem dL_act_9 : decode cL_act 9 = .ok (.istore_n 3, 1) := by decide +kernel
theorem dL_act_10 : decode cL_act 10 = .ok (.aload_n 1, 1) := by decide +kernel
theorem dL_act_11 : decode cL_act 11 = .ok (.getfield 15, 3) := by decide +kernel
theorem dL_act_14 : decode cL_act 14 = .ok (.ifCond .eq 8, 3) := by decide +kernel
theorem dL_act_17 : decode cL_act 17 = .ok (.iload_n 3, 1) := by decide +kernel
theorem dL_act_18 : decode cL_act 18 = .ok (.iconst 3, 1) := by decide +kernel
theorem dL_act_19 : decode cL_act 19 = .ok (.if_icmp .ge 53, 3) := by decide +kernel
theorem dL_act_22 : decode cL_act 22 = .ok (.aload_n 1, 1) := by decide +kernel
theorem dL_act_23 : decode cL_act 23 = .ok (.getfield 15, 3) := by decide +kernel
theorem dL_act_26 : decode cL_act 26 = .ok (.bipush 16, 2) := by decide +kernel
theorem dL_act_28 : decode cL_act 28 = .ok (.if_icmp .ne 5, 3) := by decide +kernel
theorem dL_act_31 : decode cL_act 31 = .ok (.iconst 1, 1) := by decide +kernel
theorem dL_act_32 : decode cL_act 32 = .ok (.ireturn, 1) := by decide +kernel
