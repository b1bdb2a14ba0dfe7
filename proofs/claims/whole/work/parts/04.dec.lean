theorem dX0_init_0 : decode cX0_init 0 = .ok (.aload_n 0, 1) := by decide +kernel
theorem dX0_init_1 : decode cX0_init 1 = .ok (.invokespecial 3, 3) := by decide +kernel
theorem dX0_init_4 : decode cX0_init 4 = .ok (.aload_n 0, 1) := by decide +kernel
theorem dX0_init_5 : decode cX0_init 5 = .ok (.bipush 16, 2) := by decide +kernel
theorem dX0_init_7 : decode cX0_init 7 = .ok (.newarray .int, 2) := by decide +kernel
theorem dX0_init_9 : decode cX0_init 9 = .ok (.putfield 9, 3) := by decide +kernel
theorem dX0_init_12 : decode cX0_init 12 = .ok (.aload_n 0, 1) := by decide +kernel
theorem dX0_init_13 : decode cX0_init 13 = .ok (.bipush 17, 2) := by decide +kernel
theorem dX0_init_15 : decode cX0_init 15 = .ok (.newarray .int, 2) := by decide +kernel
theorem dX0_init_17 : decode cX0_init 17 = .ok (.putfield 15, 3) := by decide +kernel
theorem dX0_init_20 : decode cX0_init 20 = .ok (.return_, 1) := by decide +kernel
theorem dX0_smallestOf_0 : decode cX0_smallestOf 0 = .ok (.bipush 15, 2) := by decide +kernel
theorem dX0_smallestOf_2 : decode cX0_smallestOf 2 = .ok (.istore_n 2, 1) := by decide +kernel
theorem dX0_smallestOf_3 : decode cX0_smallestOf 3 = .ok (.iload_n 2, 1) := by decide +kernel
theorem dX0_smallestOf_4 : decode cX0_smallestOf 4 = .ok (.ifCond .lt 30, 3) := by decide +kernel
theorem dX0_smallestOf_7 : decode cX0_smallestOf 7 = .ok (.aload_n 0, 1) := by decide +kernel
theorem dX0_smallestOf_8 : decode cX0_smallestOf 8 = .ok (.getfield 15, 3) := by decide +kernel
theorem dX0_smallestOf_11 : decode cX0_smallestOf 11 = .ok (.iload_n 2, 1) := by decide +kernel
theorem dX0_smallestOf_12 : decode cX0_smallestOf 12 = .ok (.aload_n 0, 1) := by decide +kernel
theorem dX0_smallestOf_13 : decode cX0_smallestOf 13 = .ok (.getfield 15, 3) := by decide +kernel
theorem dX0_smallestOf_16 : decode cX0_smallestOf 16 = .ok (.iload_n 2, 1) := by decide +kernel
theorem dX0_smallestOf_17 : decode cX0_smallestOf 17 = .ok (.iconst 1, 1) := by decide +kernel
theorem dX0_smallestOf_18 : decode cX0_smallestOf 18 = .ok (.iadd, 1) := by decide +kernel
theorem dX0_smallestOf_19 : decode cX0_smallestOf 19 = .ok (.iaload, 1) := by decide +kernel
theorem dX0_smallestOf_20 : decode cX0_smallestOf 20 = .ok (.aload_n 0, 1) := by decide +kernel
theorem dX0_smallestOf_21 : decode cX0_smallestOf 21 = .ok (.getfield 9, 3) := by decide +kernel
theorem dX0_smallestOf_24 : decode cX0_smallestOf 24 = .ok (.iload_n 2, 1) := by decide +kernel
theorem dX0_smallestOf_25 : decode cX0_smallestOf 25 = .ok (.iaload, 1) := by decide +kernel
theorem dX0_smallestOf_26 : decode cX0_smallestOf 26 = .ok (.ior, 1) := by decide +kernel
theorem dX0_smallestOf_27 : decode cX0_smallestOf 27 = .ok (.iastore, 1) := by decide +kernel
theorem dX0_smallestOf_28 : decode cX0_smallestOf 28 = .ok (.iinc 2 (-1), 3) := by decide +kernel
theorem dX0_smallestOf_31 : decode cX0_smallestOf 31 = .ok (.goto (-28), 3) := by decide +kernel
theorem dX0_smallestOf_34 : decode cX0_smallestOf 34 = .ok (.iconst 0, 1) := by decide +kernel
theorem dX0_smallestOf_35 : decode cX0_smallestOf 35 = .ok (.istore_n 2, 1) := by decide +kernel
theorem dX0_smallestOf_36 : decode cX0_smallestOf 36 = .ok (.iload_n 2, 1) := by decide +kernel
theorem dX0_smallestOf_37 : decode cX0_smallestOf 37 = .ok (.bipush 16, 2) := by decide +kernel
theorem dX0_smallestOf_39 : decode cX0_smallestOf 39 = .ok (.if_icmp .gt 31, 3) := by decide +kernel
theorem dX0_smallestOf_42 : decode cX0_smallestOf 42 = .ok (.aload_n 0, 1) := by decide +kernel
theorem dX0_smallestOf_43 : decode cX0_smallestOf 43 = .ok (.getfield 9, 3) := by decide +kernel
theorem dX0_smallestOf_46 : decode cX0_smallestOf 46 = .ok (.aload_n 0, 1) := by decide +kernel
theorem dX0_smallestOf_47 : decode cX0_smallestOf 47 = .ok (.getfield 15, 3) := by decide +kernel
theorem dX0_smallestOf_50 : decode cX0_smallestOf 50 = .ok (.iconst 0, 1) := by decide +kernel
theorem dX0_smallestOf_51 : decode cX0_smallestOf 51 = .ok (.iload_n 2, 1) := by decide +kernel
theorem dX0_smallestOf_52 : decode cX0_smallestOf 52 = .ok (.iload_n 1, 1) := by decide +kernel
theorem dX0_smallestOf_53 : decode cX0_smallestOf 53 = .ok (.invokestatic 18, 3) := by decide +kernel
theorem dX0_smallestOf_56 : decode cX0_smallestOf 56 = .ok (.istore_n 3, 1) := by decide +kernel
theorem dX0_smallestOf_57 : decode cX0_smallestOf 57 = .ok (.iload_n 3, 1) := by decide +kernel
theorem dX0_smallestOf_58 : decode cX0_smallestOf 58 = .ok (.iconst (-1), 1) := by decide +kernel
theorem dX0_smallestOf_59 : decode cX0_smallestOf 59 = .ok (.if_icmp .eq 5, 3) := by decide +kernel
theorem dX0_smallestOf_62 : decode cX0_smallestOf 62 = .ok (.iload_n 3, 1) := by decide +kernel
theorem dX0_smallestOf_63 : decode cX0_smallestOf 63 = .ok (.ireturn, 1) := by decide +kernel
theorem dX0_smallestOf_64 : decode cX0_smallestOf 64 = .ok (.iinc 2 1, 3) := by decide +kernel
theorem dX0_smallestOf_67 : decode cX0_smallestOf 67 = .ok (.goto (-31), 3) := by decide +kernel
theorem dX0_smallestOf_70 : decode cX0_smallestOf 70 = .ok (.iconst 0, 1) := by decide +kernel
theorem dX0_smallestOf_71 : decode cX0_smallestOf 71 = .ok (.ireturn, 1) := by decide +kernel
theorem dX0_coverFrom_0 : decode cX0_coverFrom 0 = .ok (.iload 4, 2) := by decide +kernel
theorem dX0_coverFrom_2 : decode cX0_coverFrom 2 = .ok (.ifCond .ne 5, 3) := by decide +kernel
theorem dX0_coverFrom_5 : decode cX0_coverFrom 5 = .ok (.iconst 0, 1) := by decide +kernel
theorem dX0_coverFrom_6 : decode cX0_coverFrom 6 = .ok (.ireturn, 1) := by decide +kernel
theorem dX0_coverFrom_7 : decode cX0_coverFrom 7 = .ok (.iload_n 3, 1) := by decide +kernel
theorem dX0_coverFrom_8 : decode cX0_coverFrom 8 = .ok (.ifCond .le 24, 3) := by decide +kernel
theorem dX0_coverFrom_11 : decode cX0_coverFrom 11 = .ok (.iload_n 2, 1) := by decide +kernel
theorem dX0_coverFrom_12 : decode cX0_coverFrom 12 = .ok (.ifCond .lt 20, 3) := by decide +kernel
theorem dX0_coverFrom_15 : decode cX0_coverFrom 15 = .ok (.iload_n 2, 1) := by decide +kernel
theorem dX0_coverFrom_16 : decode cX0_coverFrom 16 = .ok (.bipush 16, 2) := by decide +kernel
theorem dX0_coverFrom_18 : decode cX0_coverFrom 18 = .ok (.if_icmp .ge 14, 3) := by decide +kernel
theorem dX0_coverFrom_21 : decode cX0_coverFrom 21 = .ok (.iload 4, 2) := by decide +kernel
theorem dX0_coverFrom_23 : decode cX0_coverFrom 23 = .ok (.aload_n 1, 1) := by decide +kernel
theorem dX0_coverFrom_24 : decode cX0_coverFrom 24 = .ok (.iload_n 2, 1) := by decide +kernel
theorem dX0_coverFrom_25 : decode cX0_coverFrom 25 = .ok (.iaload, 1) := by decide +kernel
theorem dX0_coverFrom_26 : decode cX0_coverFrom 26 = .ok (.iconst (-1), 1) := by decide +kernel
theorem dX0_coverFrom_27 : decode cX0_coverFrom 27 = .ok (.ixor, 1) := by decide +kernel
theorem dX0_coverFrom_28 : decode cX0_coverFrom 28 = .ok (.iand, 1) := by decide +kernel
theorem dX0_coverFrom_29 : decode cX0_coverFrom 29 = .ok (.ifCond .eq 5, 3) := by decide +kernel
theorem dX0_coverFrom_32 : decode cX0_coverFrom 32 = .ok (.iconst (-1), 1) := by decide +kernel
theorem dX0_coverFrom_33 : decode cX0_coverFrom 33 = .ok (.ireturn, 1) := by decide +kernel
theorem dX0_coverFrom_34 : decode cX0_coverFrom 34 = .ok (.iload 4, 2) := by decide +kernel
theorem dX0_coverFrom_36 : decode cX0_coverFrom 36 = .ok (.aload_n 0, 1) := by decide +kernel
theorem dX0_coverFrom_37 : decode cX0_coverFrom 37 = .ok (.iload_n 2, 1) := by decide +kernel
theorem dX0_coverFrom_38 : decode cX0_coverFrom 38 = .ok (.iaload, 1) := by decide +kernel
theorem dX0_coverFrom_39 : decode cX0_coverFrom 39 = .ok (.iand, 1) := by decide +kernel
theorem dX0_coverFrom_40 : decode cX0_coverFrom 40 = .ok (.ifCond .eq 41, 3) := by decide +kernel
theorem dX0_coverFrom_43 : decode cX0_coverFrom 43 = .ok (.iload 4, 2) := by decide +kernel
theorem dX0_coverFrom_45 : decode cX0_coverFrom 45 = .ok (.aload_n 0, 1) := by decide +kernel
theorem dX0_coverFrom_46 : decode cX0_coverFrom 46 = .ok (.iload_n 2, 1) := by decide +kernel
theorem dX0_coverFrom_47 : decode cX0_coverFrom 47 = .ok (.iaload, 1) := by decide +kernel
theorem dX0_coverFrom_48 : decode cX0_coverFrom 48 = .ok (.iconst (-1), 1) := by decide +kernel
theorem dX0_coverFrom_49 : decode cX0_coverFrom 49 = .ok (.ixor, 1) := by decide +kernel
theorem dX0_coverFrom_50 : decode cX0_coverFrom 50 = .ok (.iand, 1) := by decide +kernel
theorem dX0_coverFrom_51 : decode cX0_coverFrom 51 = .ok (.istore 5, 2) := by decide +kernel
theorem dX0_coverFrom_53 : decode cX0_coverFrom 53 = .ok (.aload_n 0, 1) := by decide +kernel
theorem dX0_coverFrom_54 : decode cX0_coverFrom 54 = .ok (.aload_n 1, 1) := by decide +kernel
theorem dX0_coverFrom_55 : decode cX0_coverFrom 55 = .ok (.iload_n 2, 1) := by decide +kernel
theorem dX0_coverFrom_56 : decode cX0_coverFrom 56 = .ok (.iconst 1, 1) := by decide +kernel
theorem dX0_coverFrom_57 : decode cX0_coverFrom 57 = .ok (.iadd, 1) := by decide +kernel
theorem dX0_coverFrom_58 : decode cX0_coverFrom 58 = .ok (.iload_n 3, 1) := by decide +kernel
theorem dX0_coverFrom_59 : decode cX0_coverFrom 59 = .ok (.iconst 1, 1) := by decide +kernel
theorem dX0_coverFrom_60 : decode cX0_coverFrom 60 = .ok (.isub, 1) := by decide +kernel
theorem dX0_coverFrom_61 : decode cX0_coverFrom 61 = .ok (.iload 5, 2) := by decide +kernel
theorem dX0_coverFrom_63 : decode cX0_coverFrom 63 = .ok (.invokestatic 18, 3) := by decide +kernel
theorem dX0_coverFrom_66 : decode cX0_coverFrom 66 = .ok (.istore 6, 2) := by decide +kernel
theorem dX0_coverFrom_68 : decode cX0_coverFrom 68 = .ok (.iload 6, 2) := by decide +kernel
theorem dX0_coverFrom_70 : decode cX0_coverFrom 70 = .ok (.iconst (-1), 1) := by decide +kernel
theorem dX0_coverFrom_71 : decode cX0_coverFrom 71 = .ok (.if_icmp .eq 10, 3) := by decide +kernel
theorem dX0_coverFrom_74 : decode cX0_coverFrom 74 = .ok (.iload 6, 2) := by decide +kernel
theorem dX0_coverFrom_76 : decode cX0_coverFrom 76 = .ok (.iconst 1, 1) := by decide +kernel
theorem dX0_coverFrom_77 : decode cX0_coverFrom 77 = .ok (.iload_n 2, 1) := by decide +kernel
theorem dX0_coverFrom_78 : decode cX0_coverFrom 78 = .ok (.ishl, 1) := by decide +kernel
theorem dX0_coverFrom_79 : decode cX0_coverFrom 79 = .ok (.ior, 1) := by decide +kernel
theorem dX0_coverFrom_80 : decode cX0_coverFrom 80 = .ok (.ireturn, 1) := by decide +kernel
theorem dX0_coverFrom_81 : decode cX0_coverFrom 81 = .ok (.aload_n 0, 1) := by decide +kernel
theorem dX0_coverFrom_82 : decode cX0_coverFrom 82 = .ok (.aload_n 1, 1) := by decide +kernel
theorem dX0_coverFrom_83 : decode cX0_coverFrom 83 = .ok (.iload_n 2, 1) := by decide +kernel
theorem dX0_coverFrom_84 : decode cX0_coverFrom 84 = .ok (.iconst 1, 1) := by decide +kernel
theorem dX0_coverFrom_85 : decode cX0_coverFrom 85 = .ok (.iadd, 1) := by decide +kernel
theorem dX0_coverFrom_86 : decode cX0_coverFrom 86 = .ok (.iload_n 3, 1) := by decide +kernel
theorem dX0_coverFrom_87 : decode cX0_coverFrom 87 = .ok (.iload 4, 2) := by decide +kernel
theorem dX0_coverFrom_89 : decode cX0_coverFrom 89 = .ok (.invokestatic 18, 3) := by decide +kernel
theorem dX0_coverFrom_92 : decode cX0_coverFrom 92 = .ok (.ireturn, 1) := by decide +kernel
theorem dX1_init_0 : decode cX1_init 0 = .ok (.aload_n 0, 1) := by decide +kernel
theorem dX1_init_1 : decode cX1_init 1 = .ok (.invokespecial 3, 3) := by decide +kernel
theorem dX1_init_4 : decode cX1_init 4 = .ok (.aload_n 0, 1) := by decide +kernel
theorem dX1_init_5 : decode cX1_init 5 = .ok (.bipush 16, 2) := by decide +kernel
theorem dX1_init_7 : decode cX1_init 7 = .ok (.newarray .int, 2) := by decide +kernel
theorem dX1_init_9 : decode cX1_init 9 = .ok (.putfield 9, 3) := by decide +kernel
theorem dX1_init_12 : decode cX1_init 12 = .ok (.aload_n 0, 1) := by decide +kernel
theorem dX1_init_13 : decode cX1_init 13 = .ok (.bipush 16, 2) := by decide +kernel
theorem dX1_init_15 : decode cX1_init 15 = .ok (.newarray .int, 2) := by decide +kernel
theorem dX1_init_17 : decode cX1_init 17 = .ok (.putfield 15, 3) := by decide +kernel
theorem dX1_init_20 : decode cX1_init 20 = .ok (.return_, 1) := by decide +kernel
theorem dX1_grow_0 : decode cX1_grow 0 = .ok (.aload_n 0, 1) := by decide +kernel
theorem dX1_grow_1 : decode cX1_grow 1 = .ok (.getfield 18, 3) := by decide +kernel
theorem dX1_grow_4 : decode cX1_grow 4 = .ok (.istore_n 1, 1) := by decide +kernel
theorem dX1_grow_5 : decode cX1_grow 5 = .ok (.aload_n 0, 1) := by decide +kernel
theorem dX1_grow_6 : decode cX1_grow 6 = .ok (.dup, 1) := by decide +kernel
theorem dX1_grow_7 : decode cX1_grow 7 = .ok (.getfield 18, 3) := by decide +kernel
theorem dX1_grow_10 : decode cX1_grow 10 = .ok (.iconst 1, 1) := by decide +kernel
theorem dX1_grow_11 : decode cX1_grow 11 = .ok (.iadd, 1) := by decide +kernel
theorem dX1_grow_12 : decode cX1_grow 12 = .ok (.putfield 18, 3) := by decide +kernel
theorem dX1_grow_15 : decode cX1_grow 15 = .ok (.aload_n 0, 1) := by decide +kernel
theorem dX1_grow_16 : decode cX1_grow 16 = .ok (.iload_n 1, 1) := by decide +kernel
theorem dX1_grow_17 : decode cX1_grow 17 = .ok (.iconst (-1), 1) := by decide +kernel
theorem dX1_grow_18 : decode cX1_grow 18 = .ok (.invokevirtual 22, 3) := by decide +kernel
theorem dX1_grow_21 : decode cX1_grow 21 = .ok (.iload_n 1, 1) := by decide +kernel
theorem dX1_grow_22 : decode cX1_grow 22 = .ok (.ireturn, 1) := by decide +kernel
theorem dX1_hang_0 : decode cX1_hang 0 = .ok (.aload_n 0, 1) := by decide +kernel
theorem dX1_hang_1 : decode cX1_hang 1 = .ok (.getfield 9, 3) := by decide +kernel
theorem dX1_hang_4 : decode cX1_hang 4 = .ok (.iload_n 1, 1) := by decide +kernel
theorem dX1_hang_5 : decode cX1_hang 5 = .ok (.iload_n 2, 1) := by decide +kernel
theorem dX1_hang_6 : decode cX1_hang 6 = .ok (.iastore, 1) := by decide +kernel
theorem dX1_hang_7 : decode cX1_hang 7 = .ok (.iconst 0, 1) := by decide +kernel
theorem dX1_hang_8 : decode cX1_hang 8 = .ok (.istore_n 3, 1) := by decide +kernel
theorem dX1_hang_9 : decode cX1_hang 9 = .ok (.iload_n 3, 1) := by decide +kernel
theorem dX1_hang_10 : decode cX1_hang 10 = .ok (.aload_n 0, 1) := by decide +kernel
theorem dX1_hang_11 : decode cX1_hang 11 = .ok (.getfield 18, 3) := by decide +kernel
theorem dX1_hang_14 : decode cX1_hang 14 = .ok (.if_icmp .ge 20, 3) := by decide +kernel
theorem dX1_hang_17 : decode cX1_hang 17 = .ok (.aload_n 0, 1) := by decide +kernel
theorem dX1_hang_18 : decode cX1_hang 18 = .ok (.getfield 15, 3) := by decide +kernel
theorem dX1_hang_21 : decode cX1_hang 21 = .ok (.iload_n 3, 1) := by decide +kernel
theorem dX1_hang_22 : decode cX1_hang 22 = .ok (.aload_n 0, 1) := by decide +kernel
theorem dX1_hang_23 : decode cX1_hang 23 = .ok (.iload_n 3, 1) := by decide +kernel
theorem dX1_hang_24 : decode cX1_hang 24 = .ok (.invokevirtual 26, 3) := by decide +kernel
theorem dX1_hang_27 : decode cX1_hang 27 = .ok (.iastore, 1) := by decide +kernel
theorem dX1_hang_28 : decode cX1_hang 28 = .ok (.iinc 3 1, 3) := by decide +kernel
theorem dX1_hang_31 : decode cX1_hang 31 = .ok (.goto (-22), 3) := by decide +kernel
theorem dX1_hang_34 : decode cX1_hang 34 = .ok (.return_, 1) := by decide +kernel
theorem dX1_lineFrom_0 : decode cX1_lineFrom 0 = .ok (.iconst 0, 1) := by decide +kernel
theorem dX1_lineFrom_1 : decode cX1_lineFrom 1 = .ok (.istore_n 2, 1) := by decide +kernel
theorem dX1_lineFrom_2 : decode cX1_lineFrom 2 = .ok (.iload_n 1, 1) := by decide +kernel
theorem dX1_lineFrom_3 : decode cX1_lineFrom 3 = .ok (.istore_n 3, 1) := by decide +kernel
theorem dX1_lineFrom_4 : decode cX1_lineFrom 4 = .ok (.iconst 0, 1) := by decide +kernel
theorem dX1_lineFrom_5 : decode cX1_lineFrom 5 = .ok (.istore 4, 2) := by decide +kernel
theorem dX1_lineFrom_7 : decode cX1_lineFrom 7 = .ok (.iload 4, 2) := by decide +kernel
theorem dX1_lineFrom_9 : decode cX1_lineFrom 9 = .ok (.bipush 16, 2) := by decide +kernel
theorem dX1_lineFrom_11 : decode cX1_lineFrom 11 = .ok (.if_icmp .ge 34, 3) := by decide +kernel
theorem dX1_lineFrom_14 : decode cX1_lineFrom 14 = .ok (.iload_n 3, 1) := by decide +kernel
theorem dX1_lineFrom_15 : decode cX1_lineFrom 15 = .ok (.ifCond .lt 30, 3) := by decide +kernel
theorem dX1_lineFrom_18 : decode cX1_lineFrom 18 = .ok (.iload_n 3, 1) := by decide +kernel
theorem dX1_lineFrom_19 : decode cX1_lineFrom 19 = .ok (.aload_n 0, 1) := by decide +kernel
theorem dX1_lineFrom_20 : decode cX1_lineFrom 20 = .ok (.getfield 18, 3) := by decide +kernel
theorem dX1_lineFrom_23 : decode cX1_lineFrom 23 = .ok (.if_icmp .ge 22, 3) := by decide +kernel
theorem dX1_lineFrom_26 : decode cX1_lineFrom 26 = .ok (.iload_n 2, 1) := by decide +kernel
theorem dX1_lineFrom_27 : decode cX1_lineFrom 27 = .ok (.iconst 1, 1) := by decide +kernel
theorem dX1_lineFrom_28 : decode cX1_lineFrom 28 = .ok (.iload_n 3, 1) := by decide +kernel
theorem dX1_lineFrom_29 : decode cX1_lineFrom 29 = .ok (.ishl, 1) := by decide +kernel
theorem dX1_lineFrom_30 : decode cX1_lineFrom 30 = .ok (.ior, 1) := by decide +kernel
theorem dX1_lineFrom_31 : decode cX1_lineFrom 31 = .ok (.istore_n 2, 1) := by decide +kernel
theorem dX1_lineFrom_32 : decode cX1_lineFrom 32 = .ok (.aload_n 0, 1) := by decide +kernel
theorem dX1_lineFrom_33 : decode cX1_lineFrom 33 = .ok (.getfield 9, 3) := by decide +kernel
theorem dX1_lineFrom_36 : decode cX1_lineFrom 36 = .ok (.iload_n 3, 1) := by decide +kernel
theorem dX1_lineFrom_37 : decode cX1_lineFrom 37 = .ok (.iaload, 1) := by decide +kernel
theorem dX1_lineFrom_38 : decode cX1_lineFrom 38 = .ok (.istore_n 3, 1) := by decide +kernel
theorem dX1_lineFrom_39 : decode cX1_lineFrom 39 = .ok (.iinc 4 1, 3) := by decide +kernel
theorem dX1_lineFrom_42 : decode cX1_lineFrom 42 = .ok (.goto (-35), 3) := by decide +kernel
theorem dX1_lineFrom_45 : decode cX1_lineFrom 45 = .ok (.iload_n 2, 1) := by decide +kernel
theorem dX1_lineFrom_46 : decode cX1_lineFrom 46 = .ok (.ireturn, 1) := by decide +kernel
theorem dX1_linesOf_0 : decode cX1_linesOf 0 = .ok (.iconst 0, 1) := by decide +kernel
theorem dX1_linesOf_1 : decode cX1_linesOf 1 = .ok (.istore_n 2, 1) := by decide +kernel
theorem dX1_linesOf_2 : decode cX1_linesOf 2 = .ok (.iconst 0, 1) := by decide +kernel
theorem dX1_linesOf_3 : decode cX1_linesOf 3 = .ok (.istore_n 3, 1) := by decide +kernel
theorem dX1_linesOf_4 : decode cX1_linesOf 4 = .ok (.iload_n 3, 1) := by decide +kernel
theorem dX1_linesOf_5 : decode cX1_linesOf 5 = .ok (.aload_n 0, 1) := by decide +kernel
theorem dX1_linesOf_6 : decode cX1_linesOf 6 = .ok (.getfield 18, 3) := by decide +kernel
theorem dX1_linesOf_9 : decode cX1_linesOf 9 = .ok (.if_icmp .ge 26, 3) := by decide +kernel
theorem dX1_linesOf_12 : decode cX1_linesOf 12 = .ok (.iload_n 3, 1) := by decide +kernel
theorem dX1_linesOf_13 : decode cX1_linesOf 13 = .ok (.iload_n 1, 1) := by decide +kernel
theorem dX1_linesOf_14 : decode cX1_linesOf 14 = .ok (.invokestatic 30, 3) := by decide +kernel
theorem dX1_linesOf_17 : decode cX1_linesOf 17 = .ok (.ifCond .eq 12, 3) := by decide +kernel
theorem dX1_linesOf_20 : decode cX1_linesOf 20 = .ok (.iload_n 2, 1) := by decide +kernel
theorem dX1_linesOf_21 : decode cX1_linesOf 21 = .ok (.aload_n 0, 1) := by decide +kernel
theorem dX1_linesOf_22 : decode cX1_linesOf 22 = .ok (.getfield 15, 3) := by decide +kernel
theorem dX1_linesOf_25 : decode cX1_linesOf 25 = .ok (.iload_n 3, 1) := by decide +kernel
theorem dX1_linesOf_26 : decode cX1_linesOf 26 = .ok (.iaload, 1) := by decide +kernel
theorem dX1_linesOf_27 : decode cX1_linesOf 27 = .ok (.ior, 1) := by decide +kernel
theorem dX1_linesOf_28 : decode cX1_linesOf 28 = .ok (.istore_n 2, 1) := by decide +kernel
theorem dX1_linesOf_29 : decode cX1_linesOf 29 = .ok (.iinc 3 1, 3) := by decide +kernel
theorem dX1_linesOf_32 : decode cX1_linesOf 32 = .ok (.goto (-28), 3) := by decide +kernel
theorem dX1_linesOf_35 : decode cX1_linesOf 35 = .ok (.iload_n 2, 1) := by decide +kernel
theorem dX1_linesOf_36 : decode cX1_linesOf 36 = .ok (.ireturn, 1) := by decide +kernel
theorem dX1_standsBelow_0 : decode cX1_standsBelow 0 = .ok (.iload_n 1, 1) := by decide +kernel
theorem dX1_standsBelow_1 : decode cX1_standsBelow 1 = .ok (.iload_n 2, 1) := by decide +kernel
theorem dX1_standsBelow_2 : decode cX1_standsBelow 2 = .ok (.if_icmp .eq 20, 3) := by decide +kernel
theorem dX1_standsBelow_5 : decode cX1_standsBelow 5 = .ok (.iload_n 2, 1) := by decide +kernel
theorem dX1_standsBelow_6 : decode cX1_standsBelow 6 = .ok (.aload_n 0, 1) := by decide +kernel
theorem dX1_standsBelow_7 : decode cX1_standsBelow 7 = .ok (.getfield 15, 3) := by decide +kernel
theorem dX1_standsBelow_10 : decode cX1_standsBelow 10 = .ok (.iload_n 1, 1) := by decide +kernel
theorem dX1_standsBelow_11 : decode cX1_standsBelow 11 = .ok (.iaload, 1) := by decide +kernel
theorem dX1_standsBelow_12 : decode cX1_standsBelow 12 = .ok (.invokestatic 30, 3) := by decide +kernel
theorem dX1_standsBelow_15 : decode cX1_standsBelow 15 = .ok (.ifCond .eq 7, 3) := by decide +kernel
theorem dX1_standsBelow_18 : decode cX1_standsBelow 18 = .ok (.iconst 1, 1) := by decide +kernel
theorem dX1_standsBelow_19 : decode cX1_standsBelow 19 = .ok (.goto 4, 3) := by decide +kernel
theorem dX1_standsBelow_22 : decode cX1_standsBelow 22 = .ok (.iconst 0, 1) := by decide +kernel
theorem dX1_standsBelow_23 : decode cX1_standsBelow 23 = .ok (.ireturn, 1) := by decide +kernel
theorem dX1_canHang_0 : decode cX1_canHang 0 = .ok (.iload_n 1, 1) := by decide +kernel
theorem dX1_canHang_1 : decode cX1_canHang 1 = .ok (.iload_n 2, 1) := by decide +kernel
theorem dX1_canHang_2 : decode cX1_canHang 2 = .ok (.if_icmp .eq 16, 3) := by decide +kernel
theorem dX1_canHang_5 : decode cX1_canHang 5 = .ok (.aload_n 0, 1) := by decide +kernel
theorem dX1_canHang_6 : decode cX1_canHang 6 = .ok (.iload_n 2, 1) := by decide +kernel
theorem dX1_canHang_7 : decode cX1_canHang 7 = .ok (.iload_n 1, 1) := by decide +kernel
theorem dX1_canHang_8 : decode cX1_canHang 8 = .ok (.invokevirtual 34, 3) := by decide +kernel
theorem dX1_canHang_11 : decode cX1_canHang 11 = .ok (.ifCond .ne 7, 3) := by decide +kernel
theorem dX1_canHang_14 : decode cX1_canHang 14 = .ok (.iconst 1, 1) := by decide +kernel
theorem dX1_canHang_15 : decode cX1_canHang 15 = .ok (.goto 4, 3) := by decide +kernel
theorem dX1_canHang_18 : decode cX1_canHang 18 = .ok (.iconst 0, 1) := by decide +kernel
theorem dX1_canHang_19 : decode cX1_canHang 19 = .ok (.ireturn, 1) := by decide +kernel
theorem dX1_countAbove_0 : decode cX1_countAbove 0 = .ok (.aload_n 0, 1) := by decide +kernel
theorem dX1_countAbove_1 : decode cX1_countAbove 1 = .ok (.getfield 15, 3) := by decide +kernel
theorem dX1_countAbove_4 : decode cX1_countAbove 4 = .ok (.iload_n 1, 1) := by decide +kernel
theorem dX1_countAbove_5 : decode cX1_countAbove 5 = .ok (.iaload, 1) := by decide +kernel
theorem dX1_countAbove_6 : decode cX1_countAbove 6 = .ok (.invokestatic 37, 3) := by decide +kernel
theorem dX1_countAbove_9 : decode cX1_countAbove 9 = .ok (.iconst 1, 1) := by decide +kernel
theorem dX1_countAbove_10 : decode cX1_countAbove 10 = .ok (.isub, 1) := by decide +kernel
theorem dX1_countAbove_11 : decode cX1_countAbove 11 = .ok (.ireturn, 1) := by decide +kernel
theorem dX1_countBelow_0 : decode cX1_countBelow 0 = .ok (.iconst 0, 1) := by decide +kernel
theorem dX1_countBelow_1 : decode cX1_countBelow 1 = .ok (.istore_n 2, 1) := by decide +kernel
theorem dX1_countBelow_2 : decode cX1_countBelow 2 = .ok (.iconst 0, 1) := by decide +kernel
theorem dX1_countBelow_3 : decode cX1_countBelow 3 = .ok (.istore_n 3, 1) := by decide +kernel
theorem dX1_countBelow_4 : decode cX1_countBelow 4 = .ok (.iload_n 3, 1) := by decide +kernel
theorem dX1_countBelow_5 : decode cX1_countBelow 5 = .ok (.aload_n 0, 1) := by decide +kernel
theorem dX1_countBelow_6 : decode cX1_countBelow 6 = .ok (.getfield 18, 3) := by decide +kernel
theorem dX1_countBelow_9 : decode cX1_countBelow 9 = .ok (.if_icmp .ge 21, 3) := by decide +kernel
theorem dX1_countBelow_12 : decode cX1_countBelow 12 = .ok (.aload_n 0, 1) := by decide +kernel
theorem dX1_countBelow_13 : decode cX1_countBelow 13 = .ok (.iload_n 3, 1) := by decide +kernel
theorem dX1_countBelow_14 : decode cX1_countBelow 14 = .ok (.iload_n 1, 1) := by decide +kernel
theorem dX1_countBelow_15 : decode cX1_countBelow 15 = .ok (.invokevirtual 34, 3) := by decide +kernel
theorem dX1_countBelow_18 : decode cX1_countBelow 18 = .ok (.ifCond .eq 6, 3) := by decide +kernel
theorem dX1_countBelow_21 : decode cX1_countBelow 21 = .ok (.iinc 2 1, 3) := by decide +kernel
theorem dX1_countBelow_24 : decode cX1_countBelow 24 = .ok (.iinc 3 1, 3) := by decide +kernel
theorem dX1_countBelow_27 : decode cX1_countBelow 27 = .ok (.goto (-23), 3) := by decide +kernel
theorem dX1_countBelow_30 : decode cX1_countBelow 30 = .ok (.iload_n 2, 1) := by decide +kernel
theorem dX1_countBelow_31 : decode cX1_countBelow 31 = .ok (.ireturn, 1) := by decide +kernel
theorem dX1_lowestOf_0 : decode cX1_lowestOf 0 = .ok (.iconst (-1), 1) := by decide +kernel
theorem dX1_lowestOf_1 : decode cX1_lowestOf 1 = .ok (.istore_n 2, 1) := by decide +kernel
theorem dX1_lowestOf_2 : decode cX1_lowestOf 2 = .ok (.iconst (-1), 1) := by decide +kernel
theorem dX1_lowestOf_3 : decode cX1_lowestOf 3 = .ok (.istore_n 3, 1) := by decide +kernel
theorem dX1_lowestOf_4 : decode cX1_lowestOf 4 = .ok (.iconst 0, 1) := by decide +kernel
theorem dX1_lowestOf_5 : decode cX1_lowestOf 5 = .ok (.istore 4, 2) := by decide +kernel
theorem dX1_lowestOf_7 : decode cX1_lowestOf 7 = .ok (.iload 4, 2) := by decide +kernel
theorem dX1_lowestOf_9 : decode cX1_lowestOf 9 = .ok (.aload_n 0, 1) := by decide +kernel
theorem dX1_lowestOf_10 : decode cX1_lowestOf 10 = .ok (.getfield 18, 3) := by decide +kernel
theorem dX1_lowestOf_13 : decode cX1_lowestOf 13 = .ok (.if_icmp .ge 38, 3) := by decide +kernel
theorem dX1_lowestOf_16 : decode cX1_lowestOf 16 = .ok (.iload 4, 2) := by decide +kernel
theorem dX1_lowestOf_18 : decode cX1_lowestOf 18 = .ok (.iload_n 1, 1) := by decide +kernel
theorem dX1_lowestOf_19 : decode cX1_lowestOf 19 = .ok (.invokestatic 30, 3) := by decide +kernel
theorem dX1_lowestOf_22 : decode cX1_lowestOf 22 = .ok (.ifCond .eq 23, 3) := by decide +kernel
theorem dX1_lowestOf_25 : decode cX1_lowestOf 25 = .ok (.aload_n 0, 1) := by decide +kernel
theorem dX1_lowestOf_26 : decode cX1_lowestOf 26 = .ok (.iload 4, 2) := by decide +kernel
theorem dX1_lowestOf_28 : decode cX1_lowestOf 28 = .ok (.invokevirtual 42, 3) := by decide +kernel
theorem dX1_lowestOf_31 : decode cX1_lowestOf 31 = .ok (.iload_n 3, 1) := by decide +kernel
theorem dX1_lowestOf_32 : decode cX1_lowestOf 32 = .ok (.if_icmp .le 13, 3) := by decide +kernel
theorem dX1_lowestOf_35 : decode cX1_lowestOf 35 = .ok (.aload_n 0, 1) := by decide +kernel
theorem dX1_lowestOf_36 : decode cX1_lowestOf 36 = .ok (.iload 4, 2) := by decide +kernel
theorem dX1_lowestOf_38 : decode cX1_lowestOf 38 = .ok (.invokevirtual 42, 3) := by decide +kernel
theorem dX1_lowestOf_41 : decode cX1_lowestOf 41 = .ok (.istore_n 3, 1) := by decide +kernel
theorem dX1_lowestOf_42 : decode cX1_lowestOf 42 = .ok (.iload 4, 2) := by decide +kernel
theorem dX1_lowestOf_44 : decode cX1_lowestOf 44 = .ok (.istore_n 2, 1) := by decide +kernel
theorem dX1_lowestOf_45 : decode cX1_lowestOf 45 = .ok (.iinc 4 1, 3) := by decide +kernel
theorem dX1_lowestOf_48 : decode cX1_lowestOf 48 = .ok (.goto (-41), 3) := by decide +kernel
theorem dX1_lowestOf_51 : decode cX1_lowestOf 51 = .ok (.iload_n 2, 1) := by decide +kernel
theorem dX1_lowestOf_52 : decode cX1_lowestOf 52 = .ok (.ireturn, 1) := by decide +kernel
theorem dX2_init_0 : decode cX2_init 0 = .ok (.aload_n 0, 1) := by decide +kernel
theorem dX2_init_1 : decode cX2_init 1 = .ok (.invokespecial 3, 3) := by decide +kernel
theorem dX2_init_4 : decode cX2_init 4 = .ok (.aload_n 0, 1) := by decide +kernel
theorem dX2_init_5 : decode cX2_init 5 = .ok (.bipush 20, 2) := by decide +kernel
theorem dX2_init_7 : decode cX2_init 7 = .ok (.newarray .int, 2) := by decide +kernel
theorem dX2_init_9 : decode cX2_init 9 = .ok (.putfield 9, 3) := by decide +kernel
theorem dX2_init_12 : decode cX2_init 12 = .ok (.aload_n 0, 1) := by decide +kernel
theorem dX2_init_13 : decode cX2_init 13 = .ok (.bipush 20, 2) := by decide +kernel
theorem dX2_init_15 : decode cX2_init 15 = .ok (.newarray .int, 2) := by decide +kernel
theorem dX2_init_17 : decode cX2_init 17 = .ok (.putfield 15, 3) := by decide +kernel
theorem dX2_init_20 : decode cX2_init 20 = .ok (.aload_n 0, 1) := by decide +kernel
theorem dX2_init_21 : decode cX2_init 21 = .ok (.bipush 20, 2) := by decide +kernel
theorem dX2_init_23 : decode cX2_init 23 = .ok (.newarray .int, 2) := by decide +kernel
theorem dX2_init_25 : decode cX2_init 25 = .ok (.putfield 18, 3) := by decide +kernel
theorem dX2_init_28 : decode cX2_init 28 = .ok (.aload_n 0, 1) := by decide +kernel
theorem dX2_init_29 : decode cX2_init 29 = .ok (.bipush 20, 2) := by decide +kernel
theorem dX2_init_31 : decode cX2_init 31 = .ok (.newarray .int, 2) := by decide +kernel
theorem dX2_init_33 : decode cX2_init 33 = .ok (.putfield 21, 3) := by decide +kernel
theorem dX2_init_36 : decode cX2_init 36 = .ok (.return_, 1) := by decide +kernel
theorem dX2_add_0 : decode cX2_add 0 = .ok (.aload_n 0, 1) := by decide +kernel
theorem dX2_add_1 : decode cX2_add 1 = .ok (.getfield 24, 3) := by decide +kernel
theorem dX2_add_4 : decode cX2_add 4 = .ok (.istore 4, 2) := by decide +kernel
theorem dX2_add_6 : decode cX2_add 6 = .ok (.aload_n 0, 1) := by decide +kernel
theorem dX2_add_7 : decode cX2_add 7 = .ok (.dup, 1) := by decide +kernel
theorem dX2_add_8 : decode cX2_add 8 = .ok (.getfield 24, 3) := by decide +kernel
theorem dX2_add_11 : decode cX2_add 11 = .ok (.iconst 1, 1) := by decide +kernel
theorem dX2_add_12 : decode cX2_add 12 = .ok (.iadd, 1) := by decide +kernel
theorem dX2_add_13 : decode cX2_add 13 = .ok (.putfield 24, 3) := by decide +kernel
theorem dX2_add_16 : decode cX2_add 16 = .ok (.aload_n 0, 1) := by decide +kernel
theorem dX2_add_17 : decode cX2_add 17 = .ok (.getfield 9, 3) := by decide +kernel
theorem dX2_add_20 : decode cX2_add 20 = .ok (.iload 4, 2) := by decide +kernel
theorem dX2_add_22 : decode cX2_add 22 = .ok (.iload_n 1, 1) := by decide +kernel
theorem dX2_add_23 : decode cX2_add 23 = .ok (.iastore, 1) := by decide +kernel
theorem dX2_add_24 : decode cX2_add 24 = .ok (.aload_n 0, 1) := by decide +kernel
theorem dX2_add_25 : decode cX2_add 25 = .ok (.getfield 15, 3) := by decide +kernel
theorem dX2_add_28 : decode cX2_add 28 = .ok (.iload 4, 2) := by decide +kernel
theorem dX2_add_30 : decode cX2_add 30 = .ok (.iload_n 2, 1) := by decide +kernel
theorem dX2_add_31 : decode cX2_add 31 = .ok (.iastore, 1) := by decide +kernel
theorem dX2_add_32 : decode cX2_add 32 = .ok (.aload_n 0, 1) := by decide +kernel
theorem dX2_add_33 : decode cX2_add 33 = .ok (.getfield 18, 3) := by decide +kernel
theorem dX2_add_36 : decode cX2_add 36 = .ok (.iload 4, 2) := by decide +kernel
theorem dX2_add_38 : decode cX2_add 38 = .ok (.iload_n 3, 1) := by decide +kernel
theorem dX2_add_39 : decode cX2_add 39 = .ok (.iastore, 1) := by decide +kernel
theorem dX2_add_40 : decode cX2_add 40 = .ok (.iload 4, 2) := by decide +kernel
theorem dX2_add_42 : decode cX2_add 42 = .ok (.ireturn, 1) := by decide +kernel
theorem dX2_combine_0 : decode cX2_combine 0 = .ok (.aload_n 0, 1) := by decide +kernel
theorem dX2_combine_1 : decode cX2_combine 1 = .ok (.aload_n 0, 1) := by decide +kernel
theorem dX2_combine_2 : decode cX2_combine 2 = .ok (.getfield 15, 3) := by decide +kernel
theorem dX2_combine_5 : decode cX2_combine 5 = .ok (.iload_n 1, 1) := by decide +kernel
theorem dX2_combine_6 : decode cX2_combine 6 = .ok (.iaload, 1) := by decide +kernel
theorem dX2_combine_7 : decode cX2_combine 7 = .ok (.iload_n 1, 1) := by decide +kernel
theorem dX2_combine_8 : decode cX2_combine 8 = .ok (.invokevirtual 28, 3) := by decide +kernel
theorem dX2_combine_11 : decode cX2_combine 11 = .ok (.istore_n 3, 1) := by decide +kernel
theorem dX2_combine_12 : decode cX2_combine 12 = .ok (.aload_n 0, 1) := by decide +kernel
theorem dX2_combine_13 : decode cX2_combine 13 = .ok (.aload_n 0, 1) := by decide +kernel
theorem dX2_combine_14 : decode cX2_combine 14 = .ok (.getfield 18, 3) := by decide +kernel
theorem dX2_combine_17 : decode cX2_combine 17 = .ok (.iload_n 1, 1) := by decide +kernel
theorem dX2_combine_18 : decode cX2_combine 18 = .ok (.iaload, 1) := by decide +kernel
theorem dX2_combine_19 : decode cX2_combine 19 = .ok (.iload_n 1, 1) := by decide +kernel
theorem dX2_combine_20 : decode cX2_combine 20 = .ok (.invokevirtual 28, 3) := by decide +kernel
theorem dX2_combine_23 : decode cX2_combine 23 = .ok (.istore 4, 2) := by decide +kernel
theorem dX2_combine_25 : decode cX2_combine 25 = .ok (.aload_n 0, 1) := by decide +kernel
theorem dX2_combine_26 : decode cX2_combine 26 = .ok (.getfield 9, 3) := by decide +kernel
theorem dX2_combine_29 : decode cX2_combine 29 = .ok (.iload_n 1, 1) := by decide +kernel
theorem dX2_combine_30 : decode cX2_combine 30 = .ok (.iaload, 1) := by decide +kernel
theorem dX2_combine_31 : decode cX2_combine 31 = .ok (.iconst 1, 1) := by decide +kernel
theorem dX2_combine_32 : decode cX2_combine 32 = .ok (.if_icmp .ne 16, 3) := by decide +kernel
theorem dX2_combine_35 : decode cX2_combine 35 = .ok (.aload_n 0, 1) := by decide +kernel
theorem dX2_combine_36 : decode cX2_combine 36 = .ok (.getfield 21, 3) := by decide +kernel
theorem dX2_combine_39 : decode cX2_combine 39 = .ok (.iload_n 1, 1) := by decide +kernel
theorem dX2_combine_40 : decode cX2_combine 40 = .ok (.iload_n 3, 1) := by decide +kernel
theorem dX2_combine_41 : decode cX2_combine 41 = .ok (.iload 4, 2) := by decide +kernel
theorem dX2_combine_43 : decode cX2_combine 43 = .ok (.iand, 1) := by decide +kernel
theorem dX2_combine_44 : decode cX2_combine 44 = .ok (.iastore, 1) := by decide +kernel
theorem dX2_combine_45 : decode cX2_combine 45 = .ok (.goto 37, 3) := by decide +kernel
theorem dX2_combine_48 : decode cX2_combine 48 = .ok (.aload_n 0, 1) := by decide +kernel
theorem dX2_combine_49 : decode cX2_combine 49 = .ok (.getfield 9, 3) := by decide +kernel
theorem dX2_combine_52 : decode cX2_combine 52 = .ok (.iload_n 1, 1) := by decide +kernel
theorem dX2_combine_53 : decode cX2_combine 53 = .ok (.iaload, 1) := by decide +kernel
theorem dX2_combine_54 : decode cX2_combine 54 = .ok (.iconst 2, 1) := by decide +kernel
theorem dX2_combine_55 : decode cX2_combine 55 = .ok (.if_icmp .ne 16, 3) := by decide +kernel
theorem dX2_combine_58 : decode cX2_combine 58 = .ok (.aload_n 0, 1) := by decide +kernel
theorem dX2_combine_59 : decode cX2_combine 59 = .ok (.getfield 21, 3) := by decide +kernel
theorem dX2_combine_62 : decode cX2_combine 62 = .ok (.iload_n 1, 1) := by decide +kernel
theorem dX2_combine_63 : decode cX2_combine 63 = .ok (.iload_n 3, 1) := by decide +kernel
theorem dX2_combine_64 : decode cX2_combine 64 = .ok (.iload 4, 2) := by decide +kernel
theorem dX2_combine_66 : decode cX2_combine 66 = .ok (.ior, 1) := by decide +kernel
theorem dX2_combine_67 : decode cX2_combine 67 = .ok (.iastore, 1) := by decide +kernel
theorem dX2_combine_68 : decode cX2_combine 68 = .ok (.goto 14, 3) := by decide +kernel
theorem dX2_combine_71 : decode cX2_combine 71 = .ok (.aload_n 0, 1) := by decide +kernel
theorem dX2_combine_72 : decode cX2_combine 72 = .ok (.getfield 21, 3) := by decide +kernel
theorem dX2_combine_75 : decode cX2_combine 75 = .ok (.iload_n 1, 1) := by decide +kernel
theorem dX2_combine_76 : decode cX2_combine 76 = .ok (.iload_n 2, 1) := by decide +kernel
theorem dX2_combine_77 : decode cX2_combine 77 = .ok (.iload_n 3, 1) := by decide +kernel
theorem dX2_combine_78 : decode cX2_combine 78 = .ok (.iconst (-1), 1) := by decide +kernel
theorem dX2_combine_79 : decode cX2_combine 79 = .ok (.ixor, 1) := by decide +kernel
theorem dX2_combine_80 : decode cX2_combine 80 = .ok (.iand, 1) := by decide +kernel
theorem dX2_combine_81 : decode cX2_combine 81 = .ok (.iastore, 1) := by decide +kernel
theorem dX2_combine_82 : decode cX2_combine 82 = .ok (.return_, 1) := by decide +kernel
theorem dX2_matchedAhead_0 : decode cX2_matchedAhead 0 = .ok (.iload_n 1, 1) := by decide +kernel
theorem dX2_matchedAhead_1 : decode cX2_matchedAhead 1 = .ok (.ifCond .lt 17, 3) := by decide +kernel
theorem dX2_matchedAhead_4 : decode cX2_matchedAhead 4 = .ok (.iload_n 1, 1) := by decide +kernel
theorem dX2_matchedAhead_5 : decode cX2_matchedAhead 5 = .ok (.iload_n 2, 1) := by decide +kernel
theorem dX2_matchedAhead_6 : decode cX2_matchedAhead 6 = .ok (.if_icmp .ge 12, 3) := by decide +kernel
theorem dX2_matchedAhead_9 : decode cX2_matchedAhead 9 = .ok (.aload_n 0, 1) := by decide +kernel
theorem dX2_matchedAhead_10 : decode cX2_matchedAhead 10 = .ok (.getfield 21, 3) := by decide +kernel
theorem dX2_matchedAhead_13 : decode cX2_matchedAhead 13 = .ok (.iload_n 1, 1) := by decide +kernel
theorem dX2_matchedAhead_14 : decode cX2_matchedAhead 14 = .ok (.iaload, 1) := by decide +kernel
theorem dX2_matchedAhead_15 : decode cX2_matchedAhead 15 = .ok (.goto 4, 3) := by decide +kernel
theorem dX2_matchedAhead_18 : decode cX2_matchedAhead 18 = .ok (.iconst 0, 1) := by decide +kernel
theorem dX2_matchedAhead_19 : decode cX2_matchedAhead 19 = .ok (.ireturn, 1) := by decide +kernel
theorem dX3_init_0 : decode cX3_init 0 = .ok (.aload_n 0, 1) := by decide +kernel
theorem dX3_init_1 : decode cX3_init 1 = .ok (.invokespecial 1, 3) := by decide +kernel
theorem dX3_init_4 : decode cX3_init 4 = .ok (.aload_n 0, 1) := by decide +kernel
theorem dX3_init_5 : decode cX3_init 5 = .ok (.new 7, 3) := by decide +kernel
theorem dX3_init_8 : decode cX3_init 8 = .ok (.dup, 1) := by decide +kernel
theorem dX3_init_9 : decode cX3_init 9 = .ok (.invokespecial 9, 3) := by decide +kernel
theorem dX3_init_12 : decode cX3_init 12 = .ok (.putfield 10, 3) := by decide +kernel
theorem dX3_init_15 : decode cX3_init 15 = .ok (.aload_n 0, 1) := by decide +kernel
theorem dX3_init_16 : decode cX3_init 16 = .ok (.new 16, 3) := by decide +kernel
theorem dX3_init_19 : decode cX3_init 19 = .ok (.dup, 1) := by decide +kernel
theorem dX3_init_20 : decode cX3_init 20 = .ok (.invokespecial 18, 3) := by decide +kernel
theorem dX3_init_23 : decode cX3_init 23 = .ok (.putfield 19, 3) := by decide +kernel
theorem dX3_init_26 : decode cX3_init 26 = .ok (.aload_n 0, 1) := by decide +kernel
theorem dX3_init_27 : decode cX3_init 27 = .ok (.new 23, 3) := by decide +kernel
theorem dX3_init_30 : decode cX3_init 30 = .ok (.dup, 1) := by decide +kernel
theorem dX3_init_31 : decode cX3_init 31 = .ok (.invokespecial 25, 3) := by decide +kernel
theorem dX3_init_34 : decode cX3_init 34 = .ok (.putfield 26, 3) := by decide +kernel
theorem dX3_init_37 : decode cX3_init 37 = .ok (.aload_n 0, 1) := by decide +kernel
theorem dX3_init_38 : decode cX3_init 38 = .ok (.bipush 24, 2) := by decide +kernel
theorem dX3_init_40 : decode cX3_init 40 = .ok (.newarray .int, 2) := by decide +kernel
theorem dX3_init_42 : decode cX3_init 42 = .ok (.putfield 30, 3) := by decide +kernel
theorem dX3_init_45 : decode cX3_init 45 = .ok (.aload_n 0, 1) := by decide +kernel
theorem dX3_init_46 : decode cX3_init 46 = .ok (.bipush 24, 2) := by decide +kernel
theorem dX3_init_48 : decode cX3_init 48 = .ok (.newarray .int, 2) := by decide +kernel
theorem dX3_init_50 : decode cX3_init 50 = .ok (.putfield 34, 3) := by decide +kernel
theorem dX3_init_53 : decode cX3_init 53 = .ok (.aload_n 0, 1) := by decide +kernel
theorem dX3_init_54 : decode cX3_init 54 = .ok (.bipush 24, 2) := by decide +kernel
theorem dX3_init_56 : decode cX3_init 56 = .ok (.newarray .int, 2) := by decide +kernel
theorem dX3_init_58 : decode cX3_init 58 = .ok (.putfield 37, 3) := by decide +kernel
theorem dX3_init_61 : decode cX3_init 61 = .ok (.aload_n 0, 1) := by decide +kernel
theorem dX3_init_62 : decode cX3_init 62 = .ok (.bipush 24, 2) := by decide +kernel
theorem dX3_init_64 : decode cX3_init 64 = .ok (.newarray .int, 2) := by decide +kernel
theorem dX3_init_66 : decode cX3_init 66 = .ok (.putfield 40, 3) := by decide +kernel
theorem dX3_init_69 : decode cX3_init 69 = .ok (.return_, 1) := by decide +kernel
theorem dX3_addTag_0 : decode cX3_addTag 0 = .ok (.aload_n 0, 1) := by decide +kernel
theorem dX3_addTag_1 : decode cX3_addTag 1 = .ok (.getfield 10, 3) := by decide +kernel
theorem dX3_addTag_4 : decode cX3_addTag 4 = .ok (.getfield 43, 3) := by decide +kernel
theorem dX3_addTag_7 : decode cX3_addTag 7 = .ok (.bipush 16, 2) := by decide +kernel
theorem dX3_addTag_9 : decode cX3_addTag 9 = .ok (.if_icmp .lt 13, 3) := by decide +kernel
theorem dX3_addTag_12 : decode cX3_addTag 12 = .ok (.new 47, 3) := by decide +kernel
theorem dX3_addTag_15 : decode cX3_addTag 15 = .ok (.dup, 1) := by decide +kernel
theorem dX3_addTag_16 : decode cX3_addTag 16 = .ok (.ldc 49, 2) := by decide +kernel
theorem dX3_addTag_18 : decode cX3_addTag 18 = .ok (.invokespecial 51, 3) := by decide +kernel
theorem dX3_addTag_21 : decode cX3_addTag 21 = .ok (.athrow, 1) := by decide +kernel
theorem dX3_addTag_22 : decode cX3_addTag 22 = .ok (.aload_n 0, 1) := by decide +kernel
theorem dX3_addTag_23 : decode cX3_addTag 23 = .ok (.getfield 10, 3) := by decide +kernel
theorem dX3_addTag_26 : decode cX3_addTag 26 = .ok (.invokevirtual 54, 3) := by decide +kernel
theorem dX3_addTag_29 : decode cX3_addTag 29 = .ok (.ireturn, 1) := by decide +kernel
theorem dX3_putUnder_0 : decode cX3_putUnder 0 = .ok (.aload_n 0, 1) := by decide +kernel
theorem dX3_putUnder_1 : decode cX3_putUnder 1 = .ok (.iload_n 1, 1) := by decide +kernel
theorem dX3_putUnder_2 : decode cX3_putUnder 2 = .ok (.iload_n 2, 1) := by decide +kernel
theorem dX3_putUnder_3 : decode cX3_putUnder 3 = .ok (.invokevirtual 58, 3) := by decide +kernel
theorem dX3_putUnder_6 : decode cX3_putUnder 6 = .ok (.aload_n 0, 1) := by decide +kernel
theorem dX3_putUnder_7 : decode cX3_putUnder 7 = .ok (.iload_n 1, 1) := by decide +kernel
theorem dX3_putUnder_8 : decode cX3_putUnder 8 = .ok (.iload_n 2, 1) := by decide +kernel
theorem dX3_putUnder_9 : decode cX3_putUnder 9 = .ok (.invokevirtual 62, 3) := by decide +kernel
theorem dX3_putUnder_12 : decode cX3_putUnder 12 = .ok (.aload_n 0, 1) := by decide +kernel
theorem dX3_putUnder_13 : decode cX3_putUnder 13 = .ok (.getfield 10, 3) := by decide +kernel
theorem dX3_putUnder_16 : decode cX3_putUnder 16 = .ok (.iload_n 1, 1) := by decide +kernel
theorem dX3_putUnder_17 : decode cX3_putUnder 17 = .ok (.invokevirtual 65, 3) := by decide +kernel
theorem dX3_putUnder_20 : decode cX3_putUnder 20 = .ok (.ireturn, 1) := by decide +kernel
theorem dX3_freeTag_0 : decode cX3_freeTag 0 = .ok (.aload_n 0, 1) := by decide +kernel
theorem dX3_freeTag_1 : decode cX3_freeTag 1 = .ok (.iload_n 1, 1) := by decide +kernel
theorem dX3_freeTag_2 : decode cX3_freeTag 2 = .ok (.invokevirtual 69, 3) := by decide +kernel
theorem dX3_freeTag_5 : decode cX3_freeTag 5 = .ok (.aload_n 0, 1) := by decide +kernel
theorem dX3_freeTag_6 : decode cX3_freeTag 6 = .ok (.getfield 10, 3) := by decide +kernel
theorem dX3_freeTag_9 : decode cX3_freeTag 9 = .ok (.getfield 73, 3) := by decide +kernel
theorem dX3_freeTag_12 : decode cX3_freeTag 12 = .ok (.iload_n 1, 1) := by decide +kernel
theorem dX3_freeTag_13 : decode cX3_freeTag 13 = .ok (.iaload, 1) := by decide +kernel
theorem dX3_freeTag_14 : decode cX3_freeTag 14 = .ok (.istore_n 2, 1) := by decide +kernel
theorem dX3_freeTag_15 : decode cX3_freeTag 15 = .ok (.aload_n 0, 1) := by decide +kernel
theorem dX3_freeTag_16 : decode cX3_freeTag 16 = .ok (.iload_n 1, 1) := by decide +kernel
theorem dX3_freeTag_17 : decode cX3_freeTag 17 = .ok (.iconst (-1), 1) := by decide +kernel
theorem dX3_freeTag_18 : decode cX3_freeTag 18 = .ok (.invokevirtual 62, 3) := by decide +kernel
theorem dX3_freeTag_21 : decode cX3_freeTag 21 = .ok (.iload_n 2, 1) := by decide +kernel
theorem dX3_freeTag_22 : decode cX3_freeTag 22 = .ok (.ireturn, 1) := by decide +kernel
theorem dX3_addDream_0 : decode cX3_addDream 0 = .ok (.aload_n 0, 1) := by decide +kernel
theorem dX3_addDream_1 : decode cX3_addDream 1 = .ok (.iload_n 1, 1) := by decide +kernel
theorem dX3_addDream_2 : decode cX3_addDream 2 = .ok (.invokevirtual 76, 3) := by decide +kernel
theorem dX3_addDream_5 : decode cX3_addDream 5 = .ok (.iload_n 2, 1) := by decide +kernel
theorem dX3_addDream_6 : decode cX3_addDream 6 = .ok (.iconst 1, 1) := by decide +kernel
theorem dX3_addDream_7 : decode cX3_addDream 7 = .ok (.if_icmp .lt 9, 3) := by decide +kernel
theorem dX3_addDream_10 : decode cX3_addDream 10 = .ok (.iload_n 2, 1) := by decide +kernel
theorem dX3_addDream_11 : decode cX3_addDream 11 = .ok (.bipush 9, 2) := by decide +kernel
theorem dX3_addDream_13 : decode cX3_addDream 13 = .ok (.if_icmp .le 13, 3) := by decide +kernel
theorem dX3_addDream_16 : decode cX3_addDream 16 = .ok (.new 79, 3) := by decide +kernel
theorem dX3_addDream_19 : decode cX3_addDream 19 = .ok (.dup, 1) := by decide +kernel
theorem dX3_addDream_20 : decode cX3_addDream 20 = .ok (.ldc 81, 2) := by decide +kernel
theorem dX3_addDream_22 : decode cX3_addDream 22 = .ok (.invokespecial 83, 3) := by decide +kernel
theorem dX3_addDream_25 : decode cX3_addDream 25 = .ok (.athrow, 1) := by decide +kernel
theorem dX3_addDream_26 : decode cX3_addDream 26 = .ok (.aload_n 0, 1) := by decide +kernel
theorem dX3_addDream_27 : decode cX3_addDream 27 = .ok (.getfield 84, 3) := by decide +kernel
theorem dX3_addDream_30 : decode cX3_addDream 30 = .ok (.bipush 24, 2) := by decide +kernel
theorem dX3_addDream_32 : decode cX3_addDream 32 = .ok (.if_icmp .lt 13, 3) := by decide +kernel
theorem dX3_addDream_35 : decode cX3_addDream 35 = .ok (.new 47, 3) := by decide +kernel
theorem dX3_addDream_38 : decode cX3_addDream 38 = .ok (.dup, 1) := by decide +kernel
theorem dX3_addDream_39 : decode cX3_addDream 39 = .ok (.ldc 87, 2) := by decide +kernel
theorem dX3_addDream_41 : decode cX3_addDream 41 = .ok (.invokespecial 51, 3) := by decide +kernel
theorem dX3_addDream_44 : decode cX3_addDream 44 = .ok (.athrow, 1) := by decide +kernel
theorem dX3_addDream_45 : decode cX3_addDream 45 = .ok (.aload_n 0, 1) := by decide +kernel
theorem dX3_addDream_46 : decode cX3_addDream 46 = .ok (.getfield 84, 3) := by decide +kernel
theorem dX3_addDream_49 : decode cX3_addDream 49 = .ok (.istore_n 3, 1) := by decide +kernel
theorem dX3_addDream_50 : decode cX3_addDream 50 = .ok (.aload_n 0, 1) := by decide +kernel
theorem dX3_addDream_51 : decode cX3_addDream 51 = .ok (.dup, 1) := by decide +kernel
theorem dX3_addDream_52 : decode cX3_addDream 52 = .ok (.getfield 84, 3) := by decide +kernel
theorem dX3_addDream_55 : decode cX3_addDream 55 = .ok (.iconst 1, 1) := by decide +kernel
theorem dX3_addDream_56 : decode cX3_addDream 56 = .ok (.iadd, 1) := by decide +kernel
theorem dX3_addDream_57 : decode cX3_addDream 57 = .ok (.putfield 84, 3) := by decide +kernel
theorem dX3_addDream_60 : decode cX3_addDream 60 = .ok (.aload_n 0, 1) := by decide +kernel
theorem dX3_addDream_61 : decode cX3_addDream 61 = .ok (.getfield 37, 3) := by decide +kernel
theorem dX3_addDream_64 : decode cX3_addDream 64 = .ok (.iload_n 3, 1) := by decide +kernel
theorem dX3_addDream_65 : decode cX3_addDream 65 = .ok (.iload_n 2, 1) := by decide +kernel
theorem dX3_addDream_66 : decode cX3_addDream 66 = .ok (.iastore, 1) := by decide +kernel
theorem dX3_addDream_67 : decode cX3_addDream 67 = .ok (.aload_n 0, 1) := by decide +kernel
theorem dX3_addDream_68 : decode cX3_addDream 68 = .ok (.getfield 40, 3) := by decide +kernel
theorem dX3_addDream_71 : decode cX3_addDream 71 = .ok (.iload_n 3, 1) := by decide +kernel
theorem dX3_addDream_72 : decode cX3_addDream 72 = .ok (.aload_n 0, 1) := by decide +kernel
theorem dX3_addDream_73 : decode cX3_addDream 73 = .ok (.getfield 89, 3) := by decide +kernel
theorem dX3_addDream_76 : decode cX3_addDream 76 = .ok (.iastore, 1) := by decide +kernel
theorem dX3_addDream_77 : decode cX3_addDream 77 = .ok (.aload_n 0, 1) := by decide +kernel
theorem dX3_addDream_78 : decode cX3_addDream 78 = .ok (.iload_n 3, 1) := by decide +kernel
theorem dX3_addDream_79 : decode cX3_addDream 79 = .ok (.iconst 1, 1) := by decide +kernel
theorem dX3_addDream_80 : decode cX3_addDream 80 = .ok (.iload_n 1, 1) := by decide +kernel
theorem dX3_addDream_81 : decode cX3_addDream 81 = .ok (.ishl, 1) := by decide +kernel
theorem dX3_addDream_82 : decode cX3_addDream 82 = .ok (.invokevirtual 92, 3) := by decide +kernel
theorem dX3_addDream_85 : decode cX3_addDream 85 = .ok (.iload_n 3, 1) := by decide +kernel
theorem dX3_addDream_86 : decode cX3_addDream 86 = .ok (.ireturn, 1) := by decide +kernel
theorem dX3_tagDream_0 : decode cX3_tagDream 0 = .ok (.aload_n 0, 1) := by decide +kernel
theorem dX3_tagDream_1 : decode cX3_tagDream 1 = .ok (.iload_n 1, 1) := by decide +kernel
theorem dX3_tagDream_2 : decode cX3_tagDream 2 = .ok (.invokevirtual 95, 3) := by decide +kernel
theorem dX3_tagDream_5 : decode cX3_tagDream 5 = .ok (.aload_n 0, 1) := by decide +kernel
theorem dX3_tagDream_6 : decode cX3_tagDream 6 = .ok (.iload_n 2, 1) := by decide +kernel
theorem dX3_tagDream_7 : decode cX3_tagDream 7 = .ok (.invokevirtual 76, 3) := by decide +kernel
theorem dX3_tagDream_10 : decode cX3_tagDream 10 = .ok (.iload_n 2, 1) := by decide +kernel
theorem dX3_tagDream_11 : decode cX3_tagDream 11 = .ok (.aload_n 0, 1) := by decide +kernel
theorem dX3_tagDream_12 : decode cX3_tagDream 12 = .ok (.getfield 30, 3) := by decide +kernel
theorem dX3_tagDream_15 : decode cX3_tagDream 15 = .ok (.iload_n 1, 1) := by decide +kernel
theorem dX3_tagDream_16 : decode cX3_tagDream 16 = .ok (.iaload, 1) := by decide +kernel
theorem dX3_tagDream_17 : decode cX3_tagDream 17 = .ok (.invokestatic 98, 3) := by decide +kernel
theorem dX3_tagDream_20 : decode cX3_tagDream 20 = .ok (.ifCond .eq 13, 3) := by decide +kernel
theorem dX3_tagDream_23 : decode cX3_tagDream 23 = .ok (.new 47, 3) := by decide +kernel
theorem dX3_tagDream_26 : decode cX3_tagDream 26 = .ok (.dup, 1) := by decide +kernel
theorem dX3_tagDream_27 : decode cX3_tagDream 27 = .ok (.ldc 102, 2) := by decide +kernel
theorem dX3_tagDream_29 : decode cX3_tagDream 29 = .ok (.invokespecial 51, 3) := by decide +kernel
theorem dX3_tagDream_32 : decode cX3_tagDream 32 = .ok (.athrow, 1) := by decide +kernel
theorem dX3_tagDream_33 : decode cX3_tagDream 33 = .ok (.aload_n 0, 1) := by decide +kernel
theorem dX3_tagDream_34 : decode cX3_tagDream 34 = .ok (.iload_n 1, 1) := by decide +kernel
theorem dX3_tagDream_35 : decode cX3_tagDream 35 = .ok (.aload_n 0, 1) := by decide +kernel
theorem dX3_tagDream_36 : decode cX3_tagDream 36 = .ok (.getfield 30, 3) := by decide +kernel
theorem dX3_tagDream_39 : decode cX3_tagDream 39 = .ok (.iload_n 1, 1) := by decide +kernel
theorem dX3_tagDream_40 : decode cX3_tagDream 40 = .ok (.iaload, 1) := by decide +kernel
theorem dX3_tagDream_41 : decode cX3_tagDream 41 = .ok (.iconst 1, 1) := by decide +kernel
theorem dX3_tagDream_42 : decode cX3_tagDream 42 = .ok (.iload_n 2, 1) := by decide +kernel
theorem dX3_tagDream_43 : decode cX3_tagDream 43 = .ok (.ishl, 1) := by decide +kernel
theorem dX3_tagDream_44 : decode cX3_tagDream 44 = .ok (.ior, 1) := by decide +kernel
theorem dX3_tagDream_45 : decode cX3_tagDream 45 = .ok (.invokevirtual 92, 3) := by decide +kernel
theorem dX3_tagDream_48 : decode cX3_tagDream 48 = .ok (.aload_n 0, 1) := by decide +kernel
theorem dX3_tagDream_49 : decode cX3_tagDream 49 = .ok (.getfield 30, 3) := by decide +kernel
theorem dX3_tagDream_52 : decode cX3_tagDream 52 = .ok (.iload_n 1, 1) := by decide +kernel
theorem dX3_tagDream_53 : decode cX3_tagDream 53 = .ok (.iaload, 1) := by decide +kernel
theorem dX3_tagDream_54 : decode cX3_tagDream 54 = .ok (.invokestatic 104, 3) := by decide +kernel
theorem dX3_tagDream_57 : decode cX3_tagDream 57 = .ok (.ireturn, 1) := by decide +kernel
theorem dX3_untagDream_0 : decode cX3_untagDream 0 = .ok (.aload_n 0, 1) := by decide +kernel
theorem dX3_untagDream_1 : decode cX3_untagDream 1 = .ok (.iload_n 1, 1) := by decide +kernel
theorem dX3_untagDream_2 : decode cX3_untagDream 2 = .ok (.invokevirtual 95, 3) := by decide +kernel
theorem dX3_untagDream_5 : decode cX3_untagDream 5 = .ok (.aload_n 0, 1) := by decide +kernel
theorem dX3_untagDream_6 : decode cX3_untagDream 6 = .ok (.iload_n 2, 1) := by decide +kernel
theorem dX3_untagDream_7 : decode cX3_untagDream 7 = .ok (.invokevirtual 76, 3) := by decide +kernel
theorem dX3_untagDream_10 : decode cX3_untagDream 10 = .ok (.iload_n 2, 1) := by decide +kernel
theorem dX3_untagDream_11 : decode cX3_untagDream 11 = .ok (.aload_n 0, 1) := by decide +kernel
theorem dX3_untagDream_12 : decode cX3_untagDream 12 = .ok (.getfield 30, 3) := by decide +kernel
theorem dX3_untagDream_15 : decode cX3_untagDream 15 = .ok (.iload_n 1, 1) := by decide +kernel
theorem dX3_untagDream_16 : decode cX3_untagDream 16 = .ok (.iaload, 1) := by decide +kernel
theorem dX3_untagDream_17 : decode cX3_untagDream 17 = .ok (.invokestatic 98, 3) := by decide +kernel
theorem dX3_untagDream_20 : decode cX3_untagDream 20 = .ok (.ifCond .ne 13, 3) := by decide +kernel
theorem dX3_untagDream_23 : decode cX3_untagDream 23 = .ok (.new 47, 3) := by decide +kernel
theorem dX3_untagDream_26 : decode cX3_untagDream 26 = .ok (.dup, 1) := by decide +kernel
theorem dX3_untagDream_27 : decode cX3_untagDream 27 = .ok (.ldc 109, 2) := by decide +kernel
theorem dX3_untagDream_29 : decode cX3_untagDream 29 = .ok (.invokespecial 51, 3) := by decide +kernel
theorem dX3_untagDream_32 : decode cX3_untagDream 32 = .ok (.athrow, 1) := by decide +kernel
theorem dX3_untagDream_33 : decode cX3_untagDream 33 = .ok (.aload_n 0, 1) := by decide +kernel
theorem dX3_untagDream_34 : decode cX3_untagDream 34 = .ok (.getfield 30, 3) := by decide +kernel
theorem dX3_untagDream_37 : decode cX3_untagDream 37 = .ok (.iload_n 1, 1) := by decide +kernel
theorem dX3_untagDream_38 : decode cX3_untagDream 38 = .ok (.iaload, 1) := by decide +kernel
theorem dX3_untagDream_39 : decode cX3_untagDream 39 = .ok (.iconst 1, 1) := by decide +kernel
theorem dX3_untagDream_40 : decode cX3_untagDream 40 = .ok (.iload_n 2, 1) := by decide +kernel
theorem dX3_untagDream_41 : decode cX3_untagDream 41 = .ok (.ishl, 1) := by decide +kernel
theorem dX3_untagDream_42 : decode cX3_untagDream 42 = .ok (.if_icmp .ne 13, 3) := by decide +kernel
theorem dX3_untagDream_45 : decode cX3_untagDream 45 = .ok (.new 47, 3) := by decide +kernel
theorem dX3_untagDream_48 : decode cX3_untagDream 48 = .ok (.dup, 1) := by decide +kernel
theorem dX3_untagDream_49 : decode cX3_untagDream 49 = .ok (.ldc 111, 2) := by decide +kernel
theorem dX3_untagDream_51 : decode cX3_untagDream 51 = .ok (.invokespecial 51, 3) := by decide +kernel
theorem dX3_untagDream_54 : decode cX3_untagDream 54 = .ok (.athrow, 1) := by decide +kernel
theorem dX3_untagDream_55 : decode cX3_untagDream 55 = .ok (.aload_n 0, 1) := by decide +kernel
theorem dX3_untagDream_56 : decode cX3_untagDream 56 = .ok (.iload_n 1, 1) := by decide +kernel
theorem dX3_untagDream_57 : decode cX3_untagDream 57 = .ok (.aload_n 0, 1) := by decide +kernel
theorem dX3_untagDream_58 : decode cX3_untagDream 58 = .ok (.getfield 30, 3) := by decide +kernel
theorem dX3_untagDream_61 : decode cX3_untagDream 61 = .ok (.iload_n 1, 1) := by decide +kernel
theorem dX3_untagDream_62 : decode cX3_untagDream 62 = .ok (.iaload, 1) := by decide +kernel
theorem dX3_untagDream_63 : decode cX3_untagDream 63 = .ok (.iconst 1, 1) := by decide +kernel
theorem dX3_untagDream_64 : decode cX3_untagDream 64 = .ok (.iload_n 2, 1) := by decide +kernel
theorem dX3_untagDream_65 : decode cX3_untagDream 65 = .ok (.ishl, 1) := by decide +kernel
theorem dX3_untagDream_66 : decode cX3_untagDream 66 = .ok (.iconst (-1), 1) := by decide +kernel
theorem dX3_untagDream_67 : decode cX3_untagDream 67 = .ok (.ixor, 1) := by decide +kernel
theorem dX3_untagDream_68 : decode cX3_untagDream 68 = .ok (.iand, 1) := by decide +kernel
theorem dX3_untagDream_69 : decode cX3_untagDream 69 = .ok (.invokevirtual 92, 3) := by decide +kernel
theorem dX3_untagDream_72 : decode cX3_untagDream 72 = .ok (.aload_n 0, 1) := by decide +kernel
theorem dX3_untagDream_73 : decode cX3_untagDream 73 = .ok (.getfield 30, 3) := by decide +kernel
theorem dX3_untagDream_76 : decode cX3_untagDream 76 = .ok (.iload_n 1, 1) := by decide +kernel
theorem dX3_untagDream_77 : decode cX3_untagDream 77 = .ok (.iaload, 1) := by decide +kernel
theorem dX3_untagDream_78 : decode cX3_untagDream 78 = .ok (.invokestatic 104, 3) := by decide +kernel
theorem dX3_untagDream_81 : decode cX3_untagDream 81 = .ok (.ireturn, 1) := by decide +kernel
theorem dX3_recall_0 : decode cX3_recall 0 = .ok (.aload_n 0, 1) := by decide +kernel
theorem dX3_recall_1 : decode cX3_recall 1 = .ok (.iload_n 1, 1) := by decide +kernel
theorem dX3_recall_2 : decode cX3_recall 2 = .ok (.invokevirtual 95, 3) := by decide +kernel
theorem dX3_recall_5 : decode cX3_recall 5 = .ok (.iload_n 2, 1) := by decide +kernel
theorem dX3_recall_6 : decode cX3_recall 6 = .ok (.ifCond .lt 9, 3) := by decide +kernel
theorem dX3_recall_9 : decode cX3_recall 9 = .ok (.iload_n 2, 1) := by decide +kernel
theorem dX3_recall_10 : decode cX3_recall 10 = .ok (.bipush 9, 2) := by decide +kernel
theorem dX3_recall_12 : decode cX3_recall 12 = .ok (.if_icmp .le 13, 3) := by decide +kernel
theorem dX3_recall_15 : decode cX3_recall 15 = .ok (.new 79, 3) := by decide +kernel
theorem dX3_recall_18 : decode cX3_recall 18 = .ok (.dup, 1) := by decide +kernel
theorem dX3_recall_19 : decode cX3_recall 19 = .ok (.ldc 113, 2) := by decide +kernel
theorem dX3_recall_21 : decode cX3_recall 21 = .ok (.invokespecial 83, 3) := by decide +kernel
theorem dX3_recall_24 : decode cX3_recall 24 = .ok (.athrow, 1) := by decide +kernel
theorem dX3_recall_25 : decode cX3_recall 25 = .ok (.aload_n 0, 1) := by decide +kernel
theorem dX3_recall_26 : decode cX3_recall 26 = .ok (.getfield 37, 3) := by decide +kernel
theorem dX3_recall_29 : decode cX3_recall 29 = .ok (.iload_n 1, 1) := by decide +kernel
theorem dX3_recall_30 : decode cX3_recall 30 = .ok (.iaload, 1) := by decide +kernel
theorem dX3_recall_31 : decode cX3_recall 31 = .ok (.istore_n 3, 1) := by decide +kernel
theorem dX3_recall_32 : decode cX3_recall 32 = .ok (.aload_n 0, 1) := by decide +kernel
theorem dX3_recall_33 : decode cX3_recall 33 = .ok (.getfield 37, 3) := by decide +kernel
theorem dX3_recall_36 : decode cX3_recall 36 = .ok (.iload_n 1, 1) := by decide +kernel
theorem dX3_recall_37 : decode cX3_recall 37 = .ok (.iload_n 2, 1) := by decide +kernel
theorem dX3_recall_38 : decode cX3_recall 38 = .ok (.iastore, 1) := by decide +kernel
theorem dX3_recall_39 : decode cX3_recall 39 = .ok (.iload_n 3, 1) := by decide +kernel
theorem dX3_recall_40 : decode cX3_recall 40 = .ok (.ireturn, 1) := by decide +kernel
theorem dX3_passNights_0 : decode cX3_passNights 0 = .ok (.aload_n 0, 1) := by decide +kernel
theorem dX3_passNights_1 : decode cX3_passNights 1 = .ok (.iload_n 1, 1) := by decide +kernel
theorem dX3_passNights_2 : decode cX3_passNights 2 = .ok (.invokevirtual 115, 3) := by decide +kernel
theorem dX3_passNights_5 : decode cX3_passNights 5 = .ok (.iconst 0, 1) := by decide +kernel
theorem dX3_passNights_6 : decode cX3_passNights 6 = .ok (.istore_n 2, 1) := by decide +kernel
theorem dX3_passNights_7 : decode cX3_passNights 7 = .ok (.iload_n 2, 1) := by decide +kernel
theorem dX3_passNights_8 : decode cX3_passNights 8 = .ok (.aload_n 0, 1) := by decide +kernel
theorem dX3_passNights_9 : decode cX3_passNights 9 = .ok (.getfield 84, 3) := by decide +kernel
theorem dX3_passNights_12 : decode cX3_passNights 12 = .ok (.if_icmp .ge 21, 3) := by decide +kernel
theorem dX3_passNights_15 : decode cX3_passNights 15 = .ok (.aload_n 0, 1) := by decide +kernel
theorem dX3_passNights_16 : decode cX3_passNights 16 = .ok (.getfield 37, 3) := by decide +kernel
theorem dX3_passNights_19 : decode cX3_passNights 19 = .ok (.iload_n 2, 1) := by decide +kernel
theorem dX3_passNights_20 : decode cX3_passNights 20 = .ok (.aload_n 0, 1) := by decide +kernel
theorem dX3_passNights_21 : decode cX3_passNights 21 = .ok (.iload_n 2, 1) := by decide +kernel
theorem dX3_passNights_22 : decode cX3_passNights 22 = .ok (.iload_n 1, 1) := by decide +kernel
theorem dX3_passNights_23 : decode cX3_passNights 23 = .ok (.invokevirtual 118, 3) := by decide +kernel
theorem dX3_passNights_26 : decode cX3_passNights 26 = .ok (.iastore, 1) := by decide +kernel
theorem dX3_passNights_27 : decode cX3_passNights 27 = .ok (.iinc 2 1, 3) := by decide +kernel
theorem dX3_passNights_30 : decode cX3_passNights 30 = .ok (.goto (-23), 3) := by decide +kernel
theorem dX3_passNights_33 : decode cX3_passNights 33 = .ok (.aload_n 0, 1) := by decide +kernel
theorem dX3_passNights_34 : decode cX3_passNights 34 = .ok (.dup, 1) := by decide +kernel
theorem dX3_passNights_35 : decode cX3_passNights 35 = .ok (.getfield 89, 3) := by decide +kernel
theorem dX3_passNights_38 : decode cX3_passNights 38 = .ok (.iload_n 1, 1) := by decide +kernel
theorem dX3_passNights_39 : decode cX3_passNights 39 = .ok (.iadd, 1) := by decide +kernel
theorem dX3_passNights_40 : decode cX3_passNights 40 = .ok (.putfield 89, 3) := by decide +kernel
theorem dX3_passNights_43 : decode cX3_passNights 43 = .ok (.aload_n 0, 1) := by decide +kernel
theorem dX3_passNights_44 : decode cX3_passNights 44 = .ok (.iconst 0, 1) := by decide +kernel
theorem dX3_passNights_45 : decode cX3_passNights 45 = .ok (.invokevirtual 122, 3) := by decide +kernel
theorem dX3_passNights_48 : decode cX3_passNights 48 = .ok (.ireturn, 1) := by decide +kernel
theorem dX3_addTagTerm_0 : decode cX3_addTagTerm 0 = .ok (.aload_n 0, 1) := by decide +kernel
theorem dX3_addTagTerm_1 : decode cX3_addTagTerm 1 = .ok (.iload_n 1, 1) := by decide +kernel
theorem dX3_addTagTerm_2 : decode cX3_addTagTerm 2 = .ok (.invokevirtual 76, 3) := by decide +kernel
theorem dX3_addTagTerm_5 : decode cX3_addTagTerm 5 = .ok (.aload_n 0, 1) := by decide +kernel
theorem dX3_addTagTerm_6 : decode cX3_addTagTerm 6 = .ok (.invokevirtual 125, 3) := by decide +kernel
theorem dX3_addTagTerm_9 : decode cX3_addTagTerm 9 = .ok (.aload_n 0, 1) := by decide +kernel
theorem dX3_addTagTerm_10 : decode cX3_addTagTerm 10 = .ok (.iconst 0, 1) := by decide +kernel
theorem dX3_addTagTerm_11 : decode cX3_addTagTerm 11 = .ok (.iload_n 1, 1) := by decide +kernel
theorem dX3_addTagTerm_12 : decode cX3_addTagTerm 12 = .ok (.iload_n 1, 1) := by decide +kernel
theorem dX3_addTagTerm_13 : decode cX3_addTagTerm 13 = .ok (.invokevirtual 128, 3) := by decide +kernel
theorem dX3_addTagTerm_16 : decode cX3_addTagTerm 16 = .ok (.ireturn, 1) := by decide +kernel
theorem dX3_addBothTerm_0 : decode cX3_addBothTerm 0 = .ok (.aload_n 0, 1) := by decide +kernel
theorem dX3_addBothTerm_1 : decode cX3_addBothTerm 1 = .ok (.iload_n 1, 1) := by decide +kernel
theorem dX3_addBothTerm_2 : decode cX3_addBothTerm 2 = .ok (.invokevirtual 132, 3) := by decide +kernel
theorem dX3_addBothTerm_5 : decode cX3_addBothTerm 5 = .ok (.aload_n 0, 1) := by decide +kernel
theorem dX3_addBothTerm_6 : decode cX3_addBothTerm 6 = .ok (.iload_n 2, 1) := by decide +kernel
theorem dX3_addBothTerm_7 : decode cX3_addBothTerm 7 = .ok (.invokevirtual 132, 3) := by decide +kernel
theorem dX3_addBothTerm_10 : decode cX3_addBothTerm 10 = .ok (.aload_n 0, 1) := by decide +kernel
theorem dX3_addBothTerm_11 : decode cX3_addBothTerm 11 = .ok (.invokevirtual 125, 3) := by decide +kernel
theorem dX3_addBothTerm_14 : decode cX3_addBothTerm 14 = .ok (.aload_n 0, 1) := by decide +kernel
theorem dX3_addBothTerm_15 : decode cX3_addBothTerm 15 = .ok (.iconst 1, 1) := by decide +kernel
theorem dX3_addBothTerm_16 : decode cX3_addBothTerm 16 = .ok (.iload_n 1, 1) := by decide +kernel
theorem dX3_addBothTerm_17 : decode cX3_addBothTerm 17 = .ok (.iload_n 2, 1) := by decide +kernel
theorem dX3_addBothTerm_18 : decode cX3_addBothTerm 18 = .ok (.invokevirtual 128, 3) := by decide +kernel
theorem dX3_addBothTerm_21 : decode cX3_addBothTerm 21 = .ok (.ireturn, 1) := by decide +kernel
theorem dX3_addEitherTerm_0 : decode cX3_addEitherTerm 0 = .ok (.aload_n 0, 1) := by decide +kernel
theorem dX3_addEitherTerm_1 : decode cX3_addEitherTerm 1 = .ok (.iload_n 1, 1) := by decide +kernel
theorem dX3_addEitherTerm_2 : decode cX3_addEitherTerm 2 = .ok (.invokevirtual 132, 3) := by decide +kernel
theorem dX3_addEitherTerm_5 : decode cX3_addEitherTerm 5 = .ok (.aload_n 0, 1) := by decide +kernel
theorem dX3_addEitherTerm_6 : decode cX3_addEitherTerm 6 = .ok (.iload_n 2, 1) := by decide +kernel
theorem dX3_addEitherTerm_7 : decode cX3_addEitherTerm 7 = .ok (.invokevirtual 132, 3) := by decide +kernel
theorem dX3_addEitherTerm_10 : decode cX3_addEitherTerm 10 = .ok (.aload_n 0, 1) := by decide +kernel
theorem dX3_addEitherTerm_11 : decode cX3_addEitherTerm 11 = .ok (.invokevirtual 125, 3) := by decide +kernel
theorem dX3_addEitherTerm_14 : decode cX3_addEitherTerm 14 = .ok (.aload_n 0, 1) := by decide +kernel
theorem dX3_addEitherTerm_15 : decode cX3_addEitherTerm 15 = .ok (.iconst 2, 1) := by decide +kernel
theorem dX3_addEitherTerm_16 : decode cX3_addEitherTerm 16 = .ok (.iload_n 1, 1) := by decide +kernel
theorem dX3_addEitherTerm_17 : decode cX3_addEitherTerm 17 = .ok (.iload_n 2, 1) := by decide +kernel
theorem dX3_addEitherTerm_18 : decode cX3_addEitherTerm 18 = .ok (.invokevirtual 128, 3) := by decide +kernel
theorem dX3_addEitherTerm_21 : decode cX3_addEitherTerm 21 = .ok (.ireturn, 1) := by decide +kernel
theorem dX3_addWithoutTerm_0 : decode cX3_addWithoutTerm 0 = .ok (.aload_n 0, 1) := by decide +kernel
theorem dX3_addWithoutTerm_1 : decode cX3_addWithoutTerm 1 = .ok (.iload_n 1, 1) := by decide +kernel
theorem dX3_addWithoutTerm_2 : decode cX3_addWithoutTerm 2 = .ok (.invokevirtual 132, 3) := by decide +kernel
theorem dX3_addWithoutTerm_5 : decode cX3_addWithoutTerm 5 = .ok (.aload_n 0, 1) := by decide +kernel
theorem dX3_addWithoutTerm_6 : decode cX3_addWithoutTerm 6 = .ok (.invokevirtual 125, 3) := by decide +kernel
theorem dX3_addWithoutTerm_9 : decode cX3_addWithoutTerm 9 = .ok (.aload_n 0, 1) := by decide +kernel
theorem dX3_addWithoutTerm_10 : decode cX3_addWithoutTerm 10 = .ok (.iconst 3, 1) := by decide +kernel
theorem dX3_addWithoutTerm_11 : decode cX3_addWithoutTerm 11 = .ok (.iload_n 1, 1) := by decide +kernel
theorem dX3_addWithoutTerm_12 : decode cX3_addWithoutTerm 12 = .ok (.iload_n 1, 1) := by decide +kernel
theorem dX3_addWithoutTerm_13 : decode cX3_addWithoutTerm 13 = .ok (.invokevirtual 128, 3) := by decide +kernel
theorem dX3_addWithoutTerm_16 : decode cX3_addWithoutTerm 16 = .ok (.ireturn, 1) := by decide +kernel
theorem dX3_clearTerms_0 : decode cX3_clearTerms 0 = .ok (.aload_n 0, 1) := by decide +kernel
theorem dX3_clearTerms_1 : decode cX3_clearTerms 1 = .ok (.getfield 19, 3) := by decide +kernel
theorem dX3_clearTerms_4 : decode cX3_clearTerms 4 = .ok (.getfield 135, 3) := by decide +kernel
theorem dX3_clearTerms_7 : decode cX3_clearTerms 7 = .ok (.istore_n 1, 1) := by decide +kernel
theorem dX3_clearTerms_8 : decode cX3_clearTerms 8 = .ok (.aload_n 0, 1) := by decide +kernel
theorem dX3_clearTerms_9 : decode cX3_clearTerms 9 = .ok (.getfield 19, 3) := by decide +kernel
theorem dX3_clearTerms_12 : decode cX3_clearTerms 12 = .ok (.iconst 0, 1) := by decide +kernel
theorem dX3_clearTerms_13 : decode cX3_clearTerms 13 = .ok (.putfield 135, 3) := by decide +kernel
theorem dX3_clearTerms_16 : decode cX3_clearTerms 16 = .ok (.iload_n 1, 1) := by decide +kernel
theorem dX3_clearTerms_17 : decode cX3_clearTerms 17 = .ok (.ireturn, 1) := by decide +kernel
theorem dX3_hasParent_0 : decode cX3_hasParent 0 = .ok (.aload_n 0, 1) := by decide +kernel
theorem dX3_hasParent_1 : decode cX3_hasParent 1 = .ok (.iload_n 1, 1) := by decide +kernel
theorem dX3_hasParent_2 : decode cX3_hasParent 2 = .ok (.invokevirtual 76, 3) := by decide +kernel
theorem dX3_hasParent_5 : decode cX3_hasParent 5 = .ok (.aload_n 0, 1) := by decide +kernel
theorem dX3_hasParent_6 : decode cX3_hasParent 6 = .ok (.getfield 10, 3) := by decide +kernel
theorem dX3_hasParent_9 : decode cX3_hasParent 9 = .ok (.getfield 73, 3) := by decide +kernel
theorem dX3_hasParent_12 : decode cX3_hasParent 12 = .ok (.iload_n 1, 1) := by decide +kernel
theorem dX3_hasParent_13 : decode cX3_hasParent 13 = .ok (.iaload, 1) := by decide +kernel
theorem dX3_hasParent_14 : decode cX3_hasParent 14 = .ok (.iconst (-1), 1) := by decide +kernel
theorem dX3_hasParent_15 : decode cX3_hasParent 15 = .ok (.if_icmp .eq 7, 3) := by decide +kernel
theorem dX3_hasParent_18 : decode cX3_hasParent 18 = .ok (.iconst 1, 1) := by decide +kernel
theorem dX3_hasParent_19 : decode cX3_hasParent 19 = .ok (.goto 4, 3) := by decide +kernel
theorem dX3_hasParent_22 : decode cX3_hasParent 22 = .ok (.iconst 0, 1) := by decide +kernel
theorem dX3_hasParent_23 : decode cX3_hasParent 23 = .ok (.ireturn, 1) := by decide +kernel
theorem dX3_parentOf_0 : decode cX3_parentOf 0 = .ok (.aload_n 0, 1) := by decide +kernel
theorem dX3_parentOf_1 : decode cX3_parentOf 1 = .ok (.iload_n 1, 1) := by decide +kernel
theorem dX3_parentOf_2 : decode cX3_parentOf 2 = .ok (.invokevirtual 69, 3) := by decide +kernel
theorem dX3_parentOf_5 : decode cX3_parentOf 5 = .ok (.aload_n 0, 1) := by decide +kernel
theorem dX3_parentOf_6 : decode cX3_parentOf 6 = .ok (.getfield 10, 3) := by decide +kernel
theorem dX3_parentOf_9 : decode cX3_parentOf 9 = .ok (.getfield 73, 3) := by decide +kernel
theorem dX3_parentOf_12 : decode cX3_parentOf 12 = .ok (.iload_n 1, 1) := by decide +kernel
theorem dX3_parentOf_13 : decode cX3_parentOf 13 = .ok (.iaload, 1) := by decide +kernel
theorem dX3_parentOf_14 : decode cX3_parentOf 14 = .ok (.ireturn, 1) := by decide +kernel
theorem dX3_tagsAbove_0 : decode cX3_tagsAbove 0 = .ok (.aload_n 0, 1) := by decide +kernel
theorem dX3_tagsAbove_1 : decode cX3_tagsAbove 1 = .ok (.iload_n 1, 1) := by decide +kernel
theorem dX3_tagsAbove_2 : decode cX3_tagsAbove 2 = .ok (.invokevirtual 76, 3) := by decide +kernel
theorem dX3_tagsAbove_5 : decode cX3_tagsAbove 5 = .ok (.aload_n 0, 1) := by decide +kernel
theorem dX3_tagsAbove_6 : decode cX3_tagsAbove 6 = .ok (.getfield 10, 3) := by decide +kernel
theorem dX3_tagsAbove_9 : decode cX3_tagsAbove 9 = .ok (.iload_n 1, 1) := by decide +kernel
theorem dX3_tagsAbove_10 : decode cX3_tagsAbove 10 = .ok (.invokevirtual 65, 3) := by decide +kernel
theorem dX3_tagsAbove_13 : decode cX3_tagsAbove 13 = .ok (.ireturn, 1) := by decide +kernel
theorem dX3_tagsBelow_0 : decode cX3_tagsBelow 0 = .ok (.aload_n 0, 1) := by decide +kernel
theorem dX3_tagsBelow_1 : decode cX3_tagsBelow 1 = .ok (.iload_n 1, 1) := by decide +kernel
theorem dX3_tagsBelow_2 : decode cX3_tagsBelow 2 = .ok (.invokevirtual 76, 3) := by decide +kernel
theorem dX3_tagsBelow_5 : decode cX3_tagsBelow 5 = .ok (.aload_n 0, 1) := by decide +kernel
theorem dX3_tagsBelow_6 : decode cX3_tagsBelow 6 = .ok (.getfield 10, 3) := by decide +kernel
theorem dX3_tagsBelow_9 : decode cX3_tagsBelow 9 = .ok (.iload_n 1, 1) := by decide +kernel
theorem dX3_tagsBelow_10 : decode cX3_tagsBelow 10 = .ok (.invokevirtual 136, 3) := by decide +kernel
theorem dX3_tagsBelow_13 : decode cX3_tagsBelow 13 = .ok (.ireturn, 1) := by decide +kernel
theorem dX3_isBelow_0 : decode cX3_isBelow 0 = .ok (.aload_n 0, 1) := by decide +kernel
theorem dX3_isBelow_1 : decode cX3_isBelow 1 = .ok (.iload_n 1, 1) := by decide +kernel
theorem dX3_isBelow_2 : decode cX3_isBelow 2 = .ok (.invokevirtual 76, 3) := by decide +kernel
theorem dX3_isBelow_5 : decode cX3_isBelow 5 = .ok (.aload_n 0, 1) := by decide +kernel
theorem dX3_isBelow_6 : decode cX3_isBelow 6 = .ok (.iload_n 2, 1) := by decide +kernel
theorem dX3_isBelow_7 : decode cX3_isBelow 7 = .ok (.invokevirtual 76, 3) := by decide +kernel
theorem dX3_isBelow_10 : decode cX3_isBelow 10 = .ok (.aload_n 0, 1) := by decide +kernel
theorem dX3_isBelow_11 : decode cX3_isBelow 11 = .ok (.getfield 10, 3) := by decide +kernel
theorem dX3_isBelow_14 : decode cX3_isBelow 14 = .ok (.iload_n 1, 1) := by decide +kernel
theorem dX3_isBelow_15 : decode cX3_isBelow 15 = .ok (.iload_n 2, 1) := by decide +kernel
theorem dX3_isBelow_16 : decode cX3_isBelow 16 = .ok (.invokevirtual 139, 3) := by decide +kernel
theorem dX3_isBelow_19 : decode cX3_isBelow 19 = .ok (.ireturn, 1) := by decide +kernel
theorem dX3_nearestAbove_0 : decode cX3_nearestAbove 0 = .ok (.aload_n 0, 1) := by decide +kernel
theorem dX3_nearestAbove_1 : decode cX3_nearestAbove 1 = .ok (.iload_n 1, 1) := by decide +kernel
theorem dX3_nearestAbove_2 : decode cX3_nearestAbove 2 = .ok (.invokevirtual 76, 3) := by decide +kernel
theorem dX3_nearestAbove_5 : decode cX3_nearestAbove 5 = .ok (.aload_n 0, 1) := by decide +kernel
theorem dX3_nearestAbove_6 : decode cX3_nearestAbove 6 = .ok (.iload_n 2, 1) := by decide +kernel
theorem dX3_nearestAbove_7 : decode cX3_nearestAbove 7 = .ok (.invokevirtual 76, 3) := by decide +kernel
theorem dX3_nearestAbove_10 : decode cX3_nearestAbove 10 = .ok (.aload_n 0, 1) := by decide +kernel
theorem dX3_nearestAbove_11 : decode cX3_nearestAbove 11 = .ok (.getfield 10, 3) := by decide +kernel
theorem dX3_nearestAbove_14 : decode cX3_nearestAbove 14 = .ok (.aload_n 0, 1) := by decide +kernel
theorem dX3_nearestAbove_15 : decode cX3_nearestAbove 15 = .ok (.getfield 10, 3) := by decide +kernel
theorem dX3_nearestAbove_18 : decode cX3_nearestAbove 18 = .ok (.getfield 142, 3) := by decide +kernel
theorem dX3_nearestAbove_21 : decode cX3_nearestAbove 21 = .ok (.iload_n 1, 1) := by decide +kernel
theorem dX3_nearestAbove_22 : decode cX3_nearestAbove 22 = .ok (.iaload, 1) := by decide +kernel
theorem dX3_nearestAbove_23 : decode cX3_nearestAbove 23 = .ok (.aload_n 0, 1) := by decide +kernel
theorem dX3_nearestAbove_24 : decode cX3_nearestAbove 24 = .ok (.getfield 10, 3) := by decide +kernel
theorem dX3_nearestAbove_27 : decode cX3_nearestAbove 27 = .ok (.getfield 142, 3) := by decide +kernel
theorem dX3_nearestAbove_30 : decode cX3_nearestAbove 30 = .ok (.iload_n 2, 1) := by decide +kernel
theorem dX3_nearestAbove_31 : decode cX3_nearestAbove 31 = .ok (.iaload, 1) := by decide +kernel
theorem dX3_nearestAbove_32 : decode cX3_nearestAbove 32 = .ok (.iand, 1) := by decide +kernel
theorem dX3_nearestAbove_33 : decode cX3_nearestAbove 33 = .ok (.invokevirtual 145, 3) := by decide +kernel
theorem dX3_nearestAbove_36 : decode cX3_nearestAbove 36 = .ok (.ireturn, 1) := by decide +kernel
theorem dX3_dreamsWith_0 : decode cX3_dreamsWith 0 = .ok (.aload_n 0, 1) := by decide +kernel
theorem dX3_dreamsWith_1 : decode cX3_dreamsWith 1 = .ok (.iload_n 1, 1) := by decide +kernel
theorem dX3_dreamsWith_2 : decode cX3_dreamsWith 2 = .ok (.invokevirtual 76, 3) := by decide +kernel
theorem dX3_dreamsWith_5 : decode cX3_dreamsWith 5 = .ok (.aload_n 0, 1) := by decide +kernel
theorem dX3_dreamsWith_6 : decode cX3_dreamsWith 6 = .ok (.iload_n 1, 1) := by decide +kernel
theorem dX3_dreamsWith_7 : decode cX3_dreamsWith 7 = .ok (.invokevirtual 148, 3) := by decide +kernel
theorem dX3_dreamsWith_10 : decode cX3_dreamsWith 10 = .ok (.invokestatic 104, 3) := by decide +kernel
theorem dX3_dreamsWith_13 : decode cX3_dreamsWith 13 = .ok (.ireturn, 1) := by decide +kernel
theorem dX3_hasOwnTag_0 : decode cX3_hasOwnTag 0 = .ok (.aload_n 0, 1) := by decide +kernel
theorem dX3_hasOwnTag_1 : decode cX3_hasOwnTag 1 = .ok (.iload_n 1, 1) := by decide +kernel
theorem dX3_hasOwnTag_2 : decode cX3_hasOwnTag 2 = .ok (.invokevirtual 95, 3) := by decide +kernel
theorem dX3_hasOwnTag_5 : decode cX3_hasOwnTag 5 = .ok (.aload_n 0, 1) := by decide +kernel
theorem dX3_hasOwnTag_6 : decode cX3_hasOwnTag 6 = .ok (.iload_n 2, 1) := by decide +kernel
theorem dX3_hasOwnTag_7 : decode cX3_hasOwnTag 7 = .ok (.invokevirtual 76, 3) := by decide +kernel
theorem dX3_hasOwnTag_10 : decode cX3_hasOwnTag 10 = .ok (.iload_n 2, 1) := by decide +kernel
theorem dX3_hasOwnTag_11 : decode cX3_hasOwnTag 11 = .ok (.aload_n 0, 1) := by decide +kernel
theorem dX3_hasOwnTag_12 : decode cX3_hasOwnTag 12 = .ok (.getfield 30, 3) := by decide +kernel
theorem dX3_hasOwnTag_15 : decode cX3_hasOwnTag 15 = .ok (.iload_n 1, 1) := by decide +kernel
theorem dX3_hasOwnTag_16 : decode cX3_hasOwnTag 16 = .ok (.iaload, 1) := by decide +kernel
theorem dX3_hasOwnTag_17 : decode cX3_hasOwnTag 17 = .ok (.invokestatic 98, 3) := by decide +kernel
theorem dX3_hasOwnTag_20 : decode cX3_hasOwnTag 20 = .ok (.ireturn, 1) := by decide +kernel
theorem dX3_hasTag_0 : decode cX3_hasTag 0 = .ok (.aload_n 0, 1) := by decide +kernel
theorem dX3_hasTag_1 : decode cX3_hasTag 1 = .ok (.iload_n 1, 1) := by decide +kernel
theorem dX3_hasTag_2 : decode cX3_hasTag 2 = .ok (.invokevirtual 95, 3) := by decide +kernel
theorem dX3_hasTag_5 : decode cX3_hasTag 5 = .ok (.aload_n 0, 1) := by decide +kernel
theorem dX3_hasTag_6 : decode cX3_hasTag 6 = .ok (.iload_n 2, 1) := by decide +kernel
theorem dX3_hasTag_7 : decode cX3_hasTag 7 = .ok (.invokevirtual 76, 3) := by decide +kernel
theorem dX3_hasTag_10 : decode cX3_hasTag 10 = .ok (.iload_n 2, 1) := by decide +kernel
theorem dX3_hasTag_11 : decode cX3_hasTag 11 = .ok (.aload_n 0, 1) := by decide +kernel
theorem dX3_hasTag_12 : decode cX3_hasTag 12 = .ok (.getfield 34, 3) := by decide +kernel
theorem dX3_hasTag_15 : decode cX3_hasTag 15 = .ok (.iload_n 1, 1) := by decide +kernel
theorem dX3_hasTag_16 : decode cX3_hasTag 16 = .ok (.iaload, 1) := by decide +kernel
theorem dX3_hasTag_17 : decode cX3_hasTag 17 = .ok (.invokestatic 98, 3) := by decide +kernel
theorem dX3_hasTag_20 : decode cX3_hasTag 20 = .ok (.ireturn, 1) := by decide +kernel
theorem dX3_tagsOf_0 : decode cX3_tagsOf 0 = .ok (.aload_n 0, 1) := by decide +kernel
theorem dX3_tagsOf_1 : decode cX3_tagsOf 1 = .ok (.iload_n 1, 1) := by decide +kernel
theorem dX3_tagsOf_2 : decode cX3_tagsOf 2 = .ok (.invokevirtual 95, 3) := by decide +kernel
theorem dX3_tagsOf_5 : decode cX3_tagsOf 5 = .ok (.aload_n 0, 1) := by decide +kernel
theorem dX3_tagsOf_6 : decode cX3_tagsOf 6 = .ok (.getfield 34, 3) := by decide +kernel
theorem dX3_tagsOf_9 : decode cX3_tagsOf 9 = .ok (.iload_n 1, 1) := by decide +kernel
theorem dX3_tagsOf_10 : decode cX3_tagsOf 10 = .ok (.iaload, 1) := by decide +kernel
theorem dX3_tagsOf_11 : decode cX3_tagsOf 11 = .ok (.invokestatic 104, 3) := by decide +kernel
theorem dX3_tagsOf_14 : decode cX3_tagsOf 14 = .ok (.ireturn, 1) := by decide +kernel
theorem dX3_vividnessOf_0 : decode cX3_vividnessOf 0 = .ok (.aload_n 0, 1) := by decide +kernel
theorem dX3_vividnessOf_1 : decode cX3_vividnessOf 1 = .ok (.iload_n 1, 1) := by decide +kernel
theorem dX3_vividnessOf_2 : decode cX3_vividnessOf 2 = .ok (.invokevirtual 95, 3) := by decide +kernel
theorem dX3_vividnessOf_5 : decode cX3_vividnessOf 5 = .ok (.aload_n 0, 1) := by decide +kernel
theorem dX3_vividnessOf_6 : decode cX3_vividnessOf 6 = .ok (.getfield 37, 3) := by decide +kernel
theorem dX3_vividnessOf_9 : decode cX3_vividnessOf 9 = .ok (.iload_n 1, 1) := by decide +kernel
theorem dX3_vividnessOf_10 : decode cX3_vividnessOf 10 = .ok (.iaload, 1) := by decide +kernel
theorem dX3_vividnessOf_11 : decode cX3_vividnessOf 11 = .ok (.ireturn, 1) := by decide +kernel
theorem dX3_nightOf_0 : decode cX3_nightOf 0 = .ok (.aload_n 0, 1) := by decide +kernel
theorem dX3_nightOf_1 : decode cX3_nightOf 1 = .ok (.iload_n 1, 1) := by decide +kernel
theorem dX3_nightOf_2 : decode cX3_nightOf 2 = .ok (.invokevirtual 95, 3) := by decide +kernel
theorem dX3_nightOf_5 : decode cX3_nightOf 5 = .ok (.aload_n 0, 1) := by decide +kernel
theorem dX3_nightOf_6 : decode cX3_nightOf 6 = .ok (.getfield 40, 3) := by decide +kernel
theorem dX3_nightOf_9 : decode cX3_nightOf 9 = .ok (.iload_n 1, 1) := by decide +kernel
theorem dX3_nightOf_10 : decode cX3_nightOf 10 = .ok (.iaload, 1) := by decide +kernel
theorem dX3_nightOf_11 : decode cX3_nightOf 11 = .ok (.ireturn, 1) := by decide +kernel
theorem dX3_matches_0 : decode cX3_matches 0 = .ok (.aload_n 0, 1) := by decide +kernel
theorem dX3_matches_1 : decode cX3_matches 1 = .ok (.iload_n 1, 1) := by decide +kernel
theorem dX3_matches_2 : decode cX3_matches 2 = .ok (.invokevirtual 132, 3) := by decide +kernel
theorem dX3_matches_5 : decode cX3_matches 5 = .ok (.aload_n 0, 1) := by decide +kernel
theorem dX3_matches_6 : decode cX3_matches 6 = .ok (.iload_n 2, 1) := by decide +kernel
theorem dX3_matches_7 : decode cX3_matches 7 = .ok (.invokevirtual 95, 3) := by decide +kernel
theorem dX3_matches_10 : decode cX3_matches 10 = .ok (.iload_n 2, 1) := by decide +kernel
theorem dX3_matches_11 : decode cX3_matches 11 = .ok (.aload_n 0, 1) := by decide +kernel
theorem dX3_matches_12 : decode cX3_matches 12 = .ok (.getfield 19, 3) := by decide +kernel
theorem dX3_matches_15 : decode cX3_matches 15 = .ok (.getfield 151, 3) := by decide +kernel
theorem dX3_matches_18 : decode cX3_matches 18 = .ok (.iload_n 1, 1) := by decide +kernel
theorem dX3_matches_19 : decode cX3_matches 19 = .ok (.iaload, 1) := by decide +kernel
theorem dX3_matches_20 : decode cX3_matches 20 = .ok (.invokestatic 98, 3) := by decide +kernel
theorem dX3_matches_23 : decode cX3_matches 23 = .ok (.ireturn, 1) := by decide +kernel
theorem dX3_matchesOf_0 : decode cX3_matchesOf 0 = .ok (.aload_n 0, 1) := by decide +kernel
theorem dX3_matchesOf_1 : decode cX3_matchesOf 1 = .ok (.iload_n 1, 1) := by decide +kernel
theorem dX3_matchesOf_2 : decode cX3_matchesOf 2 = .ok (.invokevirtual 132, 3) := by decide +kernel
theorem dX3_matchesOf_5 : decode cX3_matchesOf 5 = .ok (.aload_n 0, 1) := by decide +kernel
theorem dX3_matchesOf_6 : decode cX3_matchesOf 6 = .ok (.getfield 19, 3) := by decide +kernel
theorem dX3_matchesOf_9 : decode cX3_matchesOf 9 = .ok (.getfield 151, 3) := by decide +kernel
theorem dX3_matchesOf_12 : decode cX3_matchesOf 12 = .ok (.iload_n 1, 1) := by decide +kernel
theorem dX3_matchesOf_13 : decode cX3_matchesOf 13 = .ok (.iaload, 1) := by decide +kernel
theorem dX3_matchesOf_14 : decode cX3_matchesOf 14 = .ok (.invokestatic 104, 3) := by decide +kernel
theorem dX3_matchesOf_17 : decode cX3_matchesOf 17 = .ok (.ireturn, 1) := by decide +kernel
theorem dX3_mostVivid_0 : decode cX3_mostVivid 0 = .ok (.aload_n 0, 1) := by decide +kernel
theorem dX3_mostVivid_1 : decode cX3_mostVivid 1 = .ok (.iload_n 1, 1) := by decide +kernel
theorem dX3_mostVivid_2 : decode cX3_mostVivid 2 = .ok (.invokevirtual 132, 3) := by decide +kernel
theorem dX3_mostVivid_5 : decode cX3_mostVivid 5 = .ok (.aload_n 0, 1) := by decide +kernel
theorem dX3_mostVivid_6 : decode cX3_mostVivid 6 = .ok (.aload_n 0, 1) := by decide +kernel
theorem dX3_mostVivid_7 : decode cX3_mostVivid 7 = .ok (.getfield 19, 3) := by decide +kernel
theorem dX3_mostVivid_10 : decode cX3_mostVivid 10 = .ok (.getfield 151, 3) := by decide +kernel
theorem dX3_mostVivid_13 : decode cX3_mostVivid 13 = .ok (.iload_n 1, 1) := by decide +kernel
theorem dX3_mostVivid_14 : decode cX3_mostVivid 14 = .ok (.iaload, 1) := by decide +kernel
theorem dX3_mostVivid_15 : decode cX3_mostVivid 15 = .ok (.invokevirtual 154, 3) := by decide +kernel
theorem dX3_mostVivid_18 : decode cX3_mostVivid 18 = .ok (.ireturn, 1) := by decide +kernel
theorem dX3_commonTags_0 : decode cX3_commonTags 0 = .ok (.aload_n 0, 1) := by decide +kernel
theorem dX3_commonTags_1 : decode cX3_commonTags 1 = .ok (.iload_n 1, 1) := by decide +kernel
theorem dX3_commonTags_2 : decode cX3_commonTags 2 = .ok (.invokevirtual 132, 3) := by decide +kernel
theorem dX3_commonTags_5 : decode cX3_commonTags 5 = .ok (.aload_n 0, 1) := by decide +kernel
theorem dX3_commonTags_6 : decode cX3_commonTags 6 = .ok (.aload_n 0, 1) := by decide +kernel
theorem dX3_commonTags_7 : decode cX3_commonTags 7 = .ok (.getfield 19, 3) := by decide +kernel
theorem dX3_commonTags_10 : decode cX3_commonTags 10 = .ok (.getfield 151, 3) := by decide +kernel
theorem dX3_commonTags_13 : decode cX3_commonTags 13 = .ok (.iload_n 1, 1) := by decide +kernel
theorem dX3_commonTags_14 : decode cX3_commonTags 14 = .ok (.iaload, 1) := by decide +kernel
theorem dX3_commonTags_15 : decode cX3_commonTags 15 = .ok (.invokevirtual 157, 3) := by decide +kernel
theorem dX3_commonTags_18 : decode cX3_commonTags 18 = .ok (.invokestatic 104, 3) := by decide +kernel
theorem dX3_commonTags_21 : decode cX3_commonTags 21 = .ok (.ireturn, 1) := by decide +kernel
theorem dX3_matchSame_0 : decode cX3_matchSame 0 = .ok (.aload_n 0, 1) := by decide +kernel
theorem dX3_matchSame_1 : decode cX3_matchSame 1 = .ok (.iload_n 1, 1) := by decide +kernel
theorem dX3_matchSame_2 : decode cX3_matchSame 2 = .ok (.invokevirtual 132, 3) := by decide +kernel
theorem dX3_matchSame_5 : decode cX3_matchSame 5 = .ok (.aload_n 0, 1) := by decide +kernel
theorem dX3_matchSame_6 : decode cX3_matchSame 6 = .ok (.iload_n 2, 1) := by decide +kernel
theorem dX3_matchSame_7 : decode cX3_matchSame 7 = .ok (.invokevirtual 132, 3) := by decide +kernel
theorem dX3_matchSame_10 : decode cX3_matchSame 10 = .ok (.aload_n 0, 1) := by decide +kernel
theorem dX3_matchSame_11 : decode cX3_matchSame 11 = .ok (.getfield 19, 3) := by decide +kernel
theorem dX3_matchSame_14 : decode cX3_matchSame 14 = .ok (.getfield 151, 3) := by decide +kernel
theorem dX3_matchSame_17 : decode cX3_matchSame 17 = .ok (.iload_n 1, 1) := by decide +kernel
theorem dX3_matchSame_18 : decode cX3_matchSame 18 = .ok (.iaload, 1) := by decide +kernel
theorem dX3_matchSame_19 : decode cX3_matchSame 19 = .ok (.aload_n 0, 1) := by decide +kernel
theorem dX3_matchSame_20 : decode cX3_matchSame 20 = .ok (.getfield 19, 3) := by decide +kernel
theorem dX3_matchSame_23 : decode cX3_matchSame 23 = .ok (.getfield 151, 3) := by decide +kernel
theorem dX3_matchSame_26 : decode cX3_matchSame 26 = .ok (.iload_n 2, 1) := by decide +kernel
theorem dX3_matchSame_27 : decode cX3_matchSame 27 = .ok (.iaload, 1) := by decide +kernel
theorem dX3_matchSame_28 : decode cX3_matchSame 28 = .ok (.if_icmp .ne 7, 3) := by decide +kernel
theorem dX3_matchSame_31 : decode cX3_matchSame 31 = .ok (.iconst 1, 1) := by decide +kernel
theorem dX3_matchSame_32 : decode cX3_matchSame 32 = .ok (.goto 4, 3) := by decide +kernel
theorem dX3_matchSame_35 : decode cX3_matchSame 35 = .ok (.iconst 0, 1) := by decide +kernel
theorem dX3_matchSame_36 : decode cX3_matchSame 36 = .ok (.ireturn, 1) := by decide +kernel
theorem dX3_coverSize_0 : decode cX3_coverSize 0 = .ok (.aload_n 0, 1) := by decide +kernel
theorem dX3_coverSize_1 : decode cX3_coverSize 1 = .ok (.iload_n 1, 1) := by decide +kernel
theorem dX3_coverSize_2 : decode cX3_coverSize 2 = .ok (.invokevirtual 132, 3) := by decide +kernel
theorem dX3_coverSize_5 : decode cX3_coverSize 5 = .ok (.aload_n 0, 1) := by decide +kernel
theorem dX3_coverSize_6 : decode cX3_coverSize 6 = .ok (.iload_n 1, 1) := by decide +kernel
theorem dX3_coverSize_7 : decode cX3_coverSize 7 = .ok (.invokevirtual 160, 3) := by decide +kernel
theorem dX3_coverSize_10 : decode cX3_coverSize 10 = .ok (.invokestatic 104, 3) := by decide +kernel
theorem dX3_coverSize_13 : decode cX3_coverSize 13 = .ok (.ireturn, 1) := by decide +kernel
theorem dX3_coverTag_0 : decode cX3_coverTag 0 = .ok (.aload_n 0, 1) := by decide +kernel
theorem dX3_coverTag_1 : decode cX3_coverTag 1 = .ok (.iload_n 1, 1) := by decide +kernel
theorem dX3_coverTag_2 : decode cX3_coverTag 2 = .ok (.invokevirtual 132, 3) := by decide +kernel
theorem dX3_coverTag_5 : decode cX3_coverTag 5 = .ok (.aload_n 0, 1) := by decide +kernel
theorem dX3_coverTag_6 : decode cX3_coverTag 6 = .ok (.iload_n 1, 1) := by decide +kernel
theorem dX3_coverTag_7 : decode cX3_coverTag 7 = .ok (.invokevirtual 160, 3) := by decide +kernel
theorem dX3_coverTag_10 : decode cX3_coverTag 10 = .ok (.iload_n 2, 1) := by decide +kernel
theorem dX3_coverTag_11 : decode cX3_coverTag 11 = .ok (.invokestatic 163, 3) := by decide +kernel
theorem dX3_coverTag_14 : decode cX3_coverTag 14 = .ok (.istore_n 3, 1) := by decide +kernel
theorem dX3_coverTag_15 : decode cX3_coverTag 15 = .ok (.iload_n 3, 1) := by decide +kernel
theorem dX3_coverTag_16 : decode cX3_coverTag 16 = .ok (.iconst (-1), 1) := by decide +kernel
theorem dX3_coverTag_17 : decode cX3_coverTag 17 = .ok (.if_icmp .ne 13, 3) := by decide +kernel
theorem dX3_coverTag_20 : decode cX3_coverTag 20 = .ok (.new 166, 3) := by decide +kernel
theorem dX3_coverTag_23 : decode cX3_coverTag 23 = .ok (.dup, 1) := by decide +kernel
theorem dX3_coverTag_24 : decode cX3_coverTag 24 = .ok (.ldc 168, 2) := by decide +kernel
theorem dX3_coverTag_26 : decode cX3_coverTag 26 = .ok (.invokespecial 170, 3) := by decide +kernel
theorem dX3_coverTag_29 : decode cX3_coverTag 29 = .ok (.athrow, 1) := by decide +kernel
theorem dX3_coverTag_30 : decode cX3_coverTag 30 = .ok (.iload_n 3, 1) := by decide +kernel
theorem dX3_coverTag_31 : decode cX3_coverTag 31 = .ok (.ireturn, 1) := by decide +kernel
theorem dX3_tags_0 : decode cX3_tags 0 = .ok (.aload_n 0, 1) := by decide +kernel
theorem dX3_tags_1 : decode cX3_tags 1 = .ok (.getfield 10, 3) := by decide +kernel
theorem dX3_tags_4 : decode cX3_tags 4 = .ok (.getfield 43, 3) := by decide +kernel
theorem dX3_tags_7 : decode cX3_tags 7 = .ok (.ireturn, 1) := by decide +kernel
theorem dX3_dreams_0 : decode cX3_dreams 0 = .ok (.aload_n 0, 1) := by decide +kernel
theorem dX3_dreams_1 : decode cX3_dreams 1 = .ok (.getfield 84, 3) := by decide +kernel
theorem dX3_dreams_4 : decode cX3_dreams 4 = .ok (.ireturn, 1) := by decide +kernel
theorem dX3_terms_0 : decode cX3_terms 0 = .ok (.aload_n 0, 1) := by decide +kernel
theorem dX3_terms_1 : decode cX3_terms 1 = .ok (.getfield 19, 3) := by decide +kernel
theorem dX3_terms_4 : decode cX3_terms 4 = .ok (.getfield 135, 3) := by decide +kernel
theorem dX3_terms_7 : decode cX3_terms 7 = .ok (.ireturn, 1) := by decide +kernel
theorem dX3_nights_0 : decode cX3_nights 0 = .ok (.aload_n 0, 1) := by decide +kernel
theorem dX3_nights_1 : decode cX3_nights 1 = .ok (.getfield 89, 3) := by decide +kernel
theorem dX3_nights_4 : decode cX3_nights 4 = .ok (.ireturn, 1) := by decide +kernel
theorem dX3_fadedDreams_0 : decode cX3_fadedDreams 0 = .ok (.aload_n 0, 1) := by decide +kernel
theorem dX3_fadedDreams_1 : decode cX3_fadedDreams 1 = .ok (.iconst 0, 1) := by decide +kernel
theorem dX3_fadedDreams_2 : decode cX3_fadedDreams 2 = .ok (.invokevirtual 122, 3) := by decide +kernel
theorem dX3_fadedDreams_5 : decode cX3_fadedDreams 5 = .ok (.ireturn, 1) := by decide +kernel
theorem dX3_fadedAfter_0 : decode cX3_fadedAfter 0 = .ok (.aload_n 0, 1) := by decide +kernel
theorem dX3_fadedAfter_1 : decode cX3_fadedAfter 1 = .ok (.iload_n 1, 1) := by decide +kernel
theorem dX3_fadedAfter_2 : decode cX3_fadedAfter 2 = .ok (.invokevirtual 115, 3) := by decide +kernel
theorem dX3_fadedAfter_5 : decode cX3_fadedAfter 5 = .ok (.aload_n 0, 1) := by decide +kernel
theorem dX3_fadedAfter_6 : decode cX3_fadedAfter 6 = .ok (.iload_n 1, 1) := by decide +kernel
theorem dX3_fadedAfter_7 : decode cX3_fadedAfter 7 = .ok (.invokevirtual 122, 3) := by decide +kernel
theorem dX3_fadedAfter_10 : decode cX3_fadedAfter 10 = .ok (.ireturn, 1) := by decide +kernel
theorem dX3_matchesIfUnder_0 : decode cX3_matchesIfUnder 0 = .ok (.aload_n 0, 1) := by decide +kernel
theorem dX3_matchesIfUnder_1 : decode cX3_matchesIfUnder 1 = .ok (.iload_n 1, 1) := by decide +kernel
theorem dX3_matchesIfUnder_2 : decode cX3_matchesIfUnder 2 = .ok (.invokevirtual 132, 3) := by decide +kernel
theorem dX3_matchesIfUnder_5 : decode cX3_matchesIfUnder 5 = .ok (.aload_n 0, 1) := by decide +kernel
theorem dX3_matchesIfUnder_6 : decode cX3_matchesIfUnder 6 = .ok (.iload_n 2, 1) := by decide +kernel
theorem dX3_matchesIfUnder_7 : decode cX3_matchesIfUnder 7 = .ok (.iload_n 3, 1) := by decide +kernel
theorem dX3_matchesIfUnder_8 : decode cX3_matchesIfUnder 8 = .ok (.invokevirtual 58, 3) := by decide +kernel
theorem dX3_matchesIfUnder_11 : decode cX3_matchesIfUnder 11 = .ok (.aload_n 0, 1) := by decide +kernel
theorem dX3_matchesIfUnder_12 : decode cX3_matchesIfUnder 12 = .ok (.iload_n 1, 1) := by decide +kernel
theorem dX3_matchesIfUnder_13 : decode cX3_matchesIfUnder 13 = .ok (.iload_n 2, 1) := by decide +kernel
theorem dX3_matchesIfUnder_14 : decode cX3_matchesIfUnder 14 = .ok (.iload_n 3, 1) := by decide +kernel
theorem dX3_matchesIfUnder_15 : decode cX3_matchesIfUnder 15 = .ok (.invokevirtual 171, 3) := by decide +kernel
theorem dX3_matchesIfUnder_18 : decode cX3_matchesIfUnder 18 = .ok (.ireturn, 1) := by decide +kernel
theorem dX3_bestParent_0 : decode cX3_bestParent 0 = .ok (.aload_n 0, 1) := by decide +kernel
theorem dX3_bestParent_1 : decode cX3_bestParent 1 = .ok (.iload_n 1, 1) := by decide +kernel
theorem dX3_bestParent_2 : decode cX3_bestParent 2 = .ok (.invokevirtual 132, 3) := by decide +kernel
theorem dX3_bestParent_5 : decode cX3_bestParent 5 = .ok (.aload_n 0, 1) := by decide +kernel
theorem dX3_bestParent_6 : decode cX3_bestParent 6 = .ok (.iload_n 2, 1) := by decide +kernel
theorem dX3_bestParent_7 : decode cX3_bestParent 7 = .ok (.invokevirtual 76, 3) := by decide +kernel
theorem dX3_bestParent_10 : decode cX3_bestParent 10 = .ok (.iconst (-1), 1) := by decide +kernel
theorem dX3_bestParent_11 : decode cX3_bestParent 11 = .ok (.istore_n 3, 1) := by decide +kernel
theorem dX3_bestParent_12 : decode cX3_bestParent 12 = .ok (.aload_n 0, 1) := by decide +kernel
theorem dX3_bestParent_13 : decode cX3_bestParent 13 = .ok (.getfield 19, 3) := by decide +kernel
theorem dX3_bestParent_16 : decode cX3_bestParent 16 = .ok (.getfield 151, 3) := by decide +kernel
theorem dX3_bestParent_19 : decode cX3_bestParent 19 = .ok (.iload_n 1, 1) := by decide +kernel
theorem dX3_bestParent_20 : decode cX3_bestParent 20 = .ok (.iaload, 1) := by decide +kernel
theorem dX3_bestParent_21 : decode cX3_bestParent 21 = .ok (.invokestatic 104, 3) := by decide +kernel
theorem dX3_bestParent_24 : decode cX3_bestParent 24 = .ok (.istore 4, 2) := by decide +kernel
theorem dX3_bestParent_26 : decode cX3_bestParent 26 = .ok (.iconst 0, 1) := by decide +kernel
theorem dX3_bestParent_27 : decode cX3_bestParent 27 = .ok (.istore 5, 2) := by decide +kernel
theorem dX3_bestParent_29 : decode cX3_bestParent 29 = .ok (.iload 5, 2) := by decide +kernel
theorem dX3_bestParent_31 : decode cX3_bestParent 31 = .ok (.aload_n 0, 1) := by decide +kernel
theorem dX3_bestParent_32 : decode cX3_bestParent 32 = .ok (.getfield 10, 3) := by decide +kernel
theorem dX3_bestParent_35 : decode cX3_bestParent 35 = .ok (.getfield 43, 3) := by decide +kernel
theorem dX3_bestParent_38 : decode cX3_bestParent 38 = .ok (.if_icmp .ge 46, 3) := by decide +kernel
theorem dX3_bestParent_41 : decode cX3_bestParent 41 = .ok (.aload_n 0, 1) := by decide +kernel
theorem dX3_bestParent_42 : decode cX3_bestParent 42 = .ok (.getfield 10, 3) := by decide +kernel
theorem dX3_bestParent_45 : decode cX3_bestParent 45 = .ok (.iload_n 2, 1) := by decide +kernel
theorem dX3_bestParent_46 : decode cX3_bestParent 46 = .ok (.iload 5, 2) := by decide +kernel
theorem dX3_bestParent_48 : decode cX3_bestParent 48 = .ok (.invokevirtual 174, 3) := by decide +kernel
theorem dX3_bestParent_51 : decode cX3_bestParent 51 = .ok (.ifCond .eq 27, 3) := by decide +kernel
theorem dX3_bestParent_54 : decode cX3_bestParent 54 = .ok (.aload_n 0, 1) := by decide +kernel
theorem dX3_bestParent_55 : decode cX3_bestParent 55 = .ok (.iload_n 1, 1) := by decide +kernel
theorem dX3_bestParent_56 : decode cX3_bestParent 56 = .ok (.iload_n 2, 1) := by decide +kernel
theorem dX3_bestParent_57 : decode cX3_bestParent 57 = .ok (.iload 5, 2) := by decide +kernel
theorem dX3_bestParent_59 : decode cX3_bestParent 59 = .ok (.invokevirtual 171, 3) := by decide +kernel
theorem dX3_bestParent_62 : decode cX3_bestParent 62 = .ok (.istore 6, 2) := by decide +kernel
theorem dX3_bestParent_64 : decode cX3_bestParent 64 = .ok (.iload 6, 2) := by decide +kernel
theorem dX3_bestParent_66 : decode cX3_bestParent 66 = .ok (.iload 4, 2) := by decide +kernel
theorem dX3_bestParent_68 : decode cX3_bestParent 68 = .ok (.if_icmp .le 10, 3) := by decide +kernel
theorem dX3_bestParent_71 : decode cX3_bestParent 71 = .ok (.iload 6, 2) := by decide +kernel
theorem dX3_bestParent_73 : decode cX3_bestParent 73 = .ok (.istore 4, 2) := by decide +kernel
theorem dX3_bestParent_75 : decode cX3_bestParent 75 = .ok (.iload 5, 2) := by decide +kernel
theorem dX3_bestParent_77 : decode cX3_bestParent 77 = .ok (.istore_n 3, 1) := by decide +kernel
theorem dX3_bestParent_78 : decode cX3_bestParent 78 = .ok (.iinc 5 1, 3) := by decide +kernel
theorem dX3_bestParent_81 : decode cX3_bestParent 81 = .ok (.goto (-52), 3) := by decide +kernel
theorem dX3_bestParent_84 : decode cX3_bestParent 84 = .ok (.iload_n 3, 1) := by decide +kernel
theorem dX3_bestParent_85 : decode cX3_bestParent 85 = .ok (.ireturn, 1) := by decide +kernel
theorem dX3_meanVividness_0 : decode cX3_meanVividness 0 = .ok (.aload_n 0, 1) := by decide +kernel
theorem dX3_meanVividness_1 : decode cX3_meanVividness 1 = .ok (.getfield 84, 3) := by decide +kernel
theorem dX3_meanVividness_4 : decode cX3_meanVividness 4 = .ok (.ifCond .ne 5, 3) := by decide +kernel
theorem dX3_meanVividness_7 : decode cX3_meanVividness 7 = .ok (.dconst 0, 1) := by decide +kernel
theorem dX3_meanVividness_8 : decode cX3_meanVividness 8 = .ok (.dreturn, 1) := by decide +kernel
theorem dX3_meanVividness_9 : decode cX3_meanVividness 9 = .ok (.iconst 0, 1) := by decide +kernel
theorem dX3_meanVividness_10 : decode cX3_meanVividness 10 = .ok (.istore_n 1, 1) := by decide +kernel
theorem dX3_meanVividness_11 : decode cX3_meanVividness 11 = .ok (.iconst 0, 1) := by decide +kernel
theorem dX3_meanVividness_12 : decode cX3_meanVividness 12 = .ok (.istore_n 2, 1) := by decide +kernel
theorem dX3_meanVividness_13 : decode cX3_meanVividness 13 = .ok (.iload_n 2, 1) := by decide +kernel
theorem dX3_meanVividness_14 : decode cX3_meanVividness 14 = .ok (.aload_n 0, 1) := by decide +kernel
theorem dX3_meanVividness_15 : decode cX3_meanVividness 15 = .ok (.getfield 84, 3) := by decide +kernel
theorem dX3_meanVividness_18 : decode cX3_meanVividness 18 = .ok (.if_icmp .ge 18, 3) := by decide +kernel
theorem dX3_meanVividness_21 : decode cX3_meanVividness 21 = .ok (.iload_n 1, 1) := by decide +kernel
theorem dX3_meanVividness_22 : decode cX3_meanVividness 22 = .ok (.aload_n 0, 1) := by decide +kernel
theorem dX3_meanVividness_23 : decode cX3_meanVividness 23 = .ok (.getfield 37, 3) := by decide +kernel
theorem dX3_meanVividness_26 : decode cX3_meanVividness 26 = .ok (.iload_n 2, 1) := by decide +kernel
theorem dX3_meanVividness_27 : decode cX3_meanVividness 27 = .ok (.iaload, 1) := by decide +kernel
theorem dX3_meanVividness_28 : decode cX3_meanVividness 28 = .ok (.iadd, 1) := by decide +kernel
theorem dX3_meanVividness_29 : decode cX3_meanVividness 29 = .ok (.istore_n 1, 1) := by decide +kernel
theorem dX3_meanVividness_30 : decode cX3_meanVividness 30 = .ok (.iinc 2 1, 3) := by decide +kernel
theorem dX3_meanVividness_33 : decode cX3_meanVividness 33 = .ok (.goto (-20), 3) := by decide +kernel
theorem dX3_meanVividness_36 : decode cX3_meanVividness 36 = .ok (.iload_n 1, 1) := by decide +kernel
theorem dX3_meanVividness_37 : decode cX3_meanVividness 37 = .ok (.i2d, 1) := by decide +kernel
theorem dX3_meanVividness_38 : decode cX3_meanVividness 38 = .ok (.aload_n 0, 1) := by decide +kernel
theorem dX3_meanVividness_39 : decode cX3_meanVividness 39 = .ok (.getfield 84, 3) := by decide +kernel
theorem dX3_meanVividness_42 : decode cX3_meanVividness 42 = .ok (.i2d, 1) := by decide +kernel
theorem dX3_meanVividness_43 : decode cX3_meanVividness 43 = .ok (.ddiv, 1) := by decide +kernel
theorem dX3_meanVividness_44 : decode cX3_meanVividness 44 = .ok (.dreturn, 1) := by decide +kernel
theorem dX3_digest_0 : decode cX3_digest 0 = .ok (.ldc2_w 177, 3) := by decide +kernel
theorem dX3_digest_3 : decode cX3_digest 3 = .ok (.lstore_n 1, 1) := by decide +kernel
theorem dX3_digest_4 : decode cX3_digest 4 = .ok (.lload_n 1, 1) := by decide +kernel
theorem dX3_digest_5 : decode cX3_digest 5 = .ok (.aload_n 0, 1) := by decide +kernel
theorem dX3_digest_6 : decode cX3_digest 6 = .ok (.getfield 10, 3) := by decide +kernel
theorem dX3_digest_9 : decode cX3_digest 9 = .ok (.getfield 43, 3) := by decide +kernel
theorem dX3_digest_12 : decode cX3_digest 12 = .ok (.i2l, 1) := by decide +kernel
theorem dX3_digest_13 : decode cX3_digest 13 = .ok (.invokestatic 179, 3) := by decide +kernel
theorem dX3_digest_16 : decode cX3_digest 16 = .ok (.lstore_n 1, 1) := by decide +kernel
theorem dX3_digest_17 : decode cX3_digest 17 = .ok (.lload_n 1, 1) := by decide +kernel
theorem dX3_digest_18 : decode cX3_digest 18 = .ok (.aload_n 0, 1) := by decide +kernel
theorem dX3_digest_19 : decode cX3_digest 19 = .ok (.getfield 84, 3) := by decide +kernel
theorem dX3_digest_22 : decode cX3_digest 22 = .ok (.i2l, 1) := by decide +kernel
theorem dX3_digest_23 : decode cX3_digest 23 = .ok (.invokestatic 179, 3) := by decide +kernel
theorem dX3_digest_26 : decode cX3_digest 26 = .ok (.lstore_n 1, 1) := by decide +kernel
theorem dX3_digest_27 : decode cX3_digest 27 = .ok (.lload_n 1, 1) := by decide +kernel
theorem dX3_digest_28 : decode cX3_digest 28 = .ok (.aload_n 0, 1) := by decide +kernel
theorem dX3_digest_29 : decode cX3_digest 29 = .ok (.getfield 19, 3) := by decide +kernel
theorem dX3_digest_32 : decode cX3_digest 32 = .ok (.getfield 135, 3) := by decide +kernel
theorem dX3_digest_35 : decode cX3_digest 35 = .ok (.i2l, 1) := by decide +kernel
theorem dX3_digest_36 : decode cX3_digest 36 = .ok (.invokestatic 179, 3) := by decide +kernel
theorem dX3_digest_39 : decode cX3_digest 39 = .ok (.lstore_n 1, 1) := by decide +kernel
theorem dX3_digest_40 : decode cX3_digest 40 = .ok (.lload_n 1, 1) := by decide +kernel
theorem dX3_digest_41 : decode cX3_digest 41 = .ok (.aload_n 0, 1) := by decide +kernel
theorem dX3_digest_42 : decode cX3_digest 42 = .ok (.getfield 89, 3) := by decide +kernel
theorem dX3_digest_45 : decode cX3_digest 45 = .ok (.i2l, 1) := by decide +kernel
theorem dX3_digest_46 : decode cX3_digest 46 = .ok (.invokestatic 179, 3) := by decide +kernel
theorem dX3_digest_49 : decode cX3_digest 49 = .ok (.lstore_n 1, 1) := by decide +kernel
theorem dX3_digest_50 : decode cX3_digest 50 = .ok (.lload_n 1, 1) := by decide +kernel
theorem dX3_digest_51 : decode cX3_digest 51 = .ok (.aload_n 0, 1) := by decide +kernel
theorem dX3_digest_52 : decode cX3_digest 52 = .ok (.iconst 0, 1) := by decide +kernel
theorem dX3_digest_53 : decode cX3_digest 53 = .ok (.invokevirtual 122, 3) := by decide +kernel
theorem dX3_digest_56 : decode cX3_digest 56 = .ok (.i2l, 1) := by decide +kernel
theorem dX3_digest_57 : decode cX3_digest 57 = .ok (.invokestatic 179, 3) := by decide +kernel
theorem dX3_digest_60 : decode cX3_digest 60 = .ok (.lstore_n 1, 1) := by decide +kernel
theorem dX3_digest_61 : decode cX3_digest 61 = .ok (.iconst 0, 1) := by decide +kernel
theorem dX3_digest_62 : decode cX3_digest 62 = .ok (.istore_n 3, 1) := by decide +kernel
theorem dX3_digest_63 : decode cX3_digest 63 = .ok (.iload_n 3, 1) := by decide +kernel
theorem dX3_digest_64 : decode cX3_digest 64 = .ok (.aload_n 0, 1) := by decide +kernel
theorem dX3_digest_65 : decode cX3_digest 65 = .ok (.getfield 10, 3) := by decide +kernel
theorem dX3_digest_68 : decode cX3_digest 68 = .ok (.getfield 43, 3) := by decide +kernel
theorem dX3_digest_71 : decode cX3_digest 71 = .ok (.if_icmp .ge 16, 3) := by decide +kernel
theorem dX3_digest_74 : decode cX3_digest 74 = .ok (.aload_n 0, 1) := by decide +kernel
theorem dX3_digest_75 : decode cX3_digest 75 = .ok (.lload_n 1, 1) := by decide +kernel
theorem dX3_digest_76 : decode cX3_digest 76 = .ok (.iload_n 3, 1) := by decide +kernel
theorem dX3_digest_77 : decode cX3_digest 77 = .ok (.invokevirtual 183, 3) := by decide +kernel
theorem dX3_digest_80 : decode cX3_digest 80 = .ok (.lstore_n 1, 1) := by decide +kernel
theorem dX3_digest_81 : decode cX3_digest 81 = .ok (.iinc 3 1, 3) := by decide +kernel
theorem dX3_digest_84 : decode cX3_digest 84 = .ok (.goto (-21), 3) := by decide +kernel
theorem dX3_digest_87 : decode cX3_digest 87 = .ok (.iconst 0, 1) := by decide +kernel
theorem dX3_digest_88 : decode cX3_digest 88 = .ok (.istore_n 3, 1) := by decide +kernel
theorem dX3_digest_89 : decode cX3_digest 89 = .ok (.iload_n 3, 1) := by decide +kernel
theorem dX3_digest_90 : decode cX3_digest 90 = .ok (.aload_n 0, 1) := by decide +kernel
theorem dX3_digest_91 : decode cX3_digest 91 = .ok (.getfield 84, 3) := by decide +kernel
theorem dX3_digest_94 : decode cX3_digest 94 = .ok (.if_icmp .ge 16, 3) := by decide +kernel
theorem dX3_digest_97 : decode cX3_digest 97 = .ok (.aload_n 0, 1) := by decide +kernel
theorem dX3_digest_98 : decode cX3_digest 98 = .ok (.lload_n 1, 1) := by decide +kernel
theorem dX3_digest_99 : decode cX3_digest 99 = .ok (.iload_n 3, 1) := by decide +kernel
theorem dX3_digest_100 : decode cX3_digest 100 = .ok (.invokevirtual 187, 3) := by decide +kernel
theorem dX3_digest_103 : decode cX3_digest 103 = .ok (.lstore_n 1, 1) := by decide +kernel
theorem dX3_digest_104 : decode cX3_digest 104 = .ok (.iinc 3 1, 3) := by decide +kernel
theorem dX3_digest_107 : decode cX3_digest 107 = .ok (.goto (-18), 3) := by decide +kernel
theorem dX3_digest_110 : decode cX3_digest 110 = .ok (.iconst 0, 1) := by decide +kernel
theorem dX3_digest_111 : decode cX3_digest 111 = .ok (.istore_n 3, 1) := by decide +kernel
theorem dX3_digest_112 : decode cX3_digest 112 = .ok (.iload_n 3, 1) := by decide +kernel
theorem dX3_digest_113 : decode cX3_digest 113 = .ok (.aload_n 0, 1) := by decide +kernel
theorem dX3_digest_114 : decode cX3_digest 114 = .ok (.getfield 19, 3) := by decide +kernel
theorem dX3_digest_117 : decode cX3_digest 117 = .ok (.getfield 135, 3) := by decide +kernel
theorem dX3_digest_120 : decode cX3_digest 120 = .ok (.if_icmp .ge 16, 3) := by decide +kernel
theorem dX3_digest_123 : decode cX3_digest 123 = .ok (.aload_n 0, 1) := by decide +kernel
theorem dX3_digest_124 : decode cX3_digest 124 = .ok (.lload_n 1, 1) := by decide +kernel
theorem dX3_digest_125 : decode cX3_digest 125 = .ok (.iload_n 3, 1) := by decide +kernel
theorem dX3_digest_126 : decode cX3_digest 126 = .ok (.invokevirtual 190, 3) := by decide +kernel
theorem dX3_digest_129 : decode cX3_digest 129 = .ok (.lstore_n 1, 1) := by decide +kernel
theorem dX3_digest_130 : decode cX3_digest 130 = .ok (.iinc 3 1, 3) := by decide +kernel
theorem dX3_digest_133 : decode cX3_digest 133 = .ok (.goto (-21), 3) := by decide +kernel
theorem dX3_digest_136 : decode cX3_digest 136 = .ok (.lload_n 1, 1) := by decide +kernel
theorem dX3_digest_137 : decode cX3_digest 137 = .ok (.lreturn, 1) := by decide +kernel
theorem dX3_requireTag_0 : decode cX3_requireTag 0 = .ok (.iload_n 1, 1) := by decide +kernel
theorem dX3_requireTag_1 : decode cX3_requireTag 1 = .ok (.ifCond .lt 14, 3) := by decide +kernel
theorem dX3_requireTag_4 : decode cX3_requireTag 4 = .ok (.iload_n 1, 1) := by decide +kernel
theorem dX3_requireTag_5 : decode cX3_requireTag 5 = .ok (.aload_n 0, 1) := by decide +kernel
theorem dX3_requireTag_6 : decode cX3_requireTag 6 = .ok (.getfield 10, 3) := by decide +kernel
theorem dX3_requireTag_9 : decode cX3_requireTag 9 = .ok (.getfield 43, 3) := by decide +kernel
theorem dX3_requireTag_12 : decode cX3_requireTag 12 = .ok (.if_icmp .lt 13, 3) := by decide +kernel
theorem dX3_requireTag_15 : decode cX3_requireTag 15 = .ok (.new 166, 3) := by decide +kernel
theorem dX3_requireTag_18 : decode cX3_requireTag 18 = .ok (.dup, 1) := by decide +kernel
theorem dX3_requireTag_19 : decode cX3_requireTag 19 = .ok (.ldc 193, 2) := by decide +kernel
theorem dX3_requireTag_21 : decode cX3_requireTag 21 = .ok (.invokespecial 170, 3) := by decide +kernel
theorem dX3_requireTag_24 : decode cX3_requireTag 24 = .ok (.athrow, 1) := by decide +kernel
theorem dX3_requireTag_25 : decode cX3_requireTag 25 = .ok (.return_, 1) := by decide +kernel
theorem dX3_requireDream_0 : decode cX3_requireDream 0 = .ok (.iload_n 1, 1) := by decide +kernel
theorem dX3_requireDream_1 : decode cX3_requireDream 1 = .ok (.ifCond .lt 11, 3) := by decide +kernel
theorem dX3_requireDream_4 : decode cX3_requireDream 4 = .ok (.iload_n 1, 1) := by decide +kernel
theorem dX3_requireDream_5 : decode cX3_requireDream 5 = .ok (.aload_n 0, 1) := by decide +kernel
theorem dX3_requireDream_6 : decode cX3_requireDream 6 = .ok (.getfield 84, 3) := by decide +kernel
theorem dX3_requireDream_9 : decode cX3_requireDream 9 = .ok (.if_icmp .lt 13, 3) := by decide +kernel
theorem dX3_requireDream_12 : decode cX3_requireDream 12 = .ok (.new 166, 3) := by decide +kernel
theorem dX3_requireDream_15 : decode cX3_requireDream 15 = .ok (.dup, 1) := by decide +kernel
theorem dX3_requireDream_16 : decode cX3_requireDream 16 = .ok (.ldc 195, 2) := by decide +kernel
theorem dX3_requireDream_18 : decode cX3_requireDream 18 = .ok (.invokespecial 170, 3) := by decide +kernel
theorem dX3_requireDream_21 : decode cX3_requireDream 21 = .ok (.athrow, 1) := by decide +kernel
theorem dX3_requireDream_22 : decode cX3_requireDream 22 = .ok (.return_, 1) := by decide +kernel
theorem dX3_requireTerm_0 : decode cX3_requireTerm 0 = .ok (.iload_n 1, 1) := by decide +kernel
theorem dX3_requireTerm_1 : decode cX3_requireTerm 1 = .ok (.ifCond .lt 14, 3) := by decide +kernel
theorem dX3_requireTerm_4 : decode cX3_requireTerm 4 = .ok (.iload_n 1, 1) := by decide +kernel
theorem dX3_requireTerm_5 : decode cX3_requireTerm 5 = .ok (.aload_n 0, 1) := by decide +kernel
theorem dX3_requireTerm_6 : decode cX3_requireTerm 6 = .ok (.getfield 19, 3) := by decide +kernel
theorem dX3_requireTerm_9 : decode cX3_requireTerm 9 = .ok (.getfield 135, 3) := by decide +kernel
theorem dX3_requireTerm_12 : decode cX3_requireTerm 12 = .ok (.if_icmp .lt 13, 3) := by decide +kernel
theorem dX3_requireTerm_15 : decode cX3_requireTerm 15 = .ok (.new 166, 3) := by decide +kernel
theorem dX3_requireTerm_18 : decode cX3_requireTerm 18 = .ok (.dup, 1) := by decide +kernel
theorem dX3_requireTerm_19 : decode cX3_requireTerm 19 = .ok (.ldc 197, 2) := by decide +kernel
theorem dX3_requireTerm_21 : decode cX3_requireTerm 21 = .ok (.invokespecial 170, 3) := by decide +kernel
theorem dX3_requireTerm_24 : decode cX3_requireTerm 24 = .ok (.athrow, 1) := by decide +kernel
theorem dX3_requireTerm_25 : decode cX3_requireTerm 25 = .ok (.return_, 1) := by decide +kernel
theorem dX3_requireParent_0 : decode cX3_requireParent 0 = .ok (.aload_n 0, 1) := by decide +kernel
theorem dX3_requireParent_1 : decode cX3_requireParent 1 = .ok (.iload_n 1, 1) := by decide +kernel
theorem dX3_requireParent_2 : decode cX3_requireParent 2 = .ok (.invokevirtual 76, 3) := by decide +kernel
theorem dX3_requireParent_5 : decode cX3_requireParent 5 = .ok (.aload_n 0, 1) := by decide +kernel
theorem dX3_requireParent_6 : decode cX3_requireParent 6 = .ok (.getfield 10, 3) := by decide +kernel
theorem dX3_requireParent_9 : decode cX3_requireParent 9 = .ok (.getfield 73, 3) := by decide +kernel
theorem dX3_requireParent_12 : decode cX3_requireParent 12 = .ok (.iload_n 1, 1) := by decide +kernel
theorem dX3_requireParent_13 : decode cX3_requireParent 13 = .ok (.iaload, 1) := by decide +kernel
theorem dX3_requireParent_14 : decode cX3_requireParent 14 = .ok (.iconst (-1), 1) := by decide +kernel
theorem dX3_requireParent_15 : decode cX3_requireParent 15 = .ok (.if_icmp .ne 13, 3) := by decide +kernel
theorem dX3_requireParent_18 : decode cX3_requireParent 18 = .ok (.new 47, 3) := by decide +kernel
theorem dX3_requireParent_21 : decode cX3_requireParent 21 = .ok (.dup, 1) := by decide +kernel
theorem dX3_requireParent_22 : decode cX3_requireParent 22 = .ok (.ldc 199, 2) := by decide +kernel
theorem dX3_requireParent_24 : decode cX3_requireParent 24 = .ok (.invokespecial 51, 3) := by decide +kernel
theorem dX3_requireParent_27 : decode cX3_requireParent 27 = .ok (.athrow, 1) := by decide +kernel
theorem dX3_requireParent_28 : decode cX3_requireParent 28 = .ok (.return_, 1) := by decide +kernel
theorem dX3_requirePlaceUnder_0 : decode cX3_requirePlaceUnder 0 = .ok (.aload_n 0, 1) := by decide +kernel
theorem dX3_requirePlaceUnder_1 : decode cX3_requirePlaceUnder 1 = .ok (.iload_n 1, 1) := by decide +kernel
theorem dX3_requirePlaceUnder_2 : decode cX3_requirePlaceUnder 2 = .ok (.invokevirtual 76, 3) := by decide +kernel
theorem dX3_requirePlaceUnder_5 : decode cX3_requirePlaceUnder 5 = .ok (.aload_n 0, 1) := by decide +kernel
theorem dX3_requirePlaceUnder_6 : decode cX3_requirePlaceUnder 6 = .ok (.iload_n 2, 1) := by decide +kernel
theorem dX3_requirePlaceUnder_7 : decode cX3_requirePlaceUnder 7 = .ok (.invokevirtual 76, 3) := by decide +kernel
theorem dX3_requirePlaceUnder_10 : decode cX3_requirePlaceUnder 10 = .ok (.iload_n 1, 1) := by decide +kernel
theorem dX3_requirePlaceUnder_11 : decode cX3_requirePlaceUnder 11 = .ok (.iload_n 2, 1) := by decide +kernel
theorem dX3_requirePlaceUnder_12 : decode cX3_requirePlaceUnder 12 = .ok (.if_icmp .ne 13, 3) := by decide +kernel
theorem dX3_requirePlaceUnder_15 : decode cX3_requirePlaceUnder 15 = .ok (.new 79, 3) := by decide +kernel
theorem dX3_requirePlaceUnder_18 : decode cX3_requirePlaceUnder 18 = .ok (.dup, 1) := by decide +kernel
theorem dX3_requirePlaceUnder_19 : decode cX3_requirePlaceUnder 19 = .ok (.ldc 201, 2) := by decide +kernel
theorem dX3_requirePlaceUnder_21 : decode cX3_requirePlaceUnder 21 = .ok (.invokespecial 83, 3) := by decide +kernel
theorem dX3_requirePlaceUnder_24 : decode cX3_requirePlaceUnder 24 = .ok (.athrow, 1) := by decide +kernel
theorem dX3_requirePlaceUnder_25 : decode cX3_requirePlaceUnder 25 = .ok (.aload_n 0, 1) := by decide +kernel
theorem dX3_requirePlaceUnder_26 : decode cX3_requirePlaceUnder 26 = .ok (.getfield 10, 3) := by decide +kernel
theorem dX3_requirePlaceUnder_29 : decode cX3_requirePlaceUnder 29 = .ok (.iload_n 1, 1) := by decide +kernel
theorem dX3_requirePlaceUnder_30 : decode cX3_requirePlaceUnder 30 = .ok (.iload_n 2, 1) := by decide +kernel
theorem dX3_requirePlaceUnder_31 : decode cX3_requirePlaceUnder 31 = .ok (.invokevirtual 174, 3) := by decide +kernel
theorem dX3_requirePlaceUnder_34 : decode cX3_requirePlaceUnder 34 = .ok (.ifCond .ne 13, 3) := by decide +kernel
theorem dX3_requirePlaceUnder_37 : decode cX3_requirePlaceUnder 37 = .ok (.new 47, 3) := by decide +kernel
theorem dX3_requirePlaceUnder_40 : decode cX3_requirePlaceUnder 40 = .ok (.dup, 1) := by decide +kernel
theorem dX3_requirePlaceUnder_41 : decode cX3_requirePlaceUnder 41 = .ok (.ldc 203, 2) := by decide +kernel
theorem dX3_requirePlaceUnder_43 : decode cX3_requirePlaceUnder 43 = .ok (.invokespecial 51, 3) := by decide +kernel
theorem dX3_requirePlaceUnder_46 : decode cX3_requirePlaceUnder 46 = .ok (.athrow, 1) := by decide +kernel
theorem dX3_requirePlaceUnder_47 : decode cX3_requirePlaceUnder 47 = .ok (.return_, 1) := by decide +kernel
theorem dX3_requireNights_0 : decode cX3_requireNights 0 = .ok (.iload_n 1, 1) := by decide +kernel
theorem dX3_requireNights_1 : decode cX3_requireNights 1 = .ok (.iconst 1, 1) := by decide +kernel
theorem dX3_requireNights_2 : decode cX3_requireNights 2 = .ok (.if_icmp .lt 9, 3) := by decide +kernel
theorem dX3_requireNights_5 : decode cX3_requireNights 5 = .ok (.iload_n 1, 1) := by decide +kernel
theorem dX3_requireNights_6 : decode cX3_requireNights 6 = .ok (.bipush 30, 2) := by decide +kernel
theorem dX3_requireNights_8 : decode cX3_requireNights 8 = .ok (.if_icmp .le 13, 3) := by decide +kernel
theorem dX3_requireNights_11 : decode cX3_requireNights 11 = .ok (.new 79, 3) := by decide +kernel
theorem dX3_requireNights_14 : decode cX3_requireNights 14 = .ok (.dup, 1) := by decide +kernel
theorem dX3_requireNights_15 : decode cX3_requireNights 15 = .ok (.ldc 205, 2) := by decide +kernel
theorem dX3_requireNights_17 : decode cX3_requireNights 17 = .ok (.invokespecial 83, 3) := by decide +kernel
theorem dX3_requireNights_20 : decode cX3_requireNights 20 = .ok (.athrow, 1) := by decide +kernel
theorem dX3_requireNights_21 : decode cX3_requireNights 21 = .ok (.return_, 1) := by decide +kernel
theorem dX3_requireRoomForTerm_0 : decode cX3_requireRoomForTerm 0 = .ok (.aload_n 0, 1) := by decide +kernel
theorem dX3_requireRoomForTerm_1 : decode cX3_requireRoomForTerm 1 = .ok (.getfield 19, 3) := by decide +kernel
theorem dX3_requireRoomForTerm_4 : decode cX3_requireRoomForTerm 4 = .ok (.getfield 135, 3) := by decide +kernel
theorem dX3_requireRoomForTerm_7 : decode cX3_requireRoomForTerm 7 = .ok (.bipush 20, 2) := by decide +kernel
theorem dX3_requireRoomForTerm_9 : decode cX3_requireRoomForTerm 9 = .ok (.if_icmp .lt 13, 3) := by decide +kernel
theorem dX3_requireRoomForTerm_12 : decode cX3_requireRoomForTerm 12 = .ok (.new 47, 3) := by decide +kernel
theorem dX3_requireRoomForTerm_15 : decode cX3_requireRoomForTerm 15 = .ok (.dup, 1) := by decide +kernel
theorem dX3_requireRoomForTerm_16 : decode cX3_requireRoomForTerm 16 = .ok (.ldc 207, 2) := by decide +kernel
theorem dX3_requireRoomForTerm_18 : decode cX3_requireRoomForTerm 18 = .ok (.invokespecial 51, 3) := by decide +kernel
theorem dX3_requireRoomForTerm_21 : decode cX3_requireRoomForTerm 21 = .ok (.athrow, 1) := by decide +kernel
theorem dX3_requireRoomForTerm_22 : decode cX3_requireRoomForTerm 22 = .ok (.return_, 1) := by decide +kernel
theorem dX3_moveTag_0 : decode cX3_moveTag 0 = .ok (.aload_n 0, 1) := by decide +kernel
theorem dX3_moveTag_1 : decode cX3_moveTag 1 = .ok (.getfield 10, 3) := by decide +kernel
theorem dX3_moveTag_4 : decode cX3_moveTag 4 = .ok (.iload_n 1, 1) := by decide +kernel
theorem dX3_moveTag_5 : decode cX3_moveTag 5 = .ok (.iload_n 2, 1) := by decide +kernel
theorem dX3_moveTag_6 : decode cX3_moveTag 6 = .ok (.invokevirtual 209, 3) := by decide +kernel
theorem dX3_moveTag_9 : decode cX3_moveTag 9 = .ok (.iconst 0, 1) := by decide +kernel
theorem dX3_moveTag_10 : decode cX3_moveTag 10 = .ok (.istore_n 3, 1) := by decide +kernel
theorem dX3_moveTag_11 : decode cX3_moveTag 11 = .ok (.iload_n 3, 1) := by decide +kernel
theorem dX3_moveTag_12 : decode cX3_moveTag 12 = .ok (.aload_n 0, 1) := by decide +kernel
theorem dX3_moveTag_13 : decode cX3_moveTag 13 = .ok (.getfield 84, 3) := by decide +kernel
theorem dX3_moveTag_16 : decode cX3_moveTag 16 = .ok (.if_icmp .ge 28, 3) := by decide +kernel
theorem dX3_moveTag_19 : decode cX3_moveTag 19 = .ok (.aload_n 0, 1) := by decide +kernel
theorem dX3_moveTag_20 : decode cX3_moveTag 20 = .ok (.getfield 34, 3) := by decide +kernel
theorem dX3_moveTag_23 : decode cX3_moveTag 23 = .ok (.iload_n 3, 1) := by decide +kernel
theorem dX3_moveTag_24 : decode cX3_moveTag 24 = .ok (.aload_n 0, 1) := by decide +kernel
theorem dX3_moveTag_25 : decode cX3_moveTag 25 = .ok (.getfield 10, 3) := by decide +kernel
theorem dX3_moveTag_28 : decode cX3_moveTag 28 = .ok (.aload_n 0, 1) := by decide +kernel
theorem dX3_moveTag_29 : decode cX3_moveTag 29 = .ok (.getfield 30, 3) := by decide +kernel
theorem dX3_moveTag_32 : decode cX3_moveTag 32 = .ok (.iload_n 3, 1) := by decide +kernel
theorem dX3_moveTag_33 : decode cX3_moveTag 33 = .ok (.iaload, 1) := by decide +kernel
theorem dX3_moveTag_34 : decode cX3_moveTag 34 = .ok (.invokevirtual 212, 3) := by decide +kernel
theorem dX3_moveTag_37 : decode cX3_moveTag 37 = .ok (.iastore, 1) := by decide +kernel
theorem dX3_moveTag_38 : decode cX3_moveTag 38 = .ok (.iinc 3 1, 3) := by decide +kernel
theorem dX3_moveTag_41 : decode cX3_moveTag 41 = .ok (.goto (-30), 3) := by decide +kernel
theorem dX3_moveTag_44 : decode cX3_moveTag 44 = .ok (.aload_n 0, 1) := by decide +kernel
theorem dX3_moveTag_45 : decode cX3_moveTag 45 = .ok (.invokevirtual 215, 3) := by decide +kernel
theorem dX3_moveTag_48 : decode cX3_moveTag 48 = .ok (.return_, 1) := by decide +kernel
theorem dX3_setOwnTags_0 : decode cX3_setOwnTags 0 = .ok (.aload_n 0, 1) := by decide +kernel
theorem dX3_setOwnTags_1 : decode cX3_setOwnTags 1 = .ok (.getfield 30, 3) := by decide +kernel
theorem dX3_setOwnTags_4 : decode cX3_setOwnTags 4 = .ok (.iload_n 1, 1) := by decide +kernel
theorem dX3_setOwnTags_5 : decode cX3_setOwnTags 5 = .ok (.iload_n 2, 1) := by decide +kernel
theorem dX3_setOwnTags_6 : decode cX3_setOwnTags 6 = .ok (.iastore, 1) := by decide +kernel
theorem dX3_setOwnTags_7 : decode cX3_setOwnTags 7 = .ok (.aload_n 0, 1) := by decide +kernel
theorem dX3_setOwnTags_8 : decode cX3_setOwnTags 8 = .ok (.getfield 34, 3) := by decide +kernel
theorem dX3_setOwnTags_11 : decode cX3_setOwnTags 11 = .ok (.iload_n 1, 1) := by decide +kernel
theorem dX3_setOwnTags_12 : decode cX3_setOwnTags 12 = .ok (.aload_n 0, 1) := by decide +kernel
theorem dX3_setOwnTags_13 : decode cX3_setOwnTags 13 = .ok (.getfield 10, 3) := by decide +kernel
theorem dX3_setOwnTags_16 : decode cX3_setOwnTags 16 = .ok (.iload_n 2, 1) := by decide +kernel
theorem dX3_setOwnTags_17 : decode cX3_setOwnTags 17 = .ok (.invokevirtual 212, 3) := by decide +kernel
theorem dX3_setOwnTags_20 : decode cX3_setOwnTags 20 = .ok (.iastore, 1) := by decide +kernel
theorem dX3_setOwnTags_21 : decode cX3_setOwnTags 21 = .ok (.aload_n 0, 1) := by decide +kernel
theorem dX3_setOwnTags_22 : decode cX3_setOwnTags 22 = .ok (.invokevirtual 215, 3) := by decide +kernel
theorem dX3_setOwnTags_25 : decode cX3_setOwnTags 25 = .ok (.return_, 1) := by decide +kernel
theorem dX3_addTerm_0 : decode cX3_addTerm 0 = .ok (.aload_n 0, 1) := by decide +kernel
theorem dX3_addTerm_1 : decode cX3_addTerm 1 = .ok (.getfield 19, 3) := by decide +kernel
theorem dX3_addTerm_4 : decode cX3_addTerm 4 = .ok (.iload_n 1, 1) := by decide +kernel
theorem dX3_addTerm_5 : decode cX3_addTerm 5 = .ok (.iload_n 2, 1) := by decide +kernel
theorem dX3_addTerm_6 : decode cX3_addTerm 6 = .ok (.iload_n 3, 1) := by decide +kernel
theorem dX3_addTerm_7 : decode cX3_addTerm 7 = .ok (.invokevirtual 218, 3) := by decide +kernel
theorem dX3_addTerm_10 : decode cX3_addTerm 10 = .ok (.istore 4, 2) := by decide +kernel
theorem dX3_addTerm_12 : decode cX3_addTerm 12 = .ok (.aload_n 0, 1) := by decide +kernel
theorem dX3_addTerm_13 : decode cX3_addTerm 13 = .ok (.invokevirtual 215, 3) := by decide +kernel
theorem dX3_addTerm_16 : decode cX3_addTerm 16 = .ok (.iload 4, 2) := by decide +kernel
theorem dX3_addTerm_18 : decode cX3_addTerm 18 = .ok (.ireturn, 1) := by decide +kernel
theorem dX3_rematchTerms_0 : decode cX3_rematchTerms 0 = .ok (.iconst 0, 1) := by decide +kernel
theorem dX3_rematchTerms_1 : decode cX3_rematchTerms 1 = .ok (.istore_n 1, 1) := by decide +kernel
theorem dX3_rematchTerms_2 : decode cX3_rematchTerms 2 = .ok (.iload_n 1, 1) := by decide +kernel
theorem dX3_rematchTerms_3 : decode cX3_rematchTerms 3 = .ok (.aload_n 0, 1) := by decide +kernel
theorem dX3_rematchTerms_4 : decode cX3_rematchTerms 4 = .ok (.getfield 19, 3) := by decide +kernel
theorem dX3_rematchTerms_7 : decode cX3_rematchTerms 7 = .ok (.getfield 135, 3) := by decide +kernel
theorem dX3_rematchTerms_10 : decode cX3_rematchTerms 10 = .ok (.if_icmp .ge 58, 3) := by decide +kernel
theorem dX3_rematchTerms_13 : decode cX3_rematchTerms 13 = .ok (.aload_n 0, 1) := by decide +kernel
theorem dX3_rematchTerms_14 : decode cX3_rematchTerms 14 = .ok (.getfield 19, 3) := by decide +kernel
theorem dX3_rematchTerms_17 : decode cX3_rematchTerms 17 = .ok (.getfield 221, 3) := by decide +kernel
theorem dX3_rematchTerms_20 : decode cX3_rematchTerms 20 = .ok (.iload_n 1, 1) := by decide +kernel
theorem dX3_rematchTerms_21 : decode cX3_rematchTerms 21 = .ok (.iaload, 1) := by decide +kernel
theorem dX3_rematchTerms_22 : decode cX3_rematchTerms 22 = .ok (.ifCond .ne 28, 3) := by decide +kernel
theorem dX3_rematchTerms_25 : decode cX3_rematchTerms 25 = .ok (.aload_n 0, 1) := by decide +kernel
theorem dX3_rematchTerms_26 : decode cX3_rematchTerms 26 = .ok (.getfield 19, 3) := by decide +kernel
theorem dX3_rematchTerms_29 : decode cX3_rematchTerms 29 = .ok (.getfield 151, 3) := by decide +kernel
theorem dX3_rematchTerms_32 : decode cX3_rematchTerms 32 = .ok (.iload_n 1, 1) := by decide +kernel
theorem dX3_rematchTerms_33 : decode cX3_rematchTerms 33 = .ok (.aload_n 0, 1) := by decide +kernel
theorem dX3_rematchTerms_34 : decode cX3_rematchTerms 34 = .ok (.aload_n 0, 1) := by decide +kernel
theorem dX3_rematchTerms_35 : decode cX3_rematchTerms 35 = .ok (.getfield 19, 3) := by decide +kernel
theorem dX3_rematchTerms_38 : decode cX3_rematchTerms 38 = .ok (.getfield 224, 3) := by decide +kernel
theorem dX3_rematchTerms_41 : decode cX3_rematchTerms 41 = .ok (.iload_n 1, 1) := by decide +kernel
theorem dX3_rematchTerms_42 : decode cX3_rematchTerms 42 = .ok (.iaload, 1) := by decide +kernel
theorem dX3_rematchTerms_43 : decode cX3_rematchTerms 43 = .ok (.invokevirtual 148, 3) := by decide +kernel
theorem dX3_rematchTerms_46 : decode cX3_rematchTerms 46 = .ok (.iastore, 1) := by decide +kernel
theorem dX3_rematchTerms_47 : decode cX3_rematchTerms 47 = .ok (.goto 15, 3) := by decide +kernel
theorem dX3_rematchTerms_50 : decode cX3_rematchTerms 50 = .ok (.aload_n 0, 1) := by decide +kernel
theorem dX3_rematchTerms_51 : decode cX3_rematchTerms 51 = .ok (.getfield 19, 3) := by decide +kernel
theorem dX3_rematchTerms_54 : decode cX3_rematchTerms 54 = .ok (.iload_n 1, 1) := by decide +kernel
theorem dX3_rematchTerms_55 : decode cX3_rematchTerms 55 = .ok (.aload_n 0, 1) := by decide +kernel
theorem dX3_rematchTerms_56 : decode cX3_rematchTerms 56 = .ok (.invokevirtual 227, 3) := by decide +kernel
theorem dX3_rematchTerms_59 : decode cX3_rematchTerms 59 = .ok (.invokevirtual 230, 3) := by decide +kernel
theorem dX3_rematchTerms_62 : decode cX3_rematchTerms 62 = .ok (.iinc 1 1, 3) := by decide +kernel
theorem dX3_rematchTerms_65 : decode cX3_rematchTerms 65 = .ok (.goto (-63), 3) := by decide +kernel
theorem dX3_rematchTerms_68 : decode cX3_rematchTerms 68 = .ok (.return_, 1) := by decide +kernel
theorem dX3_allDreams_0 : decode cX3_allDreams 0 = .ok (.iconst 1, 1) := by decide +kernel
theorem dX3_allDreams_1 : decode cX3_allDreams 1 = .ok (.aload_n 0, 1) := by decide +kernel
theorem dX3_allDreams_2 : decode cX3_allDreams 2 = .ok (.getfield 84, 3) := by decide +kernel
theorem dX3_allDreams_5 : decode cX3_allDreams 5 = .ok (.ishl, 1) := by decide +kernel
theorem dX3_allDreams_6 : decode cX3_allDreams 6 = .ok (.iconst 1, 1) := by decide +kernel
theorem dX3_allDreams_7 : decode cX3_allDreams 7 = .ok (.isub, 1) := by decide +kernel
theorem dX3_allDreams_8 : decode cX3_allDreams 8 = .ok (.ireturn, 1) := by decide +kernel
theorem dX3_dreamsHaving_0 : decode cX3_dreamsHaving 0 = .ok (.iconst 0, 1) := by decide +kernel
theorem dX3_dreamsHaving_1 : decode cX3_dreamsHaving 1 = .ok (.istore_n 2, 1) := by decide +kernel
theorem dX3_dreamsHaving_2 : decode cX3_dreamsHaving 2 = .ok (.iconst 0, 1) := by decide +kernel
theorem dX3_dreamsHaving_3 : decode cX3_dreamsHaving 3 = .ok (.istore_n 3, 1) := by decide +kernel
theorem dX3_dreamsHaving_4 : decode cX3_dreamsHaving 4 = .ok (.iload_n 3, 1) := by decide +kernel
theorem dX3_dreamsHaving_5 : decode cX3_dreamsHaving 5 = .ok (.aload_n 0, 1) := by decide +kernel
theorem dX3_dreamsHaving_6 : decode cX3_dreamsHaving 6 = .ok (.getfield 84, 3) := by decide +kernel
theorem dX3_dreamsHaving_9 : decode cX3_dreamsHaving 9 = .ok (.if_icmp .ge 28, 3) := by decide +kernel
theorem dX3_dreamsHaving_12 : decode cX3_dreamsHaving 12 = .ok (.iload_n 1, 1) := by decide +kernel
theorem dX3_dreamsHaving_13 : decode cX3_dreamsHaving 13 = .ok (.aload_n 0, 1) := by decide +kernel
theorem dX3_dreamsHaving_14 : decode cX3_dreamsHaving 14 = .ok (.getfield 34, 3) := by decide +kernel
theorem dX3_dreamsHaving_17 : decode cX3_dreamsHaving 17 = .ok (.iload_n 3, 1) := by decide +kernel
theorem dX3_dreamsHaving_18 : decode cX3_dreamsHaving 18 = .ok (.iaload, 1) := by decide +kernel
theorem dX3_dreamsHaving_19 : decode cX3_dreamsHaving 19 = .ok (.invokestatic 98, 3) := by decide +kernel
theorem dX3_dreamsHaving_22 : decode cX3_dreamsHaving 22 = .ok (.ifCond .eq 9, 3) := by decide +kernel
theorem dX3_dreamsHaving_25 : decode cX3_dreamsHaving 25 = .ok (.iload_n 2, 1) := by decide +kernel
theorem dX3_dreamsHaving_26 : decode cX3_dreamsHaving 26 = .ok (.iconst 1, 1) := by decide +kernel
theorem dX3_dreamsHaving_27 : decode cX3_dreamsHaving 27 = .ok (.iload_n 3, 1) := by decide +kernel
theorem dX3_dreamsHaving_28 : decode cX3_dreamsHaving 28 = .ok (.ishl, 1) := by decide +kernel
theorem dX3_dreamsHaving_29 : decode cX3_dreamsHaving 29 = .ok (.ior, 1) := by decide +kernel
theorem dX3_dreamsHaving_30 : decode cX3_dreamsHaving 30 = .ok (.istore_n 2, 1) := by decide +kernel
theorem dX3_dreamsHaving_31 : decode cX3_dreamsHaving 31 = .ok (.iinc 3 1, 3) := by decide +kernel
theorem dX3_dreamsHaving_34 : decode cX3_dreamsHaving 34 = .ok (.goto (-30), 3) := by decide +kernel
theorem dX3_dreamsHaving_37 : decode cX3_dreamsHaving 37 = .ok (.iload_n 2, 1) := by decide +kernel
theorem dX3_dreamsHaving_38 : decode cX3_dreamsHaving 38 = .ok (.ireturn, 1) := by decide +kernel
theorem dX3_vividnessAfter_0 : decode cX3_vividnessAfter 0 = .ok (.aload_n 0, 1) := by decide +kernel
theorem dX3_vividnessAfter_1 : decode cX3_vividnessAfter 1 = .ok (.getfield 30, 3) := by decide +kernel
theorem dX3_vividnessAfter_4 : decode cX3_vividnessAfter 4 = .ok (.iload_n 1, 1) := by decide +kernel
theorem dX3_vividnessAfter_5 : decode cX3_vividnessAfter 5 = .ok (.iaload, 1) := by decide +kernel
theorem dX3_vividnessAfter_6 : decode cX3_vividnessAfter 6 = .ok (.aload_n 0, 1) := by decide +kernel
theorem dX3_vividnessAfter_7 : decode cX3_vividnessAfter 7 = .ok (.invokevirtual 233, 3) := by decide +kernel
theorem dX3_vividnessAfter_10 : decode cX3_vividnessAfter 10 = .ok (.iand, 1) := by decide +kernel
theorem dX3_vividnessAfter_11 : decode cX3_vividnessAfter 11 = .ok (.ifCond .eq 7, 3) := by decide +kernel
theorem dX3_vividnessAfter_14 : decode cX3_vividnessAfter 14 = .ok (.iconst 1, 1) := by decide +kernel
theorem dX3_vividnessAfter_15 : decode cX3_vividnessAfter 15 = .ok (.goto 4, 3) := by decide +kernel
theorem dX3_vividnessAfter_18 : decode cX3_vividnessAfter 18 = .ok (.iconst 0, 1) := by decide +kernel
theorem dX3_vividnessAfter_19 : decode cX3_vividnessAfter 19 = .ok (.istore_n 3, 1) := by decide +kernel
theorem dX3_vividnessAfter_20 : decode cX3_vividnessAfter 20 = .ok (.iload_n 3, 1) := by decide +kernel
theorem dX3_vividnessAfter_21 : decode cX3_vividnessAfter 21 = .ok (.ifCond .eq 12, 3) := by decide +kernel
theorem dX3_vividnessAfter_24 : decode cX3_vividnessAfter 24 = .ok (.aload_n 0, 1) := by decide +kernel
theorem dX3_vividnessAfter_25 : decode cX3_vividnessAfter 25 = .ok (.getfield 37, 3) := by decide +kernel
theorem dX3_vividnessAfter_28 : decode cX3_vividnessAfter 28 = .ok (.iload_n 1, 1) := by decide +kernel
theorem dX3_vividnessAfter_29 : decode cX3_vividnessAfter 29 = .ok (.iaload, 1) := by decide +kernel
theorem dX3_vividnessAfter_30 : decode cX3_vividnessAfter 30 = .ok (.goto 15, 3) := by decide +kernel
theorem dX3_vividnessAfter_33 : decode cX3_vividnessAfter 33 = .ok (.iconst 0, 1) := by decide +kernel
theorem dX3_vividnessAfter_34 : decode cX3_vividnessAfter 34 = .ok (.aload_n 0, 1) := by decide +kernel
theorem dX3_vividnessAfter_35 : decode cX3_vividnessAfter 35 = .ok (.getfield 37, 3) := by decide +kernel
theorem dX3_vividnessAfter_38 : decode cX3_vividnessAfter 38 = .ok (.iload_n 1, 1) := by decide +kernel
theorem dX3_vividnessAfter_39 : decode cX3_vividnessAfter 39 = .ok (.iaload, 1) := by decide +kernel
theorem dX3_vividnessAfter_40 : decode cX3_vividnessAfter 40 = .ok (.iload_n 2, 1) := by decide +kernel
theorem dX3_vividnessAfter_41 : decode cX3_vividnessAfter 41 = .ok (.isub, 1) := by decide +kernel
theorem dX3_vividnessAfter_42 : decode cX3_vividnessAfter 42 = .ok (.invokestatic 236, 3) := by decide +kernel
theorem dX3_vividnessAfter_45 : decode cX3_vividnessAfter 45 = .ok (.ireturn, 1) := by decide +kernel
theorem dX3_ownTagsOfLatest_0 : decode cX3_ownTagsOfLatest 0 = .ok (.aload_n 0, 1) := by decide +kernel
theorem dX3_ownTagsOfLatest_1 : decode cX3_ownTagsOfLatest 1 = .ok (.getfield 84, 3) := by decide +kernel
theorem dX3_ownTagsOfLatest_4 : decode cX3_ownTagsOfLatest 4 = .ok (.ifCond .ne 7, 3) := by decide +kernel
theorem dX3_ownTagsOfLatest_7 : decode cX3_ownTagsOfLatest 7 = .ok (.iconst 0, 1) := by decide +kernel
theorem dX3_ownTagsOfLatest_8 : decode cX3_ownTagsOfLatest 8 = .ok (.goto 14, 3) := by decide +kernel
theorem dX3_ownTagsOfLatest_11 : decode cX3_ownTagsOfLatest 11 = .ok (.aload_n 0, 1) := by decide +kernel
theorem dX3_ownTagsOfLatest_12 : decode cX3_ownTagsOfLatest 12 = .ok (.getfield 30, 3) := by decide +kernel
theorem dX3_ownTagsOfLatest_15 : decode cX3_ownTagsOfLatest 15 = .ok (.aload_n 0, 1) := by decide +kernel
theorem dX3_ownTagsOfLatest_16 : decode cX3_ownTagsOfLatest 16 = .ok (.getfield 84, 3) := by decide +kernel
theorem dX3_ownTagsOfLatest_19 : decode cX3_ownTagsOfLatest 19 = .ok (.iconst 1, 1) := by decide +kernel
theorem dX3_ownTagsOfLatest_20 : decode cX3_ownTagsOfLatest 20 = .ok (.isub, 1) := by decide +kernel
theorem dX3_ownTagsOfLatest_21 : decode cX3_ownTagsOfLatest 21 = .ok (.iaload, 1) := by decide +kernel
theorem dX3_ownTagsOfLatest_22 : decode cX3_ownTagsOfLatest 22 = .ok (.ireturn, 1) := by decide +kernel
theorem dX3_countFadedAfter_0 : decode cX3_countFadedAfter 0 = .ok (.iconst 0, 1) := by decide +kernel
theorem dX3_countFadedAfter_1 : decode cX3_countFadedAfter 1 = .ok (.istore_n 2, 1) := by decide +kernel
theorem dX3_countFadedAfter_2 : decode cX3_countFadedAfter 2 = .ok (.iconst 0, 1) := by decide +kernel
theorem dX3_countFadedAfter_3 : decode cX3_countFadedAfter 3 = .ok (.istore_n 3, 1) := by decide +kernel
theorem dX3_countFadedAfter_4 : decode cX3_countFadedAfter 4 = .ok (.iload_n 3, 1) := by decide +kernel
theorem dX3_countFadedAfter_5 : decode cX3_countFadedAfter 5 = .ok (.aload_n 0, 1) := by decide +kernel
theorem dX3_countFadedAfter_6 : decode cX3_countFadedAfter 6 = .ok (.getfield 84, 3) := by decide +kernel
theorem dX3_countFadedAfter_9 : decode cX3_countFadedAfter 9 = .ok (.if_icmp .ge 21, 3) := by decide +kernel
theorem dX3_countFadedAfter_12 : decode cX3_countFadedAfter 12 = .ok (.aload_n 0, 1) := by decide +kernel
theorem dX3_countFadedAfter_13 : decode cX3_countFadedAfter 13 = .ok (.iload_n 3, 1) := by decide +kernel
theorem dX3_countFadedAfter_14 : decode cX3_countFadedAfter 14 = .ok (.iload_n 1, 1) := by decide +kernel
theorem dX3_countFadedAfter_15 : decode cX3_countFadedAfter 15 = .ok (.invokevirtual 118, 3) := by decide +kernel
theorem dX3_countFadedAfter_18 : decode cX3_countFadedAfter 18 = .ok (.ifCond .ne 6, 3) := by decide +kernel
theorem dX3_countFadedAfter_21 : decode cX3_countFadedAfter 21 = .ok (.iinc 2 1, 3) := by decide +kernel
theorem dX3_countFadedAfter_24 : decode cX3_countFadedAfter 24 = .ok (.iinc 3 1, 3) := by decide +kernel
theorem dX3_countFadedAfter_27 : decode cX3_countFadedAfter 27 = .ok (.goto (-23), 3) := by decide +kernel
theorem dX3_countFadedAfter_30 : decode cX3_countFadedAfter 30 = .ok (.iload_n 2, 1) := by decide +kernel
theorem dX3_countFadedAfter_31 : decode cX3_countFadedAfter 31 = .ok (.ireturn, 1) := by decide +kernel
theorem dX3_mostVividOf_0 : decode cX3_mostVividOf 0 = .ok (.iconst (-1), 1) := by decide +kernel
theorem dX3_mostVividOf_1 : decode cX3_mostVividOf 1 = .ok (.istore_n 2, 1) := by decide +kernel
theorem dX3_mostVividOf_2 : decode cX3_mostVividOf 2 = .ok (.iconst (-1), 1) := by decide +kernel
theorem dX3_mostVividOf_3 : decode cX3_mostVividOf 3 = .ok (.istore_n 3, 1) := by decide +kernel
theorem dX3_mostVividOf_4 : decode cX3_mostVividOf 4 = .ok (.iconst 0, 1) := by decide +kernel
theorem dX3_mostVividOf_5 : decode cX3_mostVividOf 5 = .ok (.istore 4, 2) := by decide +kernel
theorem dX3_mostVividOf_7 : decode cX3_mostVividOf 7 = .ok (.iload 4, 2) := by decide +kernel
theorem dX3_mostVividOf_9 : decode cX3_mostVividOf 9 = .ok (.aload_n 0, 1) := by decide +kernel
theorem dX3_mostVividOf_10 : decode cX3_mostVividOf 10 = .ok (.getfield 84, 3) := by decide +kernel
theorem dX3_mostVividOf_13 : decode cX3_mostVividOf 13 = .ok (.if_icmp .ge 40, 3) := by decide +kernel
theorem dX3_mostVividOf_16 : decode cX3_mostVividOf 16 = .ok (.iload 4, 2) := by decide +kernel
theorem dX3_mostVividOf_18 : decode cX3_mostVividOf 18 = .ok (.iload_n 1, 1) := by decide +kernel
theorem dX3_mostVividOf_19 : decode cX3_mostVividOf 19 = .ok (.invokestatic 98, 3) := by decide +kernel
theorem dX3_mostVividOf_22 : decode cX3_mostVividOf 22 = .ok (.ifCond .eq 25, 3) := by decide +kernel
theorem dX3_mostVividOf_25 : decode cX3_mostVividOf 25 = .ok (.aload_n 0, 1) := by decide +kernel
theorem dX3_mostVividOf_26 : decode cX3_mostVividOf 26 = .ok (.getfield 37, 3) := by decide +kernel
theorem dX3_mostVividOf_29 : decode cX3_mostVividOf 29 = .ok (.iload 4, 2) := by decide +kernel
theorem dX3_mostVividOf_31 : decode cX3_mostVividOf 31 = .ok (.iaload, 1) := by decide +kernel
theorem dX3_mostVividOf_32 : decode cX3_mostVividOf 32 = .ok (.iload_n 3, 1) := by decide +kernel
theorem dX3_mostVividOf_33 : decode cX3_mostVividOf 33 = .ok (.if_icmp .le 14, 3) := by decide +kernel
theorem dX3_mostVividOf_36 : decode cX3_mostVividOf 36 = .ok (.aload_n 0, 1) := by decide +kernel
theorem dX3_mostVividOf_37 : decode cX3_mostVividOf 37 = .ok (.getfield 37, 3) := by decide +kernel
theorem dX3_mostVividOf_40 : decode cX3_mostVividOf 40 = .ok (.iload 4, 2) := by decide +kernel
theorem dX3_mostVividOf_42 : decode cX3_mostVividOf 42 = .ok (.iaload, 1) := by decide +kernel
theorem dX3_mostVividOf_43 : decode cX3_mostVividOf 43 = .ok (.istore_n 3, 1) := by decide +kernel
theorem dX3_mostVividOf_44 : decode cX3_mostVividOf 44 = .ok (.iload 4, 2) := by decide +kernel
theorem dX3_mostVividOf_46 : decode cX3_mostVividOf 46 = .ok (.istore_n 2, 1) := by decide +kernel
theorem dX3_mostVividOf_47 : decode cX3_mostVividOf 47 = .ok (.iinc 4 1, 3) := by decide +kernel
theorem dX3_mostVividOf_50 : decode cX3_mostVividOf 50 = .ok (.goto (-43), 3) := by decide +kernel
theorem dX3_mostVividOf_53 : decode cX3_mostVividOf 53 = .ok (.iload_n 2, 1) := by decide +kernel
theorem dX3_mostVividOf_54 : decode cX3_mostVividOf 54 = .ok (.ireturn, 1) := by decide +kernel
theorem dX3_tagsSharedBy_0 : decode cX3_tagsSharedBy 0 = .ok (.iload_n 1, 1) := by decide +kernel
theorem dX3_tagsSharedBy_1 : decode cX3_tagsSharedBy 1 = .ok (.ifCond .ne 7, 3) := by decide +kernel
theorem dX3_tagsSharedBy_4 : decode cX3_tagsSharedBy 4 = .ok (.iconst 0, 1) := by decide +kernel
theorem dX3_tagsSharedBy_5 : decode cX3_tagsSharedBy 5 = .ok (.goto 5, 3) := by decide +kernel
theorem dX3_tagsSharedBy_8 : decode cX3_tagsSharedBy 8 = .ok (.ldc 241, 2) := by decide +kernel
theorem dX3_tagsSharedBy_10 : decode cX3_tagsSharedBy 10 = .ok (.istore_n 2, 1) := by decide +kernel
theorem dX3_tagsSharedBy_11 : decode cX3_tagsSharedBy 11 = .ok (.iconst 0, 1) := by decide +kernel
theorem dX3_tagsSharedBy_12 : decode cX3_tagsSharedBy 12 = .ok (.istore_n 3, 1) := by decide +kernel
theorem dX3_tagsSharedBy_13 : decode cX3_tagsSharedBy 13 = .ok (.iload_n 3, 1) := by decide +kernel
theorem dX3_tagsSharedBy_14 : decode cX3_tagsSharedBy 14 = .ok (.aload_n 0, 1) := by decide +kernel
theorem dX3_tagsSharedBy_15 : decode cX3_tagsSharedBy 15 = .ok (.getfield 84, 3) := by decide +kernel
theorem dX3_tagsSharedBy_18 : decode cX3_tagsSharedBy 18 = .ok (.if_icmp .ge 26, 3) := by decide +kernel
theorem dX3_tagsSharedBy_21 : decode cX3_tagsSharedBy 21 = .ok (.iload_n 3, 1) := by decide +kernel
theorem dX3_tagsSharedBy_22 : decode cX3_tagsSharedBy 22 = .ok (.iload_n 1, 1) := by decide +kernel
theorem dX3_tagsSharedBy_23 : decode cX3_tagsSharedBy 23 = .ok (.invokestatic 98, 3) := by decide +kernel
theorem dX3_tagsSharedBy_26 : decode cX3_tagsSharedBy 26 = .ok (.ifCond .eq 12, 3) := by decide +kernel
theorem dX3_tagsSharedBy_29 : decode cX3_tagsSharedBy 29 = .ok (.iload_n 2, 1) := by decide +kernel
theorem dX3_tagsSharedBy_30 : decode cX3_tagsSharedBy 30 = .ok (.aload_n 0, 1) := by decide +kernel
theorem dX3_tagsSharedBy_31 : decode cX3_tagsSharedBy 31 = .ok (.getfield 34, 3) := by decide +kernel
theorem dX3_tagsSharedBy_34 : decode cX3_tagsSharedBy 34 = .ok (.iload_n 3, 1) := by decide +kernel
theorem dX3_tagsSharedBy_35 : decode cX3_tagsSharedBy 35 = .ok (.iaload, 1) := by decide +kernel
theorem dX3_tagsSharedBy_36 : decode cX3_tagsSharedBy 36 = .ok (.iand, 1) := by decide +kernel
theorem dX3_tagsSharedBy_37 : decode cX3_tagsSharedBy 37 = .ok (.istore_n 2, 1) := by decide +kernel
theorem dX3_tagsSharedBy_38 : decode cX3_tagsSharedBy 38 = .ok (.iinc 3 1, 3) := by decide +kernel
theorem dX3_tagsSharedBy_41 : decode cX3_tagsSharedBy 41 = .ok (.goto (-28), 3) := by decide +kernel
theorem dX3_tagsSharedBy_44 : decode cX3_tagsSharedBy 44 = .ok (.iload_n 2, 1) := by decide +kernel
theorem dX3_tagsSharedBy_45 : decode cX3_tagsSharedBy 45 = .ok (.ireturn, 1) := by decide +kernel
theorem dX3_smallestCover_0 : decode cX3_smallestCover 0 = .ok (.aload_n 0, 1) := by decide +kernel
theorem dX3_smallestCover_1 : decode cX3_smallestCover 1 = .ok (.getfield 19, 3) := by decide +kernel
theorem dX3_smallestCover_4 : decode cX3_smallestCover 4 = .ok (.getfield 151, 3) := by decide +kernel
theorem dX3_smallestCover_7 : decode cX3_smallestCover 7 = .ok (.iload_n 1, 1) := by decide +kernel
theorem dX3_smallestCover_8 : decode cX3_smallestCover 8 = .ok (.iaload, 1) := by decide +kernel
theorem dX3_smallestCover_9 : decode cX3_smallestCover 9 = .ok (.istore_n 2, 1) := by decide +kernel
theorem dX3_smallestCover_10 : decode cX3_smallestCover 10 = .ok (.iconst 0, 1) := by decide +kernel
theorem dX3_smallestCover_11 : decode cX3_smallestCover 11 = .ok (.istore_n 3, 1) := by decide +kernel
theorem dX3_smallestCover_12 : decode cX3_smallestCover 12 = .ok (.iload_n 3, 1) := by decide +kernel
theorem dX3_smallestCover_13 : decode cX3_smallestCover 13 = .ok (.bipush 16, 2) := by decide +kernel
theorem dX3_smallestCover_15 : decode cX3_smallestCover 15 = .ok (.if_icmp .ge 25, 3) := by decide +kernel
theorem dX3_smallestCover_18 : decode cX3_smallestCover 18 = .ok (.aload_n 0, 1) := by decide +kernel
theorem dX3_smallestCover_19 : decode cX3_smallestCover 19 = .ok (.getfield 26, 3) := by decide +kernel
theorem dX3_smallestCover_22 : decode cX3_smallestCover 22 = .ok (.getfield 242, 3) := by decide +kernel
theorem dX3_smallestCover_25 : decode cX3_smallestCover 25 = .ok (.iload_n 3, 1) := by decide +kernel
theorem dX3_smallestCover_26 : decode cX3_smallestCover 26 = .ok (.aload_n 0, 1) := by decide +kernel
theorem dX3_smallestCover_27 : decode cX3_smallestCover 27 = .ok (.iload_n 3, 1) := by decide +kernel
theorem dX3_smallestCover_28 : decode cX3_smallestCover 28 = .ok (.invokevirtual 148, 3) := by decide +kernel
theorem dX3_smallestCover_31 : decode cX3_smallestCover 31 = .ok (.iload_n 2, 1) := by decide +kernel
theorem dX3_smallestCover_32 : decode cX3_smallestCover 32 = .ok (.iand, 1) := by decide +kernel
theorem dX3_smallestCover_33 : decode cX3_smallestCover 33 = .ok (.iastore, 1) := by decide +kernel
theorem dX3_smallestCover_34 : decode cX3_smallestCover 34 = .ok (.iinc 3 1, 3) := by decide +kernel
theorem dX3_smallestCover_37 : decode cX3_smallestCover 37 = .ok (.goto (-25), 3) := by decide +kernel
theorem dX3_smallestCover_40 : decode cX3_smallestCover 40 = .ok (.aload_n 0, 1) := by decide +kernel
theorem dX3_smallestCover_41 : decode cX3_smallestCover 41 = .ok (.getfield 26, 3) := by decide +kernel
theorem dX3_smallestCover_44 : decode cX3_smallestCover 44 = .ok (.iload_n 2, 1) := by decide +kernel
theorem dX3_smallestCover_45 : decode cX3_smallestCover 45 = .ok (.invokevirtual 245, 3) := by decide +kernel
theorem dX3_smallestCover_48 : decode cX3_smallestCover 48 = .ok (.ireturn, 1) := by decide +kernel
theorem dX3_countMatchedIfUnder_0 : decode cX3_countMatchedIfUnder 0 = .ok (.aload_n 0, 1) := by decide +kernel
theorem dX3_countMatchedIfUnder_1 : decode cX3_countMatchedIfUnder 1 = .ok (.getfield 10, 3) := by decide +kernel
theorem dX3_countMatchedIfUnder_4 : decode cX3_countMatchedIfUnder 4 = .ok (.getfield 73, 3) := by decide +kernel
theorem dX3_countMatchedIfUnder_7 : decode cX3_countMatchedIfUnder 7 = .ok (.iload_n 2, 1) := by decide +kernel
theorem dX3_countMatchedIfUnder_8 : decode cX3_countMatchedIfUnder 8 = .ok (.iaload, 1) := by decide +kernel
theorem dX3_countMatchedIfUnder_9 : decode cX3_countMatchedIfUnder 9 = .ok (.istore 4, 2) := by decide +kernel
theorem dX3_countMatchedIfUnder_11 : decode cX3_countMatchedIfUnder 11 = .ok (.aload_n 0, 1) := by decide +kernel
theorem dX3_countMatchedIfUnder_12 : decode cX3_countMatchedIfUnder 12 = .ok (.iload_n 2, 1) := by decide +kernel
theorem dX3_countMatchedIfUnder_13 : decode cX3_countMatchedIfUnder 13 = .ok (.iload_n 3, 1) := by decide +kernel
theorem dX3_countMatchedIfUnder_14 : decode cX3_countMatchedIfUnder 14 = .ok (.invokevirtual 62, 3) := by decide +kernel
theorem dX3_countMatchedIfUnder_17 : decode cX3_countMatchedIfUnder 17 = .ok (.aload_n 0, 1) := by decide +kernel
theorem dX3_countMatchedIfUnder_18 : decode cX3_countMatchedIfUnder 18 = .ok (.getfield 19, 3) := by decide +kernel
theorem dX3_countMatchedIfUnder_21 : decode cX3_countMatchedIfUnder 21 = .ok (.getfield 151, 3) := by decide +kernel
theorem dX3_countMatchedIfUnder_24 : decode cX3_countMatchedIfUnder 24 = .ok (.iload_n 1, 1) := by decide +kernel
theorem dX3_countMatchedIfUnder_25 : decode cX3_countMatchedIfUnder 25 = .ok (.iaload, 1) := by decide +kernel
theorem dX3_countMatchedIfUnder_26 : decode cX3_countMatchedIfUnder 26 = .ok (.invokestatic 104, 3) := by decide +kernel
theorem dX3_countMatchedIfUnder_29 : decode cX3_countMatchedIfUnder 29 = .ok (.istore 5, 2) := by decide +kernel
theorem dX3_countMatchedIfUnder_31 : decode cX3_countMatchedIfUnder 31 = .ok (.aload_n 0, 1) := by decide +kernel
theorem dX3_countMatchedIfUnder_32 : decode cX3_countMatchedIfUnder 32 = .ok (.iload_n 2, 1) := by decide +kernel
theorem dX3_countMatchedIfUnder_33 : decode cX3_countMatchedIfUnder 33 = .ok (.iload 4, 2) := by decide +kernel
theorem dX3_countMatchedIfUnder_35 : decode cX3_countMatchedIfUnder 35 = .ok (.invokevirtual 62, 3) := by decide +kernel
theorem dX3_countMatchedIfUnder_38 : decode cX3_countMatchedIfUnder 38 = .ok (.iload 5, 2) := by decide +kernel
theorem dX3_countMatchedIfUnder_40 : decode cX3_countMatchedIfUnder 40 = .ok (.ireturn, 1) := by decide +kernel
theorem dX3_digestedTag_0 : decode cX3_digestedTag 0 = .ok (.lload_n 1, 1) := by decide +kernel
theorem dX3_digestedTag_1 : decode cX3_digestedTag 1 = .ok (.aload_n 0, 1) := by decide +kernel
theorem dX3_digestedTag_2 : decode cX3_digestedTag 2 = .ok (.getfield 10, 3) := by decide +kernel
theorem dX3_digestedTag_5 : decode cX3_digestedTag 5 = .ok (.getfield 73, 3) := by decide +kernel
theorem dX3_digestedTag_8 : decode cX3_digestedTag 8 = .ok (.iload_n 3, 1) := by decide +kernel
theorem dX3_digestedTag_9 : decode cX3_digestedTag 9 = .ok (.iaload, 1) := by decide +kernel
theorem dX3_digestedTag_10 : decode cX3_digestedTag 10 = .ok (.i2l, 1) := by decide +kernel
theorem dX3_digestedTag_11 : decode cX3_digestedTag 11 = .ok (.invokestatic 179, 3) := by decide +kernel
theorem dX3_digestedTag_14 : decode cX3_digestedTag 14 = .ok (.lstore 4, 2) := by decide +kernel
theorem dX3_digestedTag_16 : decode cX3_digestedTag 16 = .ok (.lload 4, 2) := by decide +kernel
theorem dX3_digestedTag_18 : decode cX3_digestedTag 18 = .ok (.aload_n 0, 1) := by decide +kernel
theorem dX3_digestedTag_19 : decode cX3_digestedTag 19 = .ok (.getfield 10, 3) := by decide +kernel
theorem dX3_digestedTag_22 : decode cX3_digestedTag 22 = .ok (.iload_n 3, 1) := by decide +kernel
theorem dX3_digestedTag_23 : decode cX3_digestedTag 23 = .ok (.invokevirtual 65, 3) := by decide +kernel
theorem dX3_digestedTag_26 : decode cX3_digestedTag 26 = .ok (.i2l, 1) := by decide +kernel
theorem dX3_digestedTag_27 : decode cX3_digestedTag 27 = .ok (.invokestatic 179, 3) := by decide +kernel
theorem dX3_digestedTag_30 : decode cX3_digestedTag 30 = .ok (.lstore 4, 2) := by decide +kernel
theorem dX3_digestedTag_32 : decode cX3_digestedTag 32 = .ok (.lload 4, 2) := by decide +kernel
theorem dX3_digestedTag_34 : decode cX3_digestedTag 34 = .ok (.aload_n 0, 1) := by decide +kernel
theorem dX3_digestedTag_35 : decode cX3_digestedTag 35 = .ok (.getfield 10, 3) := by decide +kernel
theorem dX3_digestedTag_38 : decode cX3_digestedTag 38 = .ok (.iload_n 3, 1) := by decide +kernel
theorem dX3_digestedTag_39 : decode cX3_digestedTag 39 = .ok (.invokevirtual 136, 3) := by decide +kernel
theorem dX3_digestedTag_42 : decode cX3_digestedTag 42 = .ok (.i2l, 1) := by decide +kernel
theorem dX3_digestedTag_43 : decode cX3_digestedTag 43 = .ok (.invokestatic 179, 3) := by decide +kernel
theorem dX3_digestedTag_46 : decode cX3_digestedTag 46 = .ok (.lstore 4, 2) := by decide +kernel
theorem dX3_digestedTag_48 : decode cX3_digestedTag 48 = .ok (.lload 4, 2) := by decide +kernel
theorem dX3_digestedTag_50 : decode cX3_digestedTag 50 = .ok (.aload_n 0, 1) := by decide +kernel
theorem dX3_digestedTag_51 : decode cX3_digestedTag 51 = .ok (.iload_n 3, 1) := by decide +kernel
theorem dX3_digestedTag_52 : decode cX3_digestedTag 52 = .ok (.invokevirtual 148, 3) := by decide +kernel
theorem dX3_digestedTag_55 : decode cX3_digestedTag 55 = .ok (.invokestatic 104, 3) := by decide +kernel
theorem dX3_digestedTag_58 : decode cX3_digestedTag 58 = .ok (.i2l, 1) := by decide +kernel
theorem dX3_digestedTag_59 : decode cX3_digestedTag 59 = .ok (.invokestatic 179, 3) := by decide +kernel
theorem dX3_digestedTag_62 : decode cX3_digestedTag 62 = .ok (.lreturn, 1) := by decide +kernel
theorem dX3_digestedDream_0 : decode cX3_digestedDream 0 = .ok (.lload_n 1, 1) := by decide +kernel
theorem dX3_digestedDream_1 : decode cX3_digestedDream 1 = .ok (.aload_n 0, 1) := by decide +kernel
theorem dX3_digestedDream_2 : decode cX3_digestedDream 2 = .ok (.getfield 34, 3) := by decide +kernel
theorem dX3_digestedDream_5 : decode cX3_digestedDream 5 = .ok (.iload_n 3, 1) := by decide +kernel
theorem dX3_digestedDream_6 : decode cX3_digestedDream 6 = .ok (.iaload, 1) := by decide +kernel
theorem dX3_digestedDream_7 : decode cX3_digestedDream 7 = .ok (.invokestatic 104, 3) := by decide +kernel
theorem dX3_digestedDream_10 : decode cX3_digestedDream 10 = .ok (.i2l, 1) := by decide +kernel
theorem dX3_digestedDream_11 : decode cX3_digestedDream 11 = .ok (.invokestatic 179, 3) := by decide +kernel
theorem dX3_digestedDream_14 : decode cX3_digestedDream 14 = .ok (.lstore 4, 2) := by decide +kernel
theorem dX3_digestedDream_16 : decode cX3_digestedDream 16 = .ok (.lload 4, 2) := by decide +kernel
theorem dX3_digestedDream_18 : decode cX3_digestedDream 18 = .ok (.aload_n 0, 1) := by decide +kernel
theorem dX3_digestedDream_19 : decode cX3_digestedDream 19 = .ok (.getfield 37, 3) := by decide +kernel
theorem dX3_digestedDream_22 : decode cX3_digestedDream 22 = .ok (.iload_n 3, 1) := by decide +kernel
theorem dX3_digestedDream_23 : decode cX3_digestedDream 23 = .ok (.iaload, 1) := by decide +kernel
theorem dX3_digestedDream_24 : decode cX3_digestedDream 24 = .ok (.i2l, 1) := by decide +kernel
theorem dX3_digestedDream_25 : decode cX3_digestedDream 25 = .ok (.invokestatic 179, 3) := by decide +kernel
theorem dX3_digestedDream_28 : decode cX3_digestedDream 28 = .ok (.lstore 4, 2) := by decide +kernel
theorem dX3_digestedDream_30 : decode cX3_digestedDream 30 = .ok (.lload 4, 2) := by decide +kernel
theorem dX3_digestedDream_32 : decode cX3_digestedDream 32 = .ok (.aload_n 0, 1) := by decide +kernel
theorem dX3_digestedDream_33 : decode cX3_digestedDream 33 = .ok (.getfield 40, 3) := by decide +kernel
theorem dX3_digestedDream_36 : decode cX3_digestedDream 36 = .ok (.iload_n 3, 1) := by decide +kernel
theorem dX3_digestedDream_37 : decode cX3_digestedDream 37 = .ok (.iaload, 1) := by decide +kernel
theorem dX3_digestedDream_38 : decode cX3_digestedDream 38 = .ok (.i2l, 1) := by decide +kernel
theorem dX3_digestedDream_39 : decode cX3_digestedDream 39 = .ok (.invokestatic 179, 3) := by decide +kernel
theorem dX3_digestedDream_42 : decode cX3_digestedDream 42 = .ok (.lstore 4, 2) := by decide +kernel
theorem dX3_digestedDream_44 : decode cX3_digestedDream 44 = .ok (.lload 4, 2) := by decide +kernel
theorem dX3_digestedDream_46 : decode cX3_digestedDream 46 = .ok (.aload_n 0, 1) := by decide +kernel
theorem dX3_digestedDream_47 : decode cX3_digestedDream 47 = .ok (.getfield 30, 3) := by decide +kernel
theorem dX3_digestedDream_50 : decode cX3_digestedDream 50 = .ok (.iload_n 3, 1) := by decide +kernel
theorem dX3_digestedDream_51 : decode cX3_digestedDream 51 = .ok (.iaload, 1) := by decide +kernel
theorem dX3_digestedDream_52 : decode cX3_digestedDream 52 = .ok (.aload_n 0, 1) := by decide +kernel
theorem dX3_digestedDream_53 : decode cX3_digestedDream 53 = .ok (.getfield 10, 3) := by decide +kernel
theorem dX3_digestedDream_56 : decode cX3_digestedDream 56 = .ok (.getfield 43, 3) := by decide +kernel
theorem dX3_digestedDream_59 : decode cX3_digestedDream 59 = .ok (.invokestatic 248, 3) := by decide +kernel
theorem dX3_digestedDream_62 : decode cX3_digestedDream 62 = .ok (.lreturn, 1) := by decide +kernel
theorem dX3_digestedTerm_0 : decode cX3_digestedTerm 0 = .ok (.aload_n 0, 1) := by decide +kernel
theorem dX3_digestedTerm_1 : decode cX3_digestedTerm 1 = .ok (.getfield 19, 3) := by decide +kernel
theorem dX3_digestedTerm_4 : decode cX3_digestedTerm 4 = .ok (.getfield 151, 3) := by decide +kernel
theorem dX3_digestedTerm_7 : decode cX3_digestedTerm 7 = .ok (.iload_n 3, 1) := by decide +kernel
theorem dX3_digestedTerm_8 : decode cX3_digestedTerm 8 = .ok (.iaload, 1) := by decide +kernel
theorem dX3_digestedTerm_9 : decode cX3_digestedTerm 9 = .ok (.istore 4, 2) := by decide +kernel
theorem dX3_digestedTerm_11 : decode cX3_digestedTerm 11 = .ok (.aload_n 0, 1) := by decide +kernel
theorem dX3_digestedTerm_12 : decode cX3_digestedTerm 12 = .ok (.iload_n 3, 1) := by decide +kernel
theorem dX3_digestedTerm_13 : decode cX3_digestedTerm 13 = .ok (.invokevirtual 160, 3) := by decide +kernel
theorem dX3_digestedTerm_16 : decode cX3_digestedTerm 16 = .ok (.istore 5, 2) := by decide +kernel
theorem dX3_digestedTerm_18 : decode cX3_digestedTerm 18 = .ok (.lload_n 1, 1) := by decide +kernel
theorem dX3_digestedTerm_19 : decode cX3_digestedTerm 19 = .ok (.iload 4, 2) := by decide +kernel
theorem dX3_digestedTerm_21 : decode cX3_digestedTerm 21 = .ok (.invokestatic 104, 3) := by decide +kernel
theorem dX3_digestedTerm_24 : decode cX3_digestedTerm 24 = .ok (.i2l, 1) := by decide +kernel
theorem dX3_digestedTerm_25 : decode cX3_digestedTerm 25 = .ok (.invokestatic 179, 3) := by decide +kernel
theorem dX3_digestedTerm_28 : decode cX3_digestedTerm 28 = .ok (.lstore 6, 2) := by decide +kernel
theorem dX3_digestedTerm_30 : decode cX3_digestedTerm 30 = .ok (.lload 6, 2) := by decide +kernel
theorem dX3_digestedTerm_32 : decode cX3_digestedTerm 32 = .ok (.aload_n 0, 1) := by decide +kernel
theorem dX3_digestedTerm_33 : decode cX3_digestedTerm 33 = .ok (.iload 4, 2) := by decide +kernel
theorem dX3_digestedTerm_35 : decode cX3_digestedTerm 35 = .ok (.invokevirtual 154, 3) := by decide +kernel
theorem dX3_digestedTerm_38 : decode cX3_digestedTerm 38 = .ok (.i2l, 1) := by decide +kernel
theorem dX3_digestedTerm_39 : decode cX3_digestedTerm 39 = .ok (.invokestatic 179, 3) := by decide +kernel
theorem dX3_digestedTerm_42 : decode cX3_digestedTerm 42 = .ok (.lstore 6, 2) := by decide +kernel
theorem dX3_digestedTerm_44 : decode cX3_digestedTerm 44 = .ok (.lload 6, 2) := by decide +kernel
theorem dX3_digestedTerm_46 : decode cX3_digestedTerm 46 = .ok (.aload_n 0, 1) := by decide +kernel
theorem dX3_digestedTerm_47 : decode cX3_digestedTerm 47 = .ok (.iload 4, 2) := by decide +kernel
theorem dX3_digestedTerm_49 : decode cX3_digestedTerm 49 = .ok (.invokevirtual 157, 3) := by decide +kernel
theorem dX3_digestedTerm_52 : decode cX3_digestedTerm 52 = .ok (.invokestatic 104, 3) := by decide +kernel
theorem dX3_digestedTerm_55 : decode cX3_digestedTerm 55 = .ok (.i2l, 1) := by decide +kernel
theorem dX3_digestedTerm_56 : decode cX3_digestedTerm 56 = .ok (.invokestatic 179, 3) := by decide +kernel
theorem dX3_digestedTerm_59 : decode cX3_digestedTerm 59 = .ok (.lstore 6, 2) := by decide +kernel
theorem dX3_digestedTerm_61 : decode cX3_digestedTerm 61 = .ok (.lload 6, 2) := by decide +kernel
theorem dX3_digestedTerm_63 : decode cX3_digestedTerm 63 = .ok (.iload 5, 2) := by decide +kernel
theorem dX3_digestedTerm_65 : decode cX3_digestedTerm 65 = .ok (.invokestatic 104, 3) := by decide +kernel
theorem dX3_digestedTerm_68 : decode cX3_digestedTerm 68 = .ok (.i2l, 1) := by decide +kernel
theorem dX3_digestedTerm_69 : decode cX3_digestedTerm 69 = .ok (.invokestatic 179, 3) := by decide +kernel
theorem dX3_digestedTerm_72 : decode cX3_digestedTerm 72 = .ok (.lstore 6, 2) := by decide +kernel
theorem dX3_digestedTerm_74 : decode cX3_digestedTerm 74 = .ok (.iconst 0, 1) := by decide +kernel
theorem dX3_digestedTerm_75 : decode cX3_digestedTerm 75 = .ok (.istore 8, 2) := by decide +kernel
theorem dX3_digestedTerm_77 : decode cX3_digestedTerm 77 = .ok (.iload 8, 2) := by decide +kernel
theorem dX3_digestedTerm_79 : decode cX3_digestedTerm 79 = .ok (.bipush 16, 2) := by decide +kernel
theorem dX3_digestedTerm_81 : decode cX3_digestedTerm 81 = .ok (.if_icmp .ge 29, 3) := by decide +kernel
theorem dX3_digestedTerm_84 : decode cX3_digestedTerm 84 = .ok (.iload 8, 2) := by decide +kernel
theorem dX3_digestedTerm_86 : decode cX3_digestedTerm 86 = .ok (.iload 5, 2) := by decide +kernel
theorem dX3_digestedTerm_88 : decode cX3_digestedTerm 88 = .ok (.invokestatic 98, 3) := by decide +kernel
theorem dX3_digestedTerm_91 : decode cX3_digestedTerm 91 = .ok (.ifCond .eq 13, 3) := by decide +kernel
theorem dX3_digestedTerm_94 : decode cX3_digestedTerm 94 = .ok (.lload 6, 2) := by decide +kernel
theorem dX3_digestedTerm_96 : decode cX3_digestedTerm 96 = .ok (.iload 8, 2) := by decide +kernel
theorem dX3_digestedTerm_98 : decode cX3_digestedTerm 98 = .ok (.i2l, 1) := by decide +kernel
theorem dX3_digestedTerm_99 : decode cX3_digestedTerm 99 = .ok (.invokestatic 179, 3) := by decide +kernel
theorem dX3_digestedTerm_102 : decode cX3_digestedTerm 102 = .ok (.lstore 6, 2) := by decide +kernel
theorem dX3_digestedTerm_104 : decode cX3_digestedTerm 104 = .ok (.iinc 8 1, 3) := by decide +kernel
theorem dX3_digestedTerm_107 : decode cX3_digestedTerm 107 = .ok (.goto (-30), 3) := by decide +kernel
theorem dX3_digestedTerm_110 : decode cX3_digestedTerm 110 = .ok (.lload 6, 2) := by decide +kernel
theorem dX3_digestedTerm_112 : decode cX3_digestedTerm 112 = .ok (.iload 4, 2) := by decide +kernel
theorem dX3_digestedTerm_114 : decode cX3_digestedTerm 114 = .ok (.aload_n 0, 1) := by decide +kernel
theorem dX3_digestedTerm_115 : decode cX3_digestedTerm 115 = .ok (.getfield 84, 3) := by decide +kernel
theorem dX3_digestedTerm_118 : decode cX3_digestedTerm 118 = .ok (.invokestatic 248, 3) := by decide +kernel
theorem dX3_digestedTerm_121 : decode cX3_digestedTerm 121 = .ok (.lreturn, 1) := by decide +kernel
theorem dX3_digestedSet_0 : decode cX3_digestedSet 0 = .ok (.lload_n 0, 1) := by decide +kernel
theorem dX3_digestedSet_1 : decode cX3_digestedSet 1 = .ok (.lstore 4, 2) := by decide +kernel
theorem dX3_digestedSet_3 : decode cX3_digestedSet 3 = .ok (.iconst 0, 1) := by decide +kernel
theorem dX3_digestedSet_4 : decode cX3_digestedSet 4 = .ok (.istore 6, 2) := by decide +kernel
theorem dX3_digestedSet_6 : decode cX3_digestedSet 6 = .ok (.iload 6, 2) := by decide +kernel
theorem dX3_digestedSet_8 : decode cX3_digestedSet 8 = .ok (.iload_n 3, 1) := by decide +kernel
theorem dX3_digestedSet_9 : decode cX3_digestedSet 9 = .ok (.if_icmp .ge 30, 3) := by decide +kernel
theorem dX3_digestedSet_12 : decode cX3_digestedSet 12 = .ok (.lload 4, 2) := by decide +kernel
theorem dX3_digestedSet_14 : decode cX3_digestedSet 14 = .ok (.iload 6, 2) := by decide +kernel
theorem dX3_digestedSet_16 : decode cX3_digestedSet 16 = .ok (.iload_n 2, 1) := by decide +kernel
theorem dX3_digestedSet_17 : decode cX3_digestedSet 17 = .ok (.invokestatic 98, 3) := by decide +kernel
theorem dX3_digestedSet_20 : decode cX3_digestedSet 20 = .ok (.ifCond .eq 7, 3) := by decide +kernel
theorem dX3_digestedSet_23 : decode cX3_digestedSet 23 = .ok (.lconst 1, 1) := by decide +kernel
theorem dX3_digestedSet_24 : decode cX3_digestedSet 24 = .ok (.goto 4, 3) := by decide +kernel
theorem dX3_digestedSet_27 : decode cX3_digestedSet 27 = .ok (.lconst 0, 1) := by decide +kernel
theorem dX3_digestedSet_28 : decode cX3_digestedSet 28 = .ok (.invokestatic 179, 3) := by decide +kernel
theorem dX3_digestedSet_31 : decode cX3_digestedSet 31 = .ok (.lstore 4, 2) := by decide +kernel
theorem dX3_digestedSet_33 : decode cX3_digestedSet 33 = .ok (.iinc 6 1, 3) := by decide +kernel
theorem dX3_digestedSet_36 : decode cX3_digestedSet 36 = .ok (.goto (-30), 3) := by decide +kernel
theorem dX3_digestedSet_39 : decode cX3_digestedSet 39 = .ok (.lload 4, 2) := by decide +kernel
theorem dX3_digestedSet_41 : decode cX3_digestedSet 41 = .ok (.lreturn, 1) := by decide +kernel
theorem dX3_digested_0 : decode cX3_digested 0 = .ok (.lload_n 0, 1) := by decide +kernel
theorem dX3_digested_1 : decode cX3_digested 1 = .ok (.ldc2_w 252, 3) := by decide +kernel
theorem dX3_digested_4 : decode cX3_digested 4 = .ok (.lmul, 1) := by decide +kernel
theorem dX3_digested_5 : decode cX3_digested 5 = .ok (.lload_n 2, 1) := by decide +kernel
theorem dX3_digested_6 : decode cX3_digested 6 = .ok (.ladd, 1) := by decide +kernel
theorem dX3_digested_7 : decode cX3_digested 7 = .ok (.lreturn, 1) := by decide +kernel
theorem dX3_isIn_0 : decode cX3_isIn 0 = .ok (.iload_n 1, 1) := by decide +kernel
theorem dX3_isIn_1 : decode cX3_isIn 1 = .ok (.iload_n 0, 1) := by decide +kernel
theorem dX3_isIn_2 : decode cX3_isIn 2 = .ok (.ishr, 1) := by decide +kernel
theorem dX3_isIn_3 : decode cX3_isIn 3 = .ok (.iconst 1, 1) := by decide +kernel
theorem dX3_isIn_4 : decode cX3_isIn 4 = .ok (.iand, 1) := by decide +kernel
theorem dX3_isIn_5 : decode cX3_isIn 5 = .ok (.ifCond .eq 7, 3) := by decide +kernel
theorem dX3_isIn_8 : decode cX3_isIn 8 = .ok (.iconst 1, 1) := by decide +kernel
theorem dX3_isIn_9 : decode cX3_isIn 9 = .ok (.goto 4, 3) := by decide +kernel
theorem dX3_isIn_12 : decode cX3_isIn 12 = .ok (.iconst 0, 1) := by decide +kernel
theorem dX3_isIn_13 : decode cX3_isIn 13 = .ok (.ireturn, 1) := by decide +kernel
theorem dX3_memberAt_0 : decode cX3_memberAt 0 = .ok (.iconst 0, 1) := by decide +kernel
theorem dX3_memberAt_1 : decode cX3_memberAt 1 = .ok (.istore_n 2, 1) := by decide +kernel
theorem dX3_memberAt_2 : decode cX3_memberAt 2 = .ok (.iconst 0, 1) := by decide +kernel
theorem dX3_memberAt_3 : decode cX3_memberAt 3 = .ok (.istore_n 3, 1) := by decide +kernel
theorem dX3_memberAt_4 : decode cX3_memberAt 4 = .ok (.iload_n 3, 1) := by decide +kernel
theorem dX3_memberAt_5 : decode cX3_memberAt 5 = .ok (.bipush 16, 2) := by decide +kernel
theorem dX3_memberAt_7 : decode cX3_memberAt 7 = .ok (.if_icmp .ge 27, 3) := by decide +kernel
theorem dX3_memberAt_10 : decode cX3_memberAt 10 = .ok (.iload_n 3, 1) := by decide +kernel
theorem dX3_memberAt_11 : decode cX3_memberAt 11 = .ok (.iload_n 0, 1) := by decide +kernel
theorem dX3_memberAt_12 : decode cX3_memberAt 12 = .ok (.invokestatic 98, 3) := by decide +kernel
theorem dX3_memberAt_15 : decode cX3_memberAt 15 = .ok (.ifCond .eq 13, 3) := by decide +kernel
theorem dX3_memberAt_18 : decode cX3_memberAt 18 = .ok (.iload_n 2, 1) := by decide +kernel
theorem dX3_memberAt_19 : decode cX3_memberAt 19 = .ok (.iload_n 1, 1) := by decide +kernel
theorem dX3_memberAt_20 : decode cX3_memberAt 20 = .ok (.if_icmp .ne 5, 3) := by decide +kernel
theorem dX3_memberAt_23 : decode cX3_memberAt 23 = .ok (.iload_n 3, 1) := by decide +kernel
theorem dX3_memberAt_24 : decode cX3_memberAt 24 = .ok (.ireturn, 1) := by decide +kernel
theorem dX3_memberAt_25 : decode cX3_memberAt 25 = .ok (.iinc 2 1, 3) := by decide +kernel
theorem dX3_memberAt_28 : decode cX3_memberAt 28 = .ok (.iinc 3 1, 3) := by decide +kernel
theorem dX3_memberAt_31 : decode cX3_memberAt 31 = .ok (.goto (-27), 3) := by decide +kernel
theorem dX3_memberAt_34 : decode cX3_memberAt 34 = .ok (.iconst (-1), 1) := by decide +kernel
theorem dX3_memberAt_35 : decode cX3_memberAt 35 = .ok (.ireturn, 1) := by decide +kernel
theorem dX4_init_0 : decode cX4_init 0 = .ok (.aload_n 0, 1) := by decide +kernel
theorem dX4_init_1 : decode cX4_init 1 = .ok (.invokespecial 1, 3) := by decide +kernel
theorem dX4_init_4 : decode cX4_init 4 = .ok (.aload_n 0, 1) := by decide +kernel
theorem dX4_init_5 : decode cX4_init 5 = .ok (.bipush 16, 2) := by decide +kernel
theorem dX4_init_7 : decode cX4_init 7 = .ok (.newarray .int, 2) := by decide +kernel
theorem dX4_init_9 : decode cX4_init 9 = .ok (.putfield 9, 3) := by decide +kernel
theorem dX4_init_12 : decode cX4_init 12 = .ok (.aload_n 0, 1) := by decide +kernel
theorem dX4_init_13 : decode cX4_init 13 = .ok (.bipush 24, 2) := by decide +kernel
theorem dX4_init_15 : decode cX4_init 15 = .ok (.newarray .int, 2) := by decide +kernel
theorem dX4_init_17 : decode cX4_init 17 = .ok (.putfield 13, 3) := by decide +kernel
theorem dX4_init_20 : decode cX4_init 20 = .ok (.aload_n 0, 1) := by decide +kernel
theorem dX4_init_21 : decode cX4_init 21 = .ok (.bipush 24, 2) := by decide +kernel
theorem dX4_init_23 : decode cX4_init 23 = .ok (.newarray .int, 2) := by decide +kernel
theorem dX4_init_25 : decode cX4_init 25 = .ok (.putfield 16, 3) := by decide +kernel
theorem dX4_init_28 : decode cX4_init 28 = .ok (.aload_n 0, 1) := by decide +kernel
theorem dX4_init_29 : decode cX4_init 29 = .ok (.bipush 24, 2) := by decide +kernel
theorem dX4_init_31 : decode cX4_init 31 = .ok (.newarray .int, 2) := by decide +kernel
theorem dX4_init_33 : decode cX4_init 33 = .ok (.putfield 19, 3) := by decide +kernel
theorem dX4_init_36 : decode cX4_init 36 = .ok (.aload_n 0, 1) := by decide +kernel
theorem dX4_init_37 : decode cX4_init 37 = .ok (.bipush 20, 2) := by decide +kernel
theorem dX4_init_39 : decode cX4_init 39 = .ok (.newarray .int, 2) := by decide +kernel
theorem dX4_init_41 : decode cX4_init 41 = .ok (.putfield 22, 3) := by decide +kernel
theorem dX4_init_44 : decode cX4_init 44 = .ok (.aload_n 0, 1) := by decide +kernel
theorem dX4_init_45 : decode cX4_init 45 = .ok (.bipush 20, 2) := by decide +kernel
theorem dX4_init_47 : decode cX4_init 47 = .ok (.newarray .int, 2) := by decide +kernel
theorem dX4_init_49 : decode cX4_init 49 = .ok (.putfield 25, 3) := by decide +kernel
theorem dX4_init_52 : decode cX4_init 52 = .ok (.aload_n 0, 1) := by decide +kernel
theorem dX4_init_53 : decode cX4_init 53 = .ok (.bipush 20, 2) := by decide +kernel
theorem dX4_init_55 : decode cX4_init 55 = .ok (.newarray .int, 2) := by decide +kernel
theorem dX4_init_57 : decode cX4_init 57 = .ok (.putfield 28, 3) := by decide +kernel
theorem dX4_init_60 : decode cX4_init 60 = .ok (.aload_n 0, 1) := by decide +kernel
theorem dX4_init_61 : decode cX4_init 61 = .ok (.bipush 24, 2) := by decide +kernel
theorem dX4_init_63 : decode cX4_init 63 = .ok (.newarray .int, 2) := by decide +kernel
theorem dX4_init_65 : decode cX4_init 65 = .ok (.putfield 31, 3) := by decide +kernel
theorem dX4_init_68 : decode cX4_init 68 = .ok (.aload_n 0, 1) := by decide +kernel
theorem dX4_init_69 : decode cX4_init 69 = .ok (.bipush 16, 2) := by decide +kernel
theorem dX4_init_71 : decode cX4_init 71 = .ok (.newarray .int, 2) := by decide +kernel
theorem dX4_init_73 : decode cX4_init 73 = .ok (.putfield 34, 3) := by decide +kernel
theorem dX4_init_76 : decode cX4_init 76 = .ok (.aload_n 0, 1) := by decide +kernel
theorem dX4_init_77 : decode cX4_init 77 = .ok (.bipush 20, 2) := by decide +kernel
theorem dX4_init_79 : decode cX4_init 79 = .ok (.newarray .int, 2) := by decide +kernel
theorem dX4_init_81 : decode cX4_init 81 = .ok (.putfield 37, 3) := by decide +kernel
theorem dX4_init_84 : decode cX4_init 84 = .ok (.return_, 1) := by decide +kernel
theorem dX4_thrown_0 : decode cX4_thrown 0 = .ok (.aload_n 0, 1) := by decide +kernel
theorem dX4_thrown_1 : decode cX4_thrown 1 = .ok (.getfield 40, 3) := by decide +kernel
theorem dX4_thrown_4 : decode cX4_thrown 4 = .ok (.ireturn, 1) := by decide +kernel
theorem dX4_fail_0 : decode cX4_fail 0 = .ok (.aload_n 0, 1) := by decide +kernel
theorem dX4_fail_1 : decode cX4_fail 1 = .ok (.iload_n 1, 1) := by decide +kernel
theorem dX4_fail_2 : decode cX4_fail 2 = .ok (.putfield 40, 3) := by decide +kernel
theorem dX4_fail_5 : decode cX4_fail 5 = .ok (.iconst 0, 1) := by decide +kernel
theorem dX4_fail_6 : decode cX4_fail 6 = .ok (.ireturn, 1) := by decide +kernel
theorem dX4_failed_0 : decode cX4_failed 0 = .ok (.aload_n 0, 1) := by decide +kernel
theorem dX4_failed_1 : decode cX4_failed 1 = .ok (.iload_n 1, 1) := by decide +kernel
theorem dX4_failed_2 : decode cX4_failed 2 = .ok (.putfield 40, 3) := by decide +kernel
theorem dX4_failed_5 : decode cX4_failed 5 = .ok (.iconst 0, 1) := by decide +kernel
theorem dX4_failed_6 : decode cX4_failed 6 = .ok (.ireturn, 1) := by decide +kernel
theorem dX4_isIn_0 : decode cX4_isIn 0 = .ok (.iload_n 0, 1) := by decide +kernel
theorem dX4_isIn_1 : decode cX4_isIn 1 = .ok (.iload_n 1, 1) := by decide +kernel
theorem dX4_isIn_2 : decode cX4_isIn 2 = .ok (.if_icmp .lt 12, 3) := by decide +kernel
theorem dX4_isIn_5 : decode cX4_isIn 5 = .ok (.iload_n 0, 1) := by decide +kernel
theorem dX4_isIn_6 : decode cX4_isIn 6 = .ok (.iload_n 2, 1) := by decide +kernel
theorem dX4_isIn_7 : decode cX4_isIn 7 = .ok (.if_icmp .gt 7, 3) := by decide +kernel
theorem dX4_isIn_10 : decode cX4_isIn 10 = .ok (.iconst 1, 1) := by decide +kernel
theorem dX4_isIn_11 : decode cX4_isIn 11 = .ok (.goto 4, 3) := by decide +kernel
theorem dX4_isIn_14 : decode cX4_isIn 14 = .ok (.iconst 0, 1) := by decide +kernel
theorem dX4_isIn_15 : decode cX4_isIn 15 = .ok (.ireturn, 1) := by decide +kernel
theorem dX4_isTag_0 : decode cX4_isTag 0 = .ok (.iload_n 1, 1) := by decide +kernel
theorem dX4_isTag_1 : decode cX4_isTag 1 = .ok (.iconst 0, 1) := by decide +kernel
theorem dX4_isTag_2 : decode cX4_isTag 2 = .ok (.aload_n 0, 1) := by decide +kernel
theorem dX4_isTag_3 : decode cX4_isTag 3 = .ok (.getfield 44, 3) := by decide +kernel
theorem dX4_isTag_6 : decode cX4_isTag 6 = .ok (.iconst 1, 1) := by decide +kernel
theorem dX4_isTag_7 : decode cX4_isTag 7 = .ok (.isub, 1) := by decide +kernel
theorem dX4_isTag_8 : decode cX4_isTag 8 = .ok (.invokestatic 47, 3) := by decide +kernel
theorem dX4_isTag_11 : decode cX4_isTag 11 = .ok (.ireturn, 1) := by decide +kernel
theorem dX4_isDream_0 : decode cX4_isDream 0 = .ok (.iload_n 1, 1) := by decide +kernel
theorem dX4_isDream_1 : decode cX4_isDream 1 = .ok (.iconst 0, 1) := by decide +kernel
theorem dX4_isDream_2 : decode cX4_isDream 2 = .ok (.aload_n 0, 1) := by decide +kernel
theorem dX4_isDream_3 : decode cX4_isDream 3 = .ok (.getfield 51, 3) := by decide +kernel
theorem dX4_isDream_6 : decode cX4_isDream 6 = .ok (.iconst 1, 1) := by decide +kernel
theorem dX4_isDream_7 : decode cX4_isDream 7 = .ok (.isub, 1) := by decide +kernel
theorem dX4_isDream_8 : decode cX4_isDream 8 = .ok (.invokestatic 47, 3) := by decide +kernel
theorem dX4_isDream_11 : decode cX4_isDream 11 = .ok (.ireturn, 1) := by decide +kernel
theorem dX4_isTerm_0 : decode cX4_isTerm 0 = .ok (.iload_n 1, 1) := by decide +kernel
theorem dX4_isTerm_1 : decode cX4_isTerm 1 = .ok (.iconst 0, 1) := by decide +kernel
theorem dX4_isTerm_2 : decode cX4_isTerm 2 = .ok (.aload_n 0, 1) := by decide +kernel
theorem dX4_isTerm_3 : decode cX4_isTerm 3 = .ok (.getfield 54, 3) := by decide +kernel
theorem dX4_isTerm_6 : decode cX4_isTerm 6 = .ok (.iconst 1, 1) := by decide +kernel
theorem dX4_isTerm_7 : decode cX4_isTerm 7 = .ok (.isub, 1) := by decide +kernel
theorem dX4_isTerm_8 : decode cX4_isTerm 8 = .ok (.invokestatic 47, 3) := by decide +kernel
theorem dX4_isTerm_11 : decode cX4_isTerm 11 = .ok (.ireturn, 1) := by decide +kernel
theorem dX4_is_0 : decode cX4_is 0 = .ok (.iload_n 0, 1) := by decide +kernel
theorem dX4_is_1 : decode cX4_is 1 = .ok (.iload_n 1, 1) := by decide +kernel
theorem dX4_is_2 : decode cX4_is 2 = .ok (.ishr, 1) := by decide +kernel
theorem dX4_is_3 : decode cX4_is 3 = .ok (.iconst 1, 1) := by decide +kernel
theorem dX4_is_4 : decode cX4_is 4 = .ok (.iand, 1) := by decide +kernel
theorem dX4_is_5 : decode cX4_is 5 = .ok (.iconst 1, 1) := by decide +kernel
theorem dX4_is_6 : decode cX4_is 6 = .ok (.if_icmp .ne 7, 3) := by decide +kernel
theorem dX4_is_9 : decode cX4_is 9 = .ok (.iconst 1, 1) := by decide +kernel
theorem dX4_is_10 : decode cX4_is 10 = .ok (.goto 4, 3) := by decide +kernel
theorem dX4_is_13 : decode cX4_is 13 = .ok (.iconst 0, 1) := by decide +kernel
theorem dX4_is_14 : decode cX4_is 14 = .ok (.ireturn, 1) := by decide +kernel
theorem dX4_many_0 : decode cX4_many 0 = .ok (.iconst 0, 1) := by decide +kernel
theorem dX4_many_1 : decode cX4_many 1 = .ok (.istore_n 1, 1) := by decide +kernel
theorem dX4_many_2 : decode cX4_many 2 = .ok (.iload_n 0, 1) := by decide +kernel
theorem dX4_many_3 : decode cX4_many 3 = .ok (.istore_n 2, 1) := by decide +kernel
theorem dX4_many_4 : decode cX4_many 4 = .ok (.iload_n 2, 1) := by decide +kernel
theorem dX4_many_5 : decode cX4_many 5 = .ok (.ifCond .eq 15, 3) := by decide +kernel
theorem dX4_many_8 : decode cX4_many 8 = .ok (.iinc 1 1, 3) := by decide +kernel
theorem dX4_many_11 : decode cX4_many 11 = .ok (.iload_n 2, 1) := by decide +kernel
theorem dX4_many_12 : decode cX4_many 12 = .ok (.iload_n 2, 1) := by decide +kernel
theorem dX4_many_13 : decode cX4_many 13 = .ok (.iconst 1, 1) := by decide +kernel
theorem dX4_many_14 : decode cX4_many 14 = .ok (.isub, 1) := by decide +kernel
theorem dX4_many_15 : decode cX4_many 15 = .ok (.iand, 1) := by decide +kernel
theorem dX4_many_16 : decode cX4_many 16 = .ok (.istore_n 2, 1) := by decide +kernel
theorem dX4_many_17 : decode cX4_many 17 = .ok (.goto (-13), 3) := by decide +kernel
theorem dX4_many_20 : decode cX4_many 20 = .ok (.iload_n 1, 1) := by decide +kernel
theorem dX4_many_21 : decode cX4_many 21 = .ok (.ireturn, 1) := by decide +kernel
theorem dX4_above_0 : decode cX4_above 0 = .ok (.iconst 0, 1) := by decide +kernel
theorem dX4_above_1 : decode cX4_above 1 = .ok (.istore_n 2, 1) := by decide +kernel
theorem dX4_above_2 : decode cX4_above 2 = .ok (.aload_n 0, 1) := by decide +kernel
theorem dX4_above_3 : decode cX4_above 3 = .ok (.getfield 9, 3) := by decide +kernel
theorem dX4_above_6 : decode cX4_above 6 = .ok (.iload_n 1, 1) := by decide +kernel
theorem dX4_above_7 : decode cX4_above 7 = .ok (.iaload, 1) := by decide +kernel
theorem dX4_above_8 : decode cX4_above 8 = .ok (.istore_n 3, 1) := by decide +kernel
theorem dX4_above_9 : decode cX4_above 9 = .ok (.iload_n 3, 1) := by decide +kernel
theorem dX4_above_10 : decode cX4_above 10 = .ok (.iconst (-1), 1) := by decide +kernel
theorem dX4_above_11 : decode cX4_above 11 = .ok (.if_icmp .eq 19, 3) := by decide +kernel
theorem dX4_above_14 : decode cX4_above 14 = .ok (.iload_n 2, 1) := by decide +kernel
theorem dX4_above_15 : decode cX4_above 15 = .ok (.iconst 1, 1) := by decide +kernel
theorem dX4_above_16 : decode cX4_above 16 = .ok (.iload_n 3, 1) := by decide +kernel
theorem dX4_above_17 : decode cX4_above 17 = .ok (.ishl, 1) := by decide +kernel
theorem dX4_above_18 : decode cX4_above 18 = .ok (.ior, 1) := by decide +kernel
theorem dX4_above_19 : decode cX4_above 19 = .ok (.istore_n 2, 1) := by decide +kernel
theorem dX4_above_20 : decode cX4_above 20 = .ok (.aload_n 0, 1) := by decide +kernel
theorem dX4_above_21 : decode cX4_above 21 = .ok (.getfield 9, 3) := by decide +kernel
theorem dX4_above_24 : decode cX4_above 24 = .ok (.iload_n 3, 1) := by decide +kernel
theorem dX4_above_25 : decode cX4_above 25 = .ok (.iaload, 1) := by decide +kernel
theorem dX4_above_26 : decode cX4_above 26 = .ok (.istore_n 3, 1) := by decide +kernel
theorem dX4_above_27 : decode cX4_above 27 = .ok (.goto (-18), 3) := by decide +kernel
theorem dX4_above_30 : decode cX4_above 30 = .ok (.iload_n 2, 1) := by decide +kernel
theorem dX4_above_31 : decode cX4_above 31 = .ok (.ireturn, 1) := by decide +kernel
theorem dX4_below_0 : decode cX4_below 0 = .ok (.aload_n 0, 1) := by decide +kernel
theorem dX4_below_1 : decode cX4_below 1 = .ok (.iload_n 1, 1) := by decide +kernel
theorem dX4_below_2 : decode cX4_below 2 = .ok (.invokevirtual 57, 3) := by decide +kernel
theorem dX4_below_5 : decode cX4_below 5 = .ok (.iload_n 2, 1) := by decide +kernel
theorem dX4_below_6 : decode cX4_below 6 = .ok (.invokestatic 61, 3) := by decide +kernel
theorem dX4_below_9 : decode cX4_below 9 = .ok (.ireturn, 1) := by decide +kernel
theorem dX4_tagsUnder_0 : decode cX4_tagsUnder 0 = .ok (.iconst 0, 1) := by decide +kernel
theorem dX4_tagsUnder_1 : decode cX4_tagsUnder 1 = .ok (.istore_n 2, 1) := by decide +kernel
theorem dX4_tagsUnder_2 : decode cX4_tagsUnder 2 = .ok (.iconst 0, 1) := by decide +kernel
theorem dX4_tagsUnder_3 : decode cX4_tagsUnder 3 = .ok (.istore_n 3, 1) := by decide +kernel
theorem dX4_tagsUnder_4 : decode cX4_tagsUnder 4 = .ok (.iload_n 3, 1) := by decide +kernel
theorem dX4_tagsUnder_5 : decode cX4_tagsUnder 5 = .ok (.aload_n 0, 1) := by decide +kernel
theorem dX4_tagsUnder_6 : decode cX4_tagsUnder 6 = .ok (.getfield 44, 3) := by decide +kernel
theorem dX4_tagsUnder_9 : decode cX4_tagsUnder 9 = .ok (.if_icmp .ge 26, 3) := by decide +kernel
theorem dX4_tagsUnder_12 : decode cX4_tagsUnder 12 = .ok (.iload_n 2, 1) := by decide +kernel
theorem dX4_tagsUnder_13 : decode cX4_tagsUnder 13 = .ok (.aload_n 0, 1) := by decide +kernel
theorem dX4_tagsUnder_14 : decode cX4_tagsUnder 14 = .ok (.iload_n 3, 1) := by decide +kernel
theorem dX4_tagsUnder_15 : decode cX4_tagsUnder 15 = .ok (.iload_n 1, 1) := by decide +kernel
theorem dX4_tagsUnder_16 : decode cX4_tagsUnder 16 = .ok (.invokevirtual 65, 3) := by decide +kernel
theorem dX4_tagsUnder_19 : decode cX4_tagsUnder 19 = .ok (.ifCond .eq 7, 3) := by decide +kernel
theorem dX4_tagsUnder_22 : decode cX4_tagsUnder 22 = .ok (.iconst 1, 1) := by decide +kernel
theorem dX4_tagsUnder_23 : decode cX4_tagsUnder 23 = .ok (.goto 4, 3) := by decide +kernel
theorem dX4_tagsUnder_26 : decode cX4_tagsUnder 26 = .ok (.iconst 0, 1) := by decide +kernel
theorem dX4_tagsUnder_27 : decode cX4_tagsUnder 27 = .ok (.iadd, 1) := by decide +kernel
theorem dX4_tagsUnder_28 : decode cX4_tagsUnder 28 = .ok (.istore_n 2, 1) := by decide +kernel
theorem dX4_tagsUnder_29 : decode cX4_tagsUnder 29 = .ok (.iinc 3 1, 3) := by decide +kernel
theorem dX4_tagsUnder_32 : decode cX4_tagsUnder 32 = .ok (.goto (-28), 3) := by decide +kernel
theorem dX4_tagsUnder_35 : decode cX4_tagsUnder 35 = .ok (.iload_n 2, 1) := by decide +kernel
theorem dX4_tagsUnder_36 : decode cX4_tagsUnder 36 = .ok (.ireturn, 1) := by decide +kernel
theorem dX4_reckon_0 : decode cX4_reckon 0 = .ok (.iconst 0, 1) := by decide +kernel
theorem dX4_reckon_1 : decode cX4_reckon 1 = .ok (.istore_n 1, 1) := by decide +kernel
theorem dX4_reckon_2 : decode cX4_reckon 2 = .ok (.iload_n 1, 1) := by decide +kernel
theorem dX4_reckon_3 : decode cX4_reckon 3 = .ok (.aload_n 0, 1) := by decide +kernel
theorem dX4_reckon_4 : decode cX4_reckon 4 = .ok (.getfield 44, 3) := by decide +kernel
theorem dX4_reckon_7 : decode cX4_reckon 7 = .ok (.if_icmp .ge 16, 3) := by decide +kernel
theorem dX4_reckon_10 : decode cX4_reckon 10 = .ok (.aload_n 0, 1) := by decide +kernel
theorem dX4_reckon_11 : decode cX4_reckon 11 = .ok (.getfield 34, 3) := by decide +kernel
theorem dX4_reckon_14 : decode cX4_reckon 14 = .ok (.iload_n 1, 1) := by decide +kernel
theorem dX4_reckon_15 : decode cX4_reckon 15 = .ok (.iconst 0, 1) := by decide +kernel
theorem dX4_reckon_16 : decode cX4_reckon 16 = .ok (.iastore, 1) := by decide +kernel
theorem dX4_reckon_17 : decode cX4_reckon 17 = .ok (.iinc 1 1, 3) := by decide +kernel
theorem dX4_reckon_20 : decode cX4_reckon 20 = .ok (.goto (-18), 3) := by decide +kernel
theorem dX4_reckon_23 : decode cX4_reckon 23 = .ok (.iconst 0, 1) := by decide +kernel
theorem dX4_reckon_24 : decode cX4_reckon 24 = .ok (.istore_n 1, 1) := by decide +kernel
theorem dX4_reckon_25 : decode cX4_reckon 25 = .ok (.iload_n 1, 1) := by decide +kernel
theorem dX4_reckon_26 : decode cX4_reckon 26 = .ok (.aload_n 0, 1) := by decide +kernel
theorem dX4_reckon_27 : decode cX4_reckon 27 = .ok (.getfield 51, 3) := by decide +kernel
theorem dX4_reckon_30 : decode cX4_reckon 30 = .ok (.if_icmp .ge 105, 3) := by decide +kernel
theorem dX4_reckon_33 : decode cX4_reckon 33 = .ok (.aload_n 0, 1) := by decide +kernel
theorem dX4_reckon_34 : decode cX4_reckon 34 = .ok (.getfield 31, 3) := by decide +kernel
theorem dX4_reckon_37 : decode cX4_reckon 37 = .ok (.iload_n 1, 1) := by decide +kernel
theorem dX4_reckon_38 : decode cX4_reckon 38 = .ok (.aload_n 0, 1) := by decide +kernel
theorem dX4_reckon_39 : decode cX4_reckon 39 = .ok (.getfield 13, 3) := by decide +kernel
theorem dX4_reckon_42 : decode cX4_reckon 42 = .ok (.iload_n 1, 1) := by decide +kernel
theorem dX4_reckon_43 : decode cX4_reckon 43 = .ok (.iaload, 1) := by decide +kernel
theorem dX4_reckon_44 : decode cX4_reckon 44 = .ok (.iastore, 1) := by decide +kernel
theorem dX4_reckon_45 : decode cX4_reckon 45 = .ok (.iconst 0, 1) := by decide +kernel
theorem dX4_reckon_46 : decode cX4_reckon 46 = .ok (.istore_n 2, 1) := by decide +kernel
theorem dX4_reckon_47 : decode cX4_reckon 47 = .ok (.iload_n 2, 1) := by decide +kernel
theorem dX4_reckon_48 : decode cX4_reckon 48 = .ok (.aload_n 0, 1) := by decide +kernel
theorem dX4_reckon_49 : decode cX4_reckon 49 = .ok (.getfield 44, 3) := by decide +kernel
theorem dX4_reckon_52 : decode cX4_reckon 52 = .ok (.if_icmp .ge 36, 3) := by decide +kernel
theorem dX4_reckon_55 : decode cX4_reckon 55 = .ok (.aload_n 0, 1) := by decide +kernel
theorem dX4_reckon_56 : decode cX4_reckon 56 = .ok (.getfield 13, 3) := by decide +kernel
theorem dX4_reckon_59 : decode cX4_reckon 59 = .ok (.iload_n 1, 1) := by decide +kernel
theorem dX4_reckon_60 : decode cX4_reckon 60 = .ok (.iaload, 1) := by decide +kernel
theorem dX4_reckon_61 : decode cX4_reckon 61 = .ok (.iload_n 2, 1) := by decide +kernel
theorem dX4_reckon_62 : decode cX4_reckon 62 = .ok (.invokestatic 61, 3) := by decide +kernel
theorem dX4_reckon_65 : decode cX4_reckon 65 = .ok (.ifCond .eq 17, 3) := by decide +kernel
theorem dX4_reckon_68 : decode cX4_reckon 68 = .ok (.aload_n 0, 1) := by decide +kernel
theorem dX4_reckon_69 : decode cX4_reckon 69 = .ok (.getfield 31, 3) := by decide +kernel
theorem dX4_reckon_72 : decode cX4_reckon 72 = .ok (.iload_n 1, 1) := by decide +kernel
theorem dX4_reckon_73 : decode cX4_reckon 73 = .ok (.dup2, 1) := by decide +kernel
theorem dX4_reckon_74 : decode cX4_reckon 74 = .ok (.iaload, 1) := by decide +kernel
theorem dX4_reckon_75 : decode cX4_reckon 75 = .ok (.aload_n 0, 1) := by decide +kernel
theorem dX4_reckon_76 : decode cX4_reckon 76 = .ok (.iload_n 2, 1) := by decide +kernel
theorem dX4_reckon_77 : decode cX4_reckon 77 = .ok (.invokevirtual 57, 3) := by decide +kernel
theorem dX4_reckon_80 : decode cX4_reckon 80 = .ok (.ior, 1) := by decide +kernel
theorem dX4_reckon_81 : decode cX4_reckon 81 = .ok (.iastore, 1) := by decide +kernel
theorem dX4_reckon_82 : decode cX4_reckon 82 = .ok (.iinc 2 1, 3) := by decide +kernel
theorem dX4_reckon_85 : decode cX4_reckon 85 = .ok (.goto (-38), 3) := by decide +kernel
theorem dX4_reckon_88 : decode cX4_reckon 88 = .ok (.iconst 0, 1) := by decide +kernel
theorem dX4_reckon_89 : decode cX4_reckon 89 = .ok (.istore_n 2, 1) := by decide +kernel
theorem dX4_reckon_90 : decode cX4_reckon 90 = .ok (.iload_n 2, 1) := by decide +kernel
theorem dX4_reckon_91 : decode cX4_reckon 91 = .ok (.aload_n 0, 1) := by decide +kernel
theorem dX4_reckon_92 : decode cX4_reckon 92 = .ok (.getfield 44, 3) := by decide +kernel
theorem dX4_reckon_95 : decode cX4_reckon 95 = .ok (.if_icmp .ge 34, 3) := by decide +kernel
theorem dX4_reckon_98 : decode cX4_reckon 98 = .ok (.aload_n 0, 1) := by decide +kernel
theorem dX4_reckon_99 : decode cX4_reckon 99 = .ok (.getfield 31, 3) := by decide +kernel
theorem dX4_reckon_102 : decode cX4_reckon 102 = .ok (.iload_n 1, 1) := by decide +kernel
theorem dX4_reckon_103 : decode cX4_reckon 103 = .ok (.iaload, 1) := by decide +kernel
theorem dX4_reckon_104 : decode cX4_reckon 104 = .ok (.iload_n 2, 1) := by decide +kernel
theorem dX4_reckon_105 : decode cX4_reckon 105 = .ok (.invokestatic 61, 3) := by decide +kernel
theorem dX4_reckon_108 : decode cX4_reckon 108 = .ok (.ifCond .eq 15, 3) := by decide +kernel
theorem dX4_reckon_111 : decode cX4_reckon 111 = .ok (.aload_n 0, 1) := by decide +kernel
theorem dX4_reckon_112 : decode cX4_reckon 112 = .ok (.getfield 34, 3) := by decide +kernel
theorem dX4_reckon_115 : decode cX4_reckon 115 = .ok (.iload_n 2, 1) := by decide +kernel
theorem dX4_reckon_116 : decode cX4_reckon 116 = .ok (.dup2, 1) := by decide +kernel
theorem dX4_reckon_117 : decode cX4_reckon 117 = .ok (.iaload, 1) := by decide +kernel
theorem dX4_reckon_118 : decode cX4_reckon 118 = .ok (.iconst 1, 1) := by decide +kernel
theorem dX4_reckon_119 : decode cX4_reckon 119 = .ok (.iload_n 1, 1) := by decide +kernel
theorem dX4_reckon_120 : decode cX4_reckon 120 = .ok (.ishl, 1) := by decide +kernel
theorem dX4_reckon_121 : decode cX4_reckon 121 = .ok (.ior, 1) := by decide +kernel
theorem dX4_reckon_122 : decode cX4_reckon 122 = .ok (.iastore, 1) := by decide +kernel
theorem dX4_reckon_123 : decode cX4_reckon 123 = .ok (.iinc 2 1, 3) := by decide +kernel
theorem dX4_reckon_126 : decode cX4_reckon 126 = .ok (.goto (-36), 3) := by decide +kernel
theorem dX4_reckon_129 : decode cX4_reckon 129 = .ok (.iinc 1 1, 3) := by decide +kernel
theorem dX4_reckon_132 : decode cX4_reckon 132 = .ok (.goto (-107), 3) := by decide +kernel
theorem dX4_reckon_135 : decode cX4_reckon 135 = .ok (.iconst 0, 1) := by decide +kernel
theorem dX4_reckon_136 : decode cX4_reckon 136 = .ok (.istore_n 1, 1) := by decide +kernel
theorem dX4_reckon_137 : decode cX4_reckon 137 = .ok (.iload_n 1, 1) := by decide +kernel
theorem dX4_reckon_138 : decode cX4_reckon 138 = .ok (.aload_n 0, 1) := by decide +kernel
theorem dX4_reckon_139 : decode cX4_reckon 139 = .ok (.getfield 54, 3) := by decide +kernel
theorem dX4_reckon_142 : decode cX4_reckon 142 = .ok (.if_icmp .ge 150, 3) := by decide +kernel
theorem dX4_reckon_145 : decode cX4_reckon 145 = .ok (.aload_n 0, 1) := by decide +kernel
theorem dX4_reckon_146 : decode cX4_reckon 146 = .ok (.getfield 22, 3) := by decide +kernel
theorem dX4_reckon_149 : decode cX4_reckon 149 = .ok (.iload_n 1, 1) := by decide +kernel
theorem dX4_reckon_150 : decode cX4_reckon 150 = .ok (.iaload, 1) := by decide +kernel
theorem dX4_reckon_151 : decode cX4_reckon 151 = .ok (.ifCond .ne 23, 3) := by decide +kernel
theorem dX4_reckon_154 : decode cX4_reckon 154 = .ok (.aload_n 0, 1) := by decide +kernel
theorem dX4_reckon_155 : decode cX4_reckon 155 = .ok (.getfield 37, 3) := by decide +kernel
theorem dX4_reckon_158 : decode cX4_reckon 158 = .ok (.iload_n 1, 1) := by decide +kernel
theorem dX4_reckon_159 : decode cX4_reckon 159 = .ok (.aload_n 0, 1) := by decide +kernel
theorem dX4_reckon_160 : decode cX4_reckon 160 = .ok (.getfield 34, 3) := by decide +kernel
theorem dX4_reckon_163 : decode cX4_reckon 163 = .ok (.aload_n 0, 1) := by decide +kernel
theorem dX4_reckon_164 : decode cX4_reckon 164 = .ok (.getfield 25, 3) := by decide +kernel
theorem dX4_reckon_167 : decode cX4_reckon 167 = .ok (.iload_n 1, 1) := by decide +kernel
theorem dX4_reckon_168 : decode cX4_reckon 168 = .ok (.iaload, 1) := by decide +kernel
theorem dX4_reckon_169 : decode cX4_reckon 169 = .ok (.iaload, 1) := by decide +kernel
